section
/-! small numbers, memory, loops -/
def o3 (k : Nat) : Int32 := Int32.ofNat k
theorem o3_int {k : Nat} (h : k < 2147483648) : (o3 k).toInt = k := Int32.toInt_ofNat_of_lt h
theorem o3_nat {k : Nat} (h : k < 2147483648) : (o3 k).toNatClampNeg = k := Int32.toNatClampNeg_ofNat_of_lt h
theorem o3_lt {a b : Nat} (ha : a < 2147483648) (hb : b < 2147483648) : o3 a < o3 b ↔ a < b := by
  rw [ni_lt, o3_int ha, o3_int hb]; omega
theorem o3_le {a b : Nat} (ha : a < 2147483648) (hb : b < 2147483648) : o3 a ≤ o3 b ↔ a ≤ b := by
  rw [ni_le, o3_int ha, o3_int hb]; omega
theorem o3_inj {a b : Nat} (ha : a < 2147483648) (hb : b < 2147483648) : o3 a = o3 b ↔ a = b := by
  rw [ni_eq, o3_int ha, o3_int hb]; omega
theorem o3_add {a b : Nat} : o3 a + o3 b = o3 (a + b) := (Int32.ofNat_add a b).symm
theorem o3_mul {a b : Nat} : o3 a * o3 b = o3 (a * b) := (Int32.ofNat_mul a b).symm
theorem o3_sub {a b : Nat} (h : b ≤ a) : o3 a - o3 b = o3 (a - b) := (Int32.ofNat_sub a b h).symm
theorem o3_s {a : Nat} : o3 a + 1 = o3 (a + 1) := o3_add (b := 1)
theorem o3_l (n : Nat) : (no_index (OfNat.ofNat n) : Int32) = o3 (OfNat.ofNat n) := rfl
theorem o3_nn {a : Nat} (ha : a < 2147483648) : ¬ o3 a < 0 := by
  rw [ni_lt, o3_int ha, ni_0]; omega
theorem o3_0le {a : Nat} (ha : a < 2147483648) : 0 ≤ o3 a := by
  rw [ni_le, o3_int ha, ni_0]; omega
theorem o3_of {x : Int32} (h : 0 ≤ x.toInt) : x = o3 x.toNatClampNeg := by
  rw [ni_eq, o3_int (by have := ni_nat h; have := ni_hi x; omega), ni_nat h]
theorem o3_ex {x : Int32} (h : 0 ≤ x.toInt) : ∃ k, x = o3 k ∧ (k : Int) = x.toInt := ⟨x.toNatClampNeg, o3_of h, ni_nat h⟩
theorem o3_m1 {a : Nat} (ha : a < 2147483648) : o3 a ≠ -1 := by
  intro h
  have := o3_nn ha
  rw [h] at this
  exact this (by decide)
theorem ix_ok {k n : Nat} (h : k < n) (hn : n < 2147483648) : ¬ (o3 k < 0 ∨ n ≤ (o3 k).toNatClampNeg) := by
  rw [o3_nat (by omega)]
  intro q
  rcases q with q | q
  · exact o3_nn (by omega) q
  · omega
theorem gI_o {S : fS} {a n k : Nat} (h : k < n) (hn : n < 2147483648) : gI S a n (o3 k) = some (S.1 a k) := by
  unfold gI
  rw [if_neg (ix_ok h hn), o3_nat (by omega)]
theorem gL_o {S : fS} {a n k : Nat} (h : k < n) (hn : n < 2147483648) : gL S a n (o3 k) = some (S.2 a k) := by
  unfold gL
  rw [if_neg (ix_ok h hn), o3_nat (by omega)]
theorem sI_o {S : fS} {a n k : Nat} {x : Int32} (h : k < n) (hn : n < 2147483648) : sI S a n (o3 k) x = some (pI S a k x) := by
  unfold sI
  rw [if_neg (ix_ok h hn), o3_nat (by omega)]
theorem sL_o {S : fS} {a n k : Nat} {x : Int64} (h : k < n) (hn : n < 2147483648) : sL S a n (o3 k) x = some (pL S a k x) := by
  unfold sL
  rw [if_neg (ix_ok h hn), o3_nat (by omega)]
theorem gI_l {S : fS} {a n k : Nat} (h : k < n) (hn : n < 2147483648) : gI S a n (no_index (OfNat.ofNat k)) = some (S.1 a k) := gI_o h hn
theorem gL_l {S : fS} {a n k : Nat} (h : k < n) (hn : n < 2147483648) : gL S a n (no_index (OfNat.ofNat k)) = some (S.2 a k) := gL_o h hn
theorem sI_l {S : fS} {a n k : Nat} {x : Int32} (h : k < n) (hn : n < 2147483648) : sI S a n (no_index (OfNat.ofNat k)) x = some (pI S a k x) := sI_o h hn
theorem sL_l {S : fS} {a n k : Nat} {x : Int64} (h : k < n) (hn : n < 2147483648) : sL S a n (no_index (OfNat.ofNat k)) x = some (pL S a k x) := sL_o h hn
theorem fr_up' {α : Type} {f : Nat → Nat → α} {b j : Nat} {x : α} {a k : Nat} (h : ¬ (a = b ∧ k = j)) : mm_up f b j x a k = f a k := by
  unfold mm_up
  by_cases ha : a = b
  · rw [if_pos ha]
    have hk : ¬ k = j := fun q => h ⟨ha, q⟩
    show (if k = j then x else f b k) = _
    rw [if_neg hk, ha]
  · rw [if_neg ha]
theorem pI_get {S : fS} {a k b j : Nat} {x : Int32} : (pI S a k x).1 b j = if b = a ∧ j = k then x else S.1 b j := by
  by_cases h : b = a ∧ j = k
  · rw [if_pos h]
    obtain ⟨rfl, rfl⟩ := h
    unfold pI mm_up
    simp
  · rw [if_neg h]
    exact fr_up' h
theorem pL_get {S : fS} {a k b j : Nat} {x : Int64} : (pL S a k x).2 b j = if b = a ∧ j = k then x else S.2 b j := by
  by_cases h : b = a ∧ j = k
  · rw [if_pos h]
    obtain ⟨rfl, rfl⟩ := h
    unfold pL mm_up
    simp
  · rw [if_neg h]
    exact fr_up' h
theorem pI_2 {S : fS} {a k : Nat} {x : Int32} : (pI S a k x).2 = S.2 := rfl
theorem pL_1 {S : fS} {a k : Nat} {x : Int64} : (pL S a k x).1 = S.1 := rfl
theorem fs_ext {S T : fS} (h1 : ∀ a k, S.1 a k = T.1 a k) (h2 : ∀ a k, S.2 a k = T.2 a k) : S = T := Prod.ext (funext fun a => funext fun k => h1 a k) (funext fun a => funext fun k => h2 a k)
theorem pI_self {S : fS} {a k : Nat} : pI S a k (S.1 a k) = S := fs_ext (fun b j => by
  rw [pI_get]
  by_cases h : b = a ∧ j = k
  · rw [if_pos h, h.1, h.2]
  · rw [if_neg h]) (fun _ _ => rfl)
theorem pI_pI {S : fS} {a k : Nat} {x y : Int32} : pI (pI S a k x) a k y = pI S a k y := fs_ext (fun b j => by
  rw [pI_get, pI_get, pI_get]
  by_cases h : b = a ∧ j = k
  · rw [if_pos h, if_pos h]
  · rw [if_neg h, if_neg h, if_neg h]) (fun _ _ => rfl)
theorem pI_sw {S : fS} {a k b j : Nat} {x y : Int32} (h : ¬ (a = b ∧ k = j)) : pI (pI S a k x) b j y = pI (pI S b j y) a k x := fs_ext (fun c i => by
  rw [pI_get, pI_get, pI_get, pI_get]
  by_cases h1 : c = b ∧ i = j
  · rw [if_pos h1, if_neg (fun q => h ⟨q.1.symm.trans h1.1, q.2.symm.trans h1.2⟩), if_pos h1]
  · rw [if_neg h1, if_neg h1]) (fun _ _ => rfl)
/-- a loop with fuel: in each turn it ends well, or goes on with less to do -/
theorem lp_go {σ β : Type} {L : Nat → σ → Option β} (Inv : Nat → σ → Prop) (Z : Option β → Prop) (h : ∀ d s n, Inv d s → Z (L (n + 1) s) ∨ ∃ d' s', d' < d ∧ Inv d' s' ∧ L (n + 1) s = L n s') : ∀ n d s, d < n → Inv d s → Z (L n s) := by
  intro n
  induction n with
  | zero => intro d s hd; exact absurd hd (Nat.not_lt_zero _)
  | succ n ih =>
    intro d s hd hi
    rcases h d s n hi with hz | ⟨d', s', hlt, hi', e⟩
    · exact hz
    · rw [e]
      exact ih d' s' (by omega) hi'
theorem bd_some {α β : Type} {a : α} {f : α → Option β} : (some a).bind f = f a := rfl
theorem FU_lt {d : Nat} (h : d < 100000) : d < FU := h
end
section
/-! texts: what both readers do, byte by byte -/
def skf (t : Nat → Int32) (n : Nat) : Nat → Nat → Nat
  | 0, i => i
  | f + 1, i => if i < n ∧ t i = 32 then skf t n f (i + 1) else i
/-- behind the blanks -/
def sk (t : Nat → Int32) (n i : Nat) : Nat := skf t n (n - i) i
theorem sk_1 {t : Nat → Int32} {n i : Nat} (h : i < n) (ht : t i = 32) : sk t n i = sk t n (i + 1) := by
  unfold sk
  rw [show n - i = (n - (i + 1)) + 1 by omega]
  show (if i < n ∧ t i = 32 then _ else _) = _
  rw [if_pos ⟨h, ht⟩]
theorem sk_0 {t : Nat → Int32} {n i : Nat} (h : ¬ (i < n ∧ t i = 32)) : sk t n i = i := by
  unfold sk
  cases n - i with
  | zero => rfl
  | succ f =>
    show (if i < n ∧ t i = 32 then _ else _) = _
    rw [if_neg h]
theorem skf_pr {t : Nat → Int32} {n : Nat} : ∀ f i, n - i ≤ f → i ≤ skf t n f i ∧ (i ≤ n → skf t n f i ≤ n) ∧ ¬ (skf t n f i < n ∧ t (skf t n f i) = 32) := by
  intro f
  induction f with
  | zero =>
    intro i h
    refine ⟨Nat.le_refl _, fun h => h, fun q => ?_⟩
    have : i < n := q.1
    omega
  | succ f ih =>
    intro i h
    by_cases hc : i < n ∧ t i = 32
    · have e : skf t n (f + 1) i = skf t n f (i + 1) := if_pos hc
      rw [e]
      obtain ⟨h1, h2, h3⟩ := ih (i + 1) (by omega)
      exact ⟨by omega, fun _ => h2 (by omega), h3⟩
    · have e : skf t n (f + 1) i = i := if_neg hc
      rw [e]
      exact ⟨Nat.le_refl _, fun h => h, hc⟩
theorem sk_ge {t : Nat → Int32} {n i : Nat} : i ≤ sk t n i := (skf_pr (n - i) i (Nat.le_refl _)).1
theorem sk_le {t : Nat → Int32} {n i : Nat} (h : i ≤ n) : sk t n i ≤ n := (skf_pr (n - i) i (Nat.le_refl _)).2.1 h
theorem sk_nb {t : Nat → Int32} {n i : Nat} : ¬ (sk t n i < n ∧ t (sk t n i) = 32) := (skf_pr (n - i) i (Nat.le_refl _)).2.2
theorem sk_id {t : Nat → Int32} {n i : Nat} : sk t n (sk t n i) = sk t n i := sk_0 sk_nb
/-- a small letter; a digit -/
def ltr (t : Nat → Int32) (n k : Nat) : Bool := decide (k < n ∧ 97 ≤ (t k).toInt ∧ (t k).toInt ≤ 122)
def dgt (t : Nat → Int32) (n k : Nat) : Prop := k < n ∧ 48 ≤ (t k).toInt ∧ (t k).toInt ≤ 57
/-- just this word stands there: its letters, and none behind it -/
def wat (t : Nat → Int32) (n : Nat) : List Int32 → Nat → Bool
  | [], i => !ltr t n i
  | c :: w, i => decide (i < n ∧ t i = c) && wat t n w (i + 1)
theorem ltr_iff {t : Nat → Int32} {n k : Nat} : ltr t n k = true ↔ k < n ∧ 97 ≤ (t k).toInt ∧ (t k).toInt ≤ 122 := by
  unfold ltr
  rw [decide_eq_true_iff]
/-- how many digits stand there -/
def dlf (t : Nat → Int32) (n : Nat) : Nat → Nat → Nat
  | 0, _ => 0
  | f + 1, i => if i < n ∧ 48 ≤ (t i).toInt ∧ (t i).toInt ≤ 57 then dlf t n f (i + 1) + 1 else 0
def dl (t : Nat → Int32) (n i : Nat) : Nat := dlf t n (n - i) i
/-- the number that the first k digits at i are -/
def dv (t : Nat → Int32) (i : Nat) : Nat → Nat
  | 0 => 0
  | k + 1 => dv t i k * 10 + ((t (i + k)).toInt - 48).toNat
theorem dl_1 {t : Nat → Int32} {n i : Nat} (h : dgt t n i) : dl t n i = dl t n (i + 1) + 1 := by
  unfold dl
  have := h.1
  rw [show n - i = (n - (i + 1)) + 1 by omega]
  exact if_pos h
theorem dl_0 {t : Nat → Int32} {n i : Nat} (h : ¬ dgt t n i) : dl t n i = 0 := by
  unfold dl
  cases n - i with
  | zero => rfl
  | succ f =>
    exact if_neg h
theorem dl_le {t : Nat → Int32} {n : Nat} : ∀ d i, n - i = d → i ≤ n → i + dl t n i ≤ n := by
  intro d
  induction d with
  | zero =>
    intro i h h2
    rw [dl_0 (fun q => by have := q.1; omega)]; omega
  | succ d ih =>
    intro i h h2
    by_cases hc : dgt t n i
    · rw [dl_1 hc]
      have := ih (i + 1) (by omega) (by omega)
      omega
    · rw [dl_0 hc]; omega
theorem dl_end {t : Nat → Int32} {n : Nat} : ∀ d i, n - i = d → ¬ dgt t n (i + dl t n i) := by
  intro d
  induction d with
  | zero =>
    intro i h q
    have := q.1
    omega
  | succ d ih =>
    intro i h
    by_cases hc : dgt t n i
    · rw [dl_1 hc, show i + (dl t n (i + 1) + 1) = i + 1 + dl t n (i + 1) by omega]
      exact ih (i + 1) (by omega)
    · rw [dl_0 hc]; exact hc
theorem dl_dg {t : Nat → Int32} {n : Nat} : ∀ k i, k < dl t n i → dgt t n (i + k) := by
  intro k
  induction k with
  | zero =>
    intro i h
    by_cases hc : dgt t n i
    · exact hc
    · rw [dl_0 hc] at h; omega
  | succ k ih =>
    intro i h
    by_cases hc : dgt t n i
    · rw [dl_1 hc] at h
      have := ih (i + 1) (by omega)
      rw [show i + (k + 1) = i + 1 + k by omega]
      exact this
    · rw [dl_0 hc] at h; omega
theorem dv_lt {t : Nat → Int32} {n i : Nat} : ∀ k, k ≤ dl t n i → dv t i k < 10 ^ k := by
  intro k
  induction k with
  | zero => intro _; exact Nat.one_pos
  | succ k ih =>
    intro h
    have h1 := ih (by omega)
    have h2 := dl_dg (t := t) (n := n) k i (by omega)
    have h3 := h2.2
    show dv t i k * 10 + ((t (i + k)).toInt - 48).toNat < 10 ^ (k + 1)
    rw [Nat.pow_succ]
    omega
theorem dl_sub {t : Nat → Int32} {n j : Nat} : ∀ k, k ≤ dl t n j → dl t n (j + k) = dl t n j - k := by
  intro k
  induction k with
  | zero => intro _; rfl
  | succ k ih =>
    intro h
    have h1 := ih (by omega)
    have h2 := dl_dg (t := t) (n := n) k j (by omega)
    have h3 := dl_1 h2
    rw [show j + (k + 1) = j + k + 1 by omega]
    omega
/-- a number there, from lo to hi: 0, or its fault -/
def nmf (t : Nat → Int32) (n i : Nat) (lo hi : Int) : Nat := if dl t n (sk t n i) = 0 then 1 + 8 * sk t n i else if dl t n (sk t n i) ≤ 5 ∧ lo ≤ dv t (sk t n i) (dl t n (sk t n i)) ∧ (dv t (sk t n i) (dl t n (sk t n i)) : Int) ≤ hi then 0 else 1 + 8 * sk t n i + 1
/-- the number, and the place behind it -/
def nmv (t : Nat → Int32) (n i : Nat) : Nat := dv t (sk t n i) (dl t n (sk t n i))
def nmp (t : Nat → Int32) (n i : Nat) : Nat := sk t n i + dl t n (sk t n i)
theorem nmp_le {t : Nat → Int32} {n i : Nat} (h : i ≤ n) : nmp t n i ≤ n := dl_le _ _ rfl (sk_le h)
theorem nmp_ge {t : Nat → Int32} {n i : Nat} : i ≤ nmp t n i := Nat.le_trans sk_ge (Nat.le_add_right _ _)
theorem nmf_0 {t : Nat → Int32} {n i : Nat} {lo hi : Int} (h : nmf t n i lo hi = 0) : 0 < dl t n (sk t n i) ∧ dl t n (sk t n i) ≤ 5 ∧ lo ≤ nmv t n i ∧ (nmv t n i : Int) ≤ hi := by
  unfold nmf at h
  unfold nmv
  by_cases h1 : dl t n (sk t n i) = 0
  · rw [if_pos h1] at h; omega
  · rw [if_neg h1] at h
    by_cases h2 : dl t n (sk t n i) ≤ 5 ∧ lo ≤ dv t (sk t n i) (dl t n (sk t n i)) ∧ (dv t (sk t n i) (dl t n (sk t n i)) : Int) ≤ hi
    · exact ⟨by omega, h2⟩
    · rw [if_neg h2] at h; omega
theorem nmp_gt {t : Nat → Int32} {n i : Nat} {lo hi : Int} (h : nmf t n i lo hi = 0) : i < nmp t n i := by
  have h1 := (nmf_0 h).1
  have h2 := sk_ge (t := t) (n := n) (i := i)
  unfold nmp
  omega
theorem nmf_le {t : Nat → Int32} {n i : Nat} {lo hi : Int} (h : i ≤ n) : nmf t n i lo hi ≤ 8 * n + 2 := by
  have := sk_le (t := t) h
  unfold nmf
  split
  · omega
  · split
    · omega
    · omega
end
section
/-! the class's tape -/
def tS (S : fS) (i s f : Int32) : fS := pI (pI (pI S 1 2 i) 1 3 s) 1 4 f
theorem tS_at {S : fS} {i s f j : Int32} : pI (tS S i s f) 1 2 j = tS S j s f := by
  unfold tS
  rw [pI_sw (by decide), pI_sw (a := 1) (k := 3) (by decide), pI_pI]
theorem tS_st {S : fS} {i s f j : Int32} : pI (tS S i s f) 1 3 j = tS S i j f := by
  unfold tS
  rw [pI_sw (by decide), pI_pI]
theorem tS_fa {S : fS} {i s f j : Int32} : pI (tS S i s f) 1 4 j = tS S i s j := by
  unfold tS
  rw [pI_pI]
theorem tS_2 {S : fS} {i s f : Int32} : (tS S i s f).1 1 2 = i := id rfl
theorem tS_3 {S : fS} {i s f : Int32} : (tS S i s f).1 1 3 = s := id rfl
theorem tS_4 {S : fS} {i s f : Int32} : (tS S i s f).1 1 4 = f := id rfl
theorem tS_1 {S : fS} {i s f : Int32} : (tS S i s f).1 1 1 = S.1 1 1 := id rfl
theorem tS_t {S : fS} {i s f : Int32} : (tS S i s f).1 2 = S.1 2 := id rfl
theorem tS_of {S : fS} : tS S (S.1 1 2) (S.1 1 3) (S.1 1 4) = S := by
  unfold tS
  rw [pI_self, pI_self, pI_self]
section CT
variable {S : fS} {n : Nat} {s f : Int32}
theorem ct_skip (hn : S.1 1 1 = o3 n) (hl : n ≤ 400) {i : Nat} (hi : i ≤ n) : f_X7_skipBlanks (tS S (o3 i) s f) = some (tS S (o3 (sk (S.1 2) n i)) s f) := by
  unfold f_X7_skipBlanks
  refine lp_go (L := fun k x => lp_X7_skipBlanks_0 (fun S10 => some S10) k x) (fun d x => ∃ j, x = tS S (o3 j) s f ∧ j ≤ n ∧ d = n - j ∧ sk (S.1 2) n j = sk (S.1 2) n i) (fun x => x = some (tS S (o3 (sk (S.1 2) n i)) s f)) ?_ FU (n - i) _ (FU_lt (by omega)) ⟨i, rfl, hi, rfl, rfl⟩
  rintro d x k ⟨j, rfl, hj, rfl, hs⟩
  show (lp_X7_skipBlanks_0 _ (k + 1) _ = _) ∨ _
  rw [lp_X7_skipBlanks_0.eq_2]
  simp only [tS_1, tS_2, hn]
  by_cases hc : j < n
  · rw [if_neg (by rw [o3_le (by omega) (by omega)]; omega), if_neg (by rw [o3_l, o3_le (by omega) (by omega)]; omega), gI_o (by omega) (by omega), bd_some, tS_t]
    by_cases hb : S.1 2 j = 32
    · rw [if_pos hb, bd_some, tS_at, o3_s]
      exact Or.inr ⟨n - (j + 1), _, by omega, ⟨j + 1, rfl, by omega, rfl, by rw [← hs, sk_1 hc hb]⟩, rfl⟩
    · rw [if_neg hb]
      refine Or.inl ?_
      rw [← hs, sk_0 (fun q => hb q.2)]
  · rw [if_pos (by rw [o3_le (by omega) (by omega)]; omega)]
    refine Or.inl ?_
    rw [← hs, sk_0 (fun q => hc q.1)]
theorem ct_byte (hl : n ≤ 400) {X : fS} (h1 : X.1 1 1 = o3 n) {k : Nat} (hk : k < 2000000) : f_X7_byteAt (o3 k) X = some (if k < n then X.1 2 k else -1) := by
  unfold f_X7_byteAt
  rw [if_neg (o3_nn (by omega)), h1]
  by_cases hc : k < n
  · rw [if_neg (by rw [o3_le (by omega) (by omega)]; omega), if_neg (by rw [o3_l, o3_le (by omega) (by omega)]; omega), gI_o (by omega) (by omega), bd_some, if_pos hc]
  · rw [if_pos (by rw [o3_le (by omega) (by omega)]; omega), if_neg hc]
theorem ct_sign (hn : S.1 1 1 = o3 n) (hl : n ≤ 400) {c : Int32} (hc : c ≠ -1) {i : Nat} (hi : i ≤ n) : f_X7_takeSign c (tS S (o3 i) s f) = some (if sk (S.1 2) n i < n ∧ S.1 2 (sk (S.1 2) n i) = c then (1, tS S (o3 (sk (S.1 2) n i + 1)) (o3 (sk (S.1 2) n i)) f) else (0, tS S (o3 (sk (S.1 2) n i)) s f)) := by
  have hj := sk_le (t := S.1 2) hi
  unfold f_X7_takeSign
  rw [ct_skip hn hl hi, bd_some, tS_2, ct_byte hl (X := tS S (o3 (sk (S.1 2) n i)) s f) (by rw [tS_1, hn]) (by omega), bd_some, tS_t]
  generalize sk (S.1 2) n i = j at hj
  by_cases h : j < n ∧ S.1 2 j = c
  · rw [if_pos h.1, if_pos h.2, if_pos h, bd_some, bd_some, tS_st, tS_2, tS_at, o3_s]
  · rw [if_neg h, if_neg]
    intro q
    by_cases hlt : j < n
    · rw [if_pos hlt] at q; exact h ⟨hlt, q⟩
    · rw [if_neg hlt] at q; exact hc q.symm
theorem ct_end (hn : S.1 1 1 = o3 n) (hl : n ≤ 400) {i : Nat} (hi : i ≤ n) : f_X7_isAtEnd (tS S (o3 i) s f) = some (if sk (S.1 2) n i < n then 0 else 1, tS S (o3 (sk (S.1 2) n i)) s f) := by
  have hj := sk_le (t := S.1 2) hi
  unfold f_X7_isAtEnd
  rw [ct_skip hn hl hi, bd_some, tS_2, tS_1, hn]
  by_cases h : sk (S.1 2) n i < n
  · rw [if_pos ((o3_lt (by omega) (by omega)).mpr h), if_pos h]
  · rw [if_neg (fun q => h ((o3_lt (by omega) (by omega)).mp q)), if_neg h]
theorem ct_fail {X : fS} {p k : Int32} : f_X7_fail p k X = some (0, pI X 1 4 (1 + 8 * p + k)) := rfl
theorem ct_digit (hl : n ≤ 400) {X : fS} (h1 : X.1 1 1 = o3 n) {k : Nat} (hk : k < 2000000) : f_X7_isDigitAt (o3 k) X = some (if 0 < dl (X.1 2) n k then 1 else 0) := by
  unfold f_X7_isDigitAt
  rw [ct_byte hl h1 hk, bd_some]
  by_cases hc : dgt (X.1 2) n k
  · obtain ⟨h1, h2, h3⟩ := hc
    rw [if_pos h1, if_neg (fun q => by have q := ni_lt.mp q; rw [show (48 : Int32).toInt = 48 from rfl] at q; omega), if_neg (fun q => by have q := ni_lt.mp q; rw [show (57 : Int32).toInt = 57 from rfl] at q; omega), dl_1 ⟨h1, h2, h3⟩, if_pos (by omega)]
  · rw [dl_0 hc, if_neg (Nat.lt_irrefl 0)]
    by_cases hk : k < n
    · rw [if_pos hk]
      by_cases h2 : X.1 2 k < 48
      · rw [if_pos h2]
      · rw [if_neg h2, if_pos]
        have h2 : ¬ (X.1 2 k).toInt < 48 := fun q => h2 (ni_lt.mpr q)
        refine ni_lt.mpr ?_
        show 57 < (X.1 2 k).toInt
        refine Int.not_le.mp (fun q => hc ⟨hk, by omega, q⟩)
    · rw [if_neg hk]
      rfl
/-- the word's first letters, from k on -/
def wpf (t : Nat → Int32) (n : Nat) : List Int32 → Nat → Bool
  | [], _ => true
  | c :: w, i => decide (i < n ∧ t i = c) && wpf t n w (i + 1)
theorem wat_wpf {t : Nat → Int32} {n : Nat} : ∀ (w : List Int32) (i : Nat), wat t n w i = (wpf t n w i && !ltr t n (i + w.length)) := by
  intro w
  induction w with
  | nil => intro i; show (!ltr t n i) = (true && !ltr t n (i + 0)); simp
  | cons c w ih =>
    intro i
    show (decide (i < n ∧ t i = c) && wat t n w (i + 1)) = (decide (i < n ∧ t i = c) && wpf t n w (i + 1) && !ltr t n (i + (w.length + 1)))
    rw [ih (i + 1), Bool.and_assoc, show i + 1 + w.length = i + (w.length + 1) by omega]
theorem ct_wordlp (hn : S.1 1 1 = o3 n) (hl : n ≤ 400) {w j : Nat} {K : fS → Option (Int32 × fS)} (hj : j ≤ n) (hlen : (mm_sb.getD w []).length < 20) (hpos : ∀ c ∈ mm_sb.getD w [], c ≠ -1) : ∀ (u : List Int32) (k m : Nat), k + u.length = (mm_sb.getD w []).length → (mm_sb.getD w []).drop k = u → u.length < m → lp_X7_takeWord_11 w (o3 (mm_sb.getD w []).length) K m (o3 k) (tS S (o3 j) s f) = if wpf (S.1 2) n u (j + k) then K (tS S (o3 j) s f) else some (0, tS S (o3 j) s f) := by
  intro u
  induction u with
  | nil =>
    intro k m h1 h2 h3
    obtain ⟨m, rfl⟩ : ∃ m', m = m' + 1 := ⟨m - 1, by have : 0 < m := h3; omega⟩
    rw [lp_X7_takeWord_11.eq_2, if_pos (by rw [o3_le (by omega) (by omega)]; have : k + 0 = _ := h1; omega)]
    rfl
  | cons c u ih =>
    intro k m h1 h2 h3
    have h1 : k + (u.length + 1) = _ := h1
    have h3 : u.length + 1 < m := h3
    obtain ⟨m, rfl⟩ : ∃ m', m = m' + 1 := ⟨m - 1, by omega⟩
    have hg : (mm_sb.getD w []).getD k 0 = c := by
      have : ((mm_sb.getD w []).drop k)[0]? = some c := by rw [h2]; rfl
      rw [List.getElem?_drop] at this
      rw [List.getD_eq_getElem?_getD, show k = k + 0 from rfl, this]; rfl
    have hmem : c ∈ mm_sb.getD w [] := List.mem_of_mem_drop (i := k) (by rw [h2]; exact List.mem_cons_self)
    rw [lp_X7_takeWord_11.eq_2, if_neg (by rw [o3_le (by omega) (by omega)]; omega), tS_2, o3_add, ct_byte hl (X := tS S (o3 j) s f) (by rw [tS_1, hn]) (by omega), bd_some, tS_t]
    have hch : f_J0_charAt_5068e w (o3 k) = some c := by
      unfold f_J0_charAt_5068e
      rw [if_neg (ix_ok (by omega) (by omega)), o3_nat (by omega), hg]
    rw [hch, bd_some]
    show _ = if (decide (j + k < n ∧ S.1 2 (j + k) = c) && wpf (S.1 2) n u (j + k + 1)) = true then _ else _
    by_cases h : j + k < n ∧ S.1 2 (j + k) = c
    · rw [if_pos h.1, if_pos h.2, o3_s, ih (k + 1) m (by omega) (by rw [← List.drop_drop, h2]; rfl) (by omega), decide_eq_true h, Bool.true_and, show j + (k + 1) = j + k + 1 by omega]
    · rw [decide_eq_false h, Bool.false_and]
      rw [if_neg]
      · rfl
      intro q
      by_cases hlt : j + k < n
      · rw [if_pos hlt] at q; exact h ⟨hlt, q⟩
      · rw [if_neg hlt] at q; exact hpos c hmem q.symm
theorem ct_sblen : ∀ w, w < 16 → (mm_sb.getD w []).length < 20 := by decide
theorem ct_sbpos : ∀ w, w < 16 → ∀ c ∈ mm_sb.getD w [], c ≠ -1 := by decide
theorem ct_word (hn : S.1 1 1 = o3 n) (hl : n ≤ 400) {w i : Nat} (hw : w < 16) (hi : i ≤ n) : f_X7_takeWord w (tS S (o3 i) s f) = some (if wat (S.1 2) n (mm_sb.getD w []) (sk (S.1 2) n i) then (1, tS S (o3 (sk (S.1 2) n i + (mm_sb.getD w []).length)) (o3 (sk (S.1 2) n i)) f) else (0, tS S (o3 (sk (S.1 2) n i)) s f)) := by
  have hj := sk_le (t := S.1 2) hi
  have hlen := ct_sblen w hw
  unfold f_X7_takeWord
  rw [ct_skip hn hl hi, bd_some, show f_J0_length_8abf5 w = some (o3 (mm_sb.getD w []).length) from rfl, bd_some]
  generalize sk (S.1 2) n i = j at hj
  rw [show (0 : Int32) = o3 0 from rfl, ct_wordlp hn hl hj hlen (ct_sbpos w hw) (mm_sb.getD w []) 0 FU (by omega) rfl (FU_lt (by omega)), wat_wpf]
  rw [show j + 0 = j from rfl]
  by_cases hp : wpf (S.1 2) n (mm_sb.getD w []) j = true
  · rw [if_pos hp, hp, Bool.true_and, tS_2, o3_add, ct_byte hl (X := tS S (o3 j) s f) (by rw [tS_1, hn]) (by omega), bd_some, tS_t]
    generalize (mm_sb.getD w []).length = len at hlen
    by_cases hl2 : ltr (S.1 2) n (j + len) = true
    · obtain ⟨g1, g2, g3⟩ := ltr_iff.mp hl2
      rw [if_pos g1, if_neg (fun q => by have q := ni_lt.mp q; rw [show (97 : Int32).toInt = 97 from rfl] at q; omega), if_neg (fun q => by have q := ni_lt.mp q; rw [show (122 : Int32).toInt = 122 from rfl] at q; omega), hl2]
      rfl
    · have hl3 : ltr (S.1 2) n (j + len) = false := by
        cases hq : ltr (S.1 2) n (j + len)
        · rfl
        · exact absurd hq hl2
      rw [hl3]
      show _ = some (if true = true then _ else _)
      rw [if_pos rfl]
      have fin : ((some (pI (tS S (o3 j) s f) 1 3 ((tS S (o3 j) s f).1 1 2))).bind fun S21 => (some (pI S21 1 2 ((S21.1 1 2) + o3 len))).bind fun S24 => some ((1 : Int32), S24)) = some ((1 : Int32), tS S (o3 (j + len)) (o3 j) f) := by
        rw [bd_some, bd_some, tS_2, tS_st, tS_2, tS_at, o3_add]
      by_cases hlt : j + len < n
      · rw [if_pos hlt]
        by_cases h1 : S.1 2 (j + len) < 97
        · rw [if_pos h1]; exact fin
        · rw [if_neg h1, if_pos]
          · exact fin
          · have h1 : ¬ (S.1 2 (j + len)).toInt < 97 := fun q => h1 (ni_lt.mpr q)
            refine ni_lt.mpr (Int.not_le.mp (fun q => hl2 (ltr_iff.mpr ⟨hlt, by omega, q⟩)))
      · rw [if_neg hlt, if_pos (by decide)]
        exact fin
  · rw [if_neg hp]
    have hp : wpf (S.1 2) n (mm_sb.getD w []) j = false := by
      cases hq : wpf (S.1 2) n (mm_sb.getD w []) j
      · rfl
      · exact absurd hq hp
    rw [hp, Bool.false_and]
    rfl
theorem dv_5 {t : Nat → Int32} {j q : Nat} (hq : q ≤ 5) (hq2 : q ≤ dl t n j) : dv t j q < 100000 := by
  have h1 := dv_lt (t := t) (n := n) (i := j) q hq2
  have h2 : 10 ^ q ≤ 10 ^ 5 := Nat.pow_le_pow_right (by decide) hq
  have h3 : (10 : Nat) ^ 5 = 100000 := by decide
  omega
theorem ct_numlp (hn : S.1 1 1 = o3 n) (hl : n ≤ 400) {lo hi : Int32} {K : Int32 → fS → Option (Int32 × fS)} {j : Nat} (hj : j ≤ n) : ∀ d k m, k + d = dl (S.1 2) n j → d < m → lp_X7_takeNumber_14 lo hi K m (o3 (dv (S.1 2) j (min k 5))) (tS S (o3 (j + k)) (o3 j) f) = K (o3 (dv (S.1 2) j (min (dl (S.1 2) n j) 5))) (tS S (o3 (j + dl (S.1 2) n j)) (o3 j) f) := by
  have hL := dl_le (t := S.1 2) (n := n) _ j rfl hj
  intro d
  induction d with
  | zero =>
    intro k m hk hm
    obtain ⟨m, rfl⟩ : ∃ m', m = m' + 1 := ⟨m - 1, by omega⟩
    have hk : k = dl (S.1 2) n j := hk
    subst hk
    have hE := dl_end (t := S.1 2) (n := n) _ j rfl
    rw [lp_X7_takeNumber_14.eq_2, tS_1, tS_2, hn]
    by_cases hc : n ≤ j + dl (S.1 2) n j
    · rw [if_pos ((o3_le (by omega) (by omega)).mpr hc)]
    · rw [if_neg (fun q => hc ((o3_le (by omega) (by omega)).mp q)), ct_digit hl (X := tS S (o3 (j + dl (S.1 2) n j)) (o3 j) f) (by rw [tS_1, hn]) (by omega), bd_some, tS_t, dl_0 hE, if_neg (Nat.lt_irrefl 0), if_pos rfl]
  | succ d ih =>
    intro k m hk hm
    obtain ⟨m, rfl⟩ : ∃ m', m = m' + 1 := ⟨m - 1, by omega⟩
    have hg := dl_dg (t := S.1 2) (n := n) k j (by omega)
    obtain ⟨g1, g2, g3⟩ := hg
    have hds := dl_sub (t := S.1 2) (n := n) (j := j) k (by omega)
    rw [lp_X7_takeNumber_14.eq_2, tS_1, tS_2, hn, if_neg (by rw [o3_le (by omega) (by omega)]; omega)]
    rw [ct_digit hl (X := tS S (o3 (j + k)) (o3 j) f) (by rw [tS_1, hn]) (by omega), bd_some, tS_t, if_pos (show 0 < dl (S.1 2) n (j + k) by omega), if_neg (by decide), tS_3, o3_sub (by omega), show j + k - j = k by omega]
    by_cases h5 : 5 ≤ k
    · rw [o3_l, if_pos ((o3_le (by omega) (by omega)).mpr h5), bd_some, tS_at, o3_s, show j + k + 1 = j + (k + 1) by omega, show min k 5 = min (k + 1) 5 by omega]
      exact ih (k + 1) m (by omega) (by omega)
    · rw [o3_l, if_neg (fun q => h5 ((o3_le (by omega) (by omega)).mp q)), ct_byte hl (X := tS S (o3 (j + k)) (o3 j) f) (by rw [tS_1, hn]) (by omega), bd_some, tS_t, if_pos g1, bd_some, tS_at, o3_s, show j + k + 1 = j + (k + 1) by omega, ← ih (k + 1) m (by omega) (by omega)]
      have hd1 := dv_5 (n := n) (t := S.1 2) (j := j) (q := k) (by omega) (by omega)
      obtain ⟨b, hb, hb2⟩ := o3_ex (x := S.1 2 (j + k)) (by omega)
      rw [show min k 5 = k by omega, show min (k + 1) 5 = k + 1 by omega]
      have e : o3 (dv (S.1 2) j k) * 10 + S.1 2 (j + k) - 48 = o3 (dv (S.1 2) j (k + 1)) := by
        show _ = o3 (dv (S.1 2) j k * 10 + ((S.1 2 (j + k)).toInt - 48).toNat)
        rw [hb, show (10 : Int32) = o3 10 from rfl, show (48 : Int32) = o3 48 from rfl, o3_mul, o3_add, o3_sub (by omega), o3_int (by omega), show dv (S.1 2) j k * 10 + b - 48 = dv (S.1 2) j k * 10 + ((b : Int) - 48).toNat by omega]
      rw [e]
theorem ct_num (hn : S.1 1 1 = o3 n) (hl : n ≤ 400) {lo hi : Int32} {i : Nat} (hi' : i ≤ n) : f_X7_takeNumber lo hi (tS S (o3 i) s f) = some (if nmf (S.1 2) n i lo.toInt hi.toInt = 0 then (o3 (nmv (S.1 2) n i), tS S (o3 (nmp (S.1 2) n i)) (o3 (sk (S.1 2) n i)) f) else (-1, tS S (o3 (nmp (S.1 2) n i)) (o3 (sk (S.1 2) n i)) (o3 (nmf (S.1 2) n i lo.toInt hi.toInt)))) := by
  have hj := sk_le (t := S.1 2) hi'
  unfold f_X7_takeNumber nmf nmv nmp
  rw [ct_skip hn hl hi', bd_some, bd_some, tS_2, tS_st]
  generalize sk (S.1 2) n i = j at hj
  have hL := dl_le (t := S.1 2) (n := n) _ j rfl hj
  have hdk : ∀ q, q ≤ 5 → q ≤ dl (S.1 2) n j → dv (S.1 2) j q < 100000 := fun q h1 h2 => dv_5 h1 h2
  have hlp := ct_numlp hn hl (lo := lo) (hi := hi) (f := f) hj (dl (S.1 2) n j) 0 FU (by omega) (FU_lt (by omega))
    (K := fun u22 S23 => if (S23.1 1 2) = (S23.1 1 3) then ((f_X7_fail (S23.1 1 3) (0 : Int32) S23).bind fun q37 =>
  some ((-1 : Int32), q37.2)) else
  (if (5 : Int32) < ((S23.1 1 2) - (S23.1 1 3)) then ((f_X7_fail (S23.1 1 3) (1 : Int32) S23).bind fun q27 =>
  some ((-1 : Int32), q27.2)) else
  ((f_X10_isFrom u22 lo hi S23).bind fun q30 =>
  if q30 = (0 : Int32) then ((f_X7_fail (S23.1 1 3) (1 : Int32) S23).bind fun q34 =>
  some ((-1 : Int32), q34.2)) else
  (some (u22, S23)))))
  refine Eq.trans hlp ?_
  generalize dl (S.1 2) n j = L at hL hdk
  rw [tS_2, tS_3]
  by_cases h0 : L = 0
  · subst h0
    rw [show j + 0 = j from rfl, if_pos rfl, if_pos rfl, if_neg (by omega), ct_fail, bd_some]
    show some (-1, pI (tS S (o3 j) (o3 j) f) 1 4 _) = _
    rw [tS_fa, show (1 : Int32) = o3 1 from rfl, show (8 : Int32) = o3 8 from rfl, show (0 : Int32) = o3 0 from rfl, o3_mul, o3_add, o3_add]
    rfl
  · rw [if_neg (by rw [o3_inj (by omega) (by omega)]; omega), o3_sub (by omega), show j + L - j = L by omega, if_neg h0]
    have ffail : ((f_X7_fail (o3 j) 1 (tS S (o3 (j + L)) (o3 j) f)).bind fun q27 => some ((-1 : Int32), q27.2)) = some (-1, tS S (o3 (j + L)) (o3 j) (o3 (1 + 8 * j + 1))) := by
      rw [ct_fail, bd_some]
      show some (-1, pI (tS S (o3 (j + L)) (o3 j) f) 1 4 _) = _
      rw [tS_fa, show (1 : Int32) = o3 1 from rfl, show (8 : Int32) = o3 8 from rfl, o3_mul, o3_add, o3_add]
    by_cases h5 : 5 < L
    · rw [show (5 : Int32) = o3 5 from rfl, if_pos ((o3_lt (by omega) (by omega)).mpr h5), ffail, if_neg (c := L ≤ 5 ∧ _) (fun q => by omega), if_neg (by omega)]
    · rw [show (5 : Int32) = o3 5 from rfl, if_neg (fun q => h5 ((o3_lt (by omega) (by omega)).mp q)), show min L 5 = L by omega]
      have hv := hdk L (by omega) (by omega)
      rcases op_isFrom01 (v := o3 (dv (S.1 2) j L)) (a := lo) (b := hi) (S := tS S (o3 (j + L)) (o3 j) f) with ⟨h, h1⟩ | ⟨h, h1, h2⟩
      · rw [o3_int (by omega)] at h1
        rw [h, bd_some, if_pos rfl, ffail, if_neg (c := L ≤ 5 ∧ _) (fun q => h1 q.2), if_neg (by omega)]
      · rw [o3_int (by omega)] at h1 h2
        rw [h, bd_some, if_neg (by decide), if_pos (c := L ≤ 5 ∧ _) ⟨by omega, h1, h2⟩, if_pos rfl]
end CT
end
section
/-! the reference's tape -/
def llf (t : Nat → Int32) (n : Nat) : Nat → Nat → Nat
  | 0, _ => 0
  | f + 1, i => if ltr t n i = true then llf t n f (i + 1) + 1 else 0
/-- how many small letters stand there -/
def ll (t : Nat → Int32) (n i : Nat) : Nat := llf t n (n - i) i
theorem ll_1 {t : Nat → Int32} {n i : Nat} (h : ltr t n i = true) : ll t n i = ll t n (i + 1) + 1 := by
  unfold ll
  have := (ltr_iff.mp h).1
  rw [show n - i = (n - (i + 1)) + 1 by omega]
  exact if_pos h
theorem ll_0 {t : Nat → Int32} {n i : Nat} (h : ¬ ltr t n i = true) : ll t n i = 0 := by
  unfold ll
  cases n - i with
  | zero => rfl
  | succ f => exact if_neg h
theorem ll_le {t : Nat → Int32} {n : Nat} : ∀ d i, n - i = d → i ≤ n → i + ll t n i ≤ n := by
  intro d
  induction d with
  | zero =>
    intro i h h2
    rw [ll_0 (fun q => by have := (ltr_iff.mp q).1; omega)]; omega
  | succ d ih =>
    intro i h h2
    by_cases hc : ltr t n i = true
    · rw [ll_1 hc]
      have := ih (i + 1) (by omega) (by omega)
      omega
    · rw [ll_0 hc]; omega
theorem ll_lt {t : Nat → Int32} {n : Nat} : ∀ k i, k < ll t n i → ltr t n (i + k) = true := by
  intro k
  induction k with
  | zero =>
    intro i h
    by_cases hc : ltr t n i = true
    · exact hc
    · rw [ll_0 hc] at h; omega
  | succ k ih =>
    intro i h
    by_cases hc : ltr t n i = true
    · rw [ll_1 hc] at h
      rw [show i + (k + 1) = i + 1 + k by omega]
      exact ih (i + 1) (by omega)
    · rw [ll_0 hc] at h; omega
theorem ll_sub {t : Nat → Int32} {n j : Nat} : ∀ k, k ≤ ll t n j → ll t n (j + k) = ll t n j - k := by
  intro k
  induction k with
  | zero => intro _; rfl
  | succ k ih =>
    intro h
    have h1 := ih (by omega)
    have h3 := ll_1 (ll_lt (t := t) (n := n) k j (by omega))
    rw [show j + (k + 1) = j + k + 1 by omega]
    omega
/-- the word's letters as one number -/
def pk (t : Nat → Int32) (i : Nat) : Nat → Nat
  | 0 => 0
  | k + 1 => pk t i k * 256 + (t (i + k)).toInt.toNat
def pkW (w : List Int32) : Nat := pk (fun m => w.getD m 0) 0 w.length
def isL (x : Int32) : Prop := 97 ≤ x.toInt ∧ x.toInt ≤ 122
theorem pk_inj {t t' : Nat → Int32} {i i' : Nat} : ∀ k k', (∀ m, m < k → isL (t (i + m))) → (∀ m, m < k' → isL (t' (i' + m))) → pk t i k = pk t' i' k' → k = k' ∧ ∀ m, m < k → t (i + m) = t' (i' + m) := by
  intro k
  induction k with
  | zero =>
    intro k' _ h2 e
    cases k' with
    | zero => exact ⟨rfl, fun m h => absurd h (Nat.not_lt_zero _)⟩
    | succ k' =>
      have h := h2 k' (Nat.lt_succ_self _)
      have e : 0 = pk t' i' k' * 256 + (t' (i' + k')).toInt.toNat := e
      have := h.1
      omega
  | succ k ih =>
    intro k' h1 h2 e
    have g := h1 k (Nat.lt_succ_self _)
    have g1 := g.1
    have g2 := g.2
    cases k' with
    | zero =>
      have e : pk t i k * 256 + (t (i + k)).toInt.toNat = 0 := e
      omega
    | succ k' =>
      have f := h2 k' (Nat.lt_succ_self _)
      have f1 := f.1
      have f2 := f.2
      have e : pk t i k * 256 + (t (i + k)).toInt.toNat = pk t' i' k' * 256 + (t' (i' + k')).toInt.toNat := e
      have e1 : pk t i k = pk t' i' k' := by omega
      have e2 : (t (i + k)).toInt = (t' (i' + k')).toInt := by omega
      obtain ⟨rfl, h⟩ := ih k' (fun m hm => h1 m (by omega)) (fun m hm => h2 m (by omega)) e1
      refine ⟨rfl, fun m hm => ?_⟩
      by_cases hk : m = k
      · subst hk; exact ni_eq.mpr e2
      · exact h m (by omega)
theorem pk_cg {t t' : Nat → Int32} {i i' : Nat} : ∀ k, (∀ m, m < k → t (i + m) = t' (i' + m)) → pk t i k = pk t' i' k := by
  intro k
  induction k with
  | zero => intro _; rfl
  | succ k ih =>
    intro h
    show pk t i k * 256 + (t (i + k)).toInt.toNat = pk t' i' k * 256 + (t' (i' + k)).toInt.toNat
    rw [ih (fun m hm => h m (by omega)), h k (by omega)]
theorem pkk_lt {t : Nat → Int32} {i : Nat} : ∀ k, (∀ m, m < k → isL (t (i + m))) → pk t i k < 256 ^ k ∧ 2 * pk t i k < 256 ^ k ∨ k = 0 := by
  intro k
  induction k with
  | zero => intro _; exact Or.inr rfl
  | succ k ih =>
    intro h
    have g := h k (Nat.lt_succ_self _)
    have g1 := g.1
    have g2 := g.2
    refine Or.inl ?_
    show pk t i k * 256 + (t (i + k)).toInt.toNat < 256 ^ (k + 1) ∧ 2 * (pk t i k * 256 + (t (i + k)).toInt.toNat) < 256 ^ (k + 1)
    rw [Nat.pow_succ]
    rcases ih (fun m hm => h m (by omega)) with h1 | rfl
    · omega
    · have : pk t i 0 = 0 := rfl
      rw [this]
      omega
theorem wat_ll {t : Nat → Int32} {n : Nat} : ∀ (w : List Int32) (j : Nat), (∀ c ∈ w, isL c) → (wat t n w j = true ↔ ll t n j = w.length ∧ ∀ m, m < w.length → t (j + m) = w.getD m 0) := by
  intro w
  induction w with
  | nil =>
    intro j _
    show (!ltr t n j) = true ↔ ll t n j = 0 ∧ _
    constructor
    · intro h
      refine ⟨ll_0 (fun q => ?_), fun m hm => absurd hm (Nat.not_lt_zero _)⟩
      rw [q] at h; exact absurd h (by decide)
    · intro h
      cases hq : ltr t n j
      · rfl
      · have := ll_1 hq; omega
  | cons c w ih =>
    intro j hc
    have hcl := hc c List.mem_cons_self
    have hi := ih (j + 1) (fun x hx => hc x (List.mem_cons_of_mem _ hx))
    show (decide (j < n ∧ t j = c) && wat t n w (j + 1)) = true ↔ ll t n j = w.length + 1 ∧ _
    rw [Bool.and_eq_true, decide_eq_true_iff, hi]
    constructor
    · rintro ⟨⟨h1, h2⟩, h3, h4⟩
      have hl : ltr t n j = true := ltr_iff.mpr ⟨h1, by rw [h2]; exact hcl⟩
      refine ⟨by rw [ll_1 hl, h3], fun m hm => ?_⟩
      cases m with
      | zero => exact h2
      | succ m =>
        have hm : m + 1 < w.length + 1 := hm
        rw [show j + (m + 1) = j + 1 + m by omega]
        exact h4 m (by omega)
    · rintro ⟨h1, h2⟩
      have hl : ltr t n j = true := by
        cases hq : ltr t n j
        · rw [ll_0 (by rw [hq]; decide)] at h1; omega
        · rfl
      rw [ll_1 hl] at h1
      refine ⟨⟨(ltr_iff.mp hl).1, h2 0 (Nat.succ_pos _)⟩, by omega, fun m hm => ?_⟩
      have := h2 (m + 1) (Nat.succ_lt_succ hm)
      rw [show j + 1 + m = j + (m + 1) by omega]
      exact this
theorem wat_pk {t : Nat → Int32} {n j : Nat} {w : List Int32} (hw : ∀ c ∈ w, isL c) : wat t n w j = true ↔ pk t j (ll t n j) = pkW w := by
  have hw2 : ∀ m, m < w.length → isL (w.getD (0 + m) 0) := fun m hm => by
    rw [show 0 + m = m by omega, List.getD_eq_getElem?_getD, List.getElem?_eq_getElem hm]
    exact hw _ (List.getElem_mem hm)
  rw [wat_ll w j hw]
  constructor
  · rintro ⟨h1, h2⟩
    rw [h1]
    exact pk_cg _ (fun m hm => by rw [show 0 + m = m by omega]; exact h2 m hm)
  · intro h
    obtain ⟨h1, h2⟩ := pk_inj _ _ (fun m hm => (ltr_iff.mp (ll_lt m j hm)).2) hw2 h
    exact ⟨h1, fun m hm => by have := h2 m (by omega); rw [show 0 + m = m by omega] at this; exact this⟩
def mS (S : fS) (i w u : Int32) : fS := pI (pI (pI S 145 13 i) 145 14 w) 145 15 u
theorem mS_nx {S : fS} {i w u j : Int32} : pI (mS S i w u) 145 13 j = mS S j w u := by
  unfold mS
  rw [pI_sw (by decide), pI_sw (a := 145) (k := 14) (by decide), pI_pI]
theorem mS_wr {S : fS} {i w u j : Int32} : pI (mS S i w u) 145 14 j = mS S i j u := by
  unfold mS
  rw [pI_sw (by decide), pI_pI]
theorem mS_nu {S : fS} {i w u j : Int32} : pI (mS S i w u) 145 15 j = mS S i w j := by
  unfold mS
  rw [pI_pI]
theorem mS_13 {S : fS} {i w u : Int32} : (mS S i w u).1 145 13 = i := id rfl
theorem mS_14 {S : fS} {i w u : Int32} : (mS S i w u).1 145 14 = w := id rfl
theorem mS_15 {S : fS} {i w u : Int32} : (mS S i w u).1 145 15 = u := id rfl
theorem mS_1 {S : fS} {i w u : Int32} : (mS S i w u).1 145 1 = S.1 145 1 := id rfl
theorem mS_t {S : fS} {i w u : Int32} : (mS S i w u).1 146 = S.1 146 := id rfl
theorem mS_of {S : fS} : mS S (S.1 145 13) (S.1 145 14) (S.1 145 15) = S := by
  unfold mS
  rw [pI_self, pI_self, pI_self]
section MT
variable {S : fS} {n : Nat} {w u : Int32}
theorem mt_seelp (hn : S.1 145 1 = o3 n) (hl : n ≤ 400) {K : fS → Option (Int32 × fS)} : ∀ d i m, n - i = d → i ≤ n → d < m → lp_X11_see_0 K m (mS S (o3 i) w u) = K (mS S (o3 (sk (S.1 146) n i)) w u) := by
  intro d
  induction d with
  | zero =>
    intro i m h1 h2 h3
    obtain ⟨m, rfl⟩ : ∃ m', m = m' + 1 := ⟨m - 1, by omega⟩
    rw [lp_X11_see_0.eq_2, mS_1, mS_13, hn, if_pos ((o3_le (by omega) (by omega)).mpr (by omega)), sk_0 (by omega)]
  | succ d ih =>
    intro i m h1 h2 h3
    obtain ⟨m, rfl⟩ : ∃ m', m = m' + 1 := ⟨m - 1, by omega⟩
    rw [lp_X11_see_0.eq_2, mS_1, mS_13, hn, if_neg (fun q => by have := (o3_le (by omega) (by omega)).mp q; omega), gI_o (by omega) (by omega), bd_some, mS_t]
    by_cases hb : S.1 146 i = 32
    · rw [if_pos hb, bd_some, mS_nx, o3_s, ih (i + 1) m (by omega) (by omega) (by omega), sk_1 (by omega) hb]
    · rw [if_neg hb, sk_0 (fun q => hb q.2)]
/-- what `see` answers at a place that is no blank -/
def seen (t : Nat → Int32) (n j : Nat) : Int32 := if j < n then t j &&& 255 else -1
theorem mt_see (hn : S.1 145 1 = o3 n) (hl : n ≤ 400) {i : Nat} (hi : i ≤ n) : f_X11_see (mS S (o3 i) w u) = some (seen (S.1 146) n (sk (S.1 146) n i), mS S (o3 (sk (S.1 146) n i)) w u) := by
  have hj := sk_le (t := S.1 146) hi
  unfold f_X11_see
  rw [mt_seelp hn hl (n - i) i FU rfl hi (FU_lt (by omega)), mS_1, mS_13, hn]
  unfold seen
  generalize sk (S.1 146) n i = j at hj
  by_cases h : j < n
  · rw [if_neg (fun q => by have := (o3_le (by omega) (by omega)).mp q; omega), gI_o (by omega) (by omega), bd_some, mS_t, if_pos h]
  · rw [if_pos ((o3_le (by omega) (by omega)).mpr (by omega)), if_neg h]
theorem mt_digit (hl : n ≤ 400) {X : fS} (h1 : X.1 145 1 = o3 n) {k : Nat} (hk : k < 2000000) : f_X11_isDigit (o3 k) X = some (if 0 < dl (X.1 146) n k then 1 else 0) := by
  unfold f_X11_isDigit
  rw [h1]
  by_cases hkn : k < n
  · rw [if_neg (fun q => by have := (o3_le (by omega) (by omega)).mp q; omega), gI_o (by omega) (by omega), bd_some, bd_some]
    by_cases hc : dgt (X.1 146) n k
    · obtain ⟨h1, h2, h3⟩ := hc
      rw [if_neg (fun q => by have q := ni_lt.mp q; rw [show (48 : Int32).toInt = 48 from rfl] at q; omega), if_neg (fun q => by have q := ni_lt.mp q; rw [show (57 : Int32).toInt = 57 from rfl] at q; omega), dl_1 ⟨h1, h2, h3⟩, if_pos (by omega)]
    · rw [dl_0 hc, if_neg (Nat.lt_irrefl 0)]
      by_cases h2 : X.1 146 k < 48
      · rw [if_pos h2]
      · rw [if_neg h2, if_pos]
        have h2 : ¬ (X.1 146 k).toInt < 48 := fun q => h2 (ni_lt.mpr q)
        refine ni_lt.mpr ?_
        show 57 < (X.1 146 k).toInt
        exact Int.not_le.mp (fun q => hc ⟨hkn, by omega, q⟩)
  · rw [if_pos ((o3_le (by omega) (by omega)).mpr (by omega)), dl_0 (fun q => hkn q.1), if_neg (Nat.lt_irrefl 0)]
theorem mt_letter (hl : n ≤ 400) {X : fS} (h1 : X.1 145 1 = o3 n) {k : Nat} (hk : k < 2000000) : f_X11_isLetter (o3 k) X = some (if ltr (X.1 146) n k = true then 1 else 0) := by
  unfold f_X11_isLetter
  rw [h1]
  by_cases hkn : k < n
  · rw [if_neg (fun q => by have := (o3_le (by omega) (by omega)).mp q; omega), gI_o (by omega) (by omega), bd_some, bd_some]
    by_cases hc : ltr (X.1 146) n k = true
    · obtain ⟨h1, h2, h3⟩ := ltr_iff.mp hc
      rw [if_neg (fun q => by have q := ni_lt.mp q; rw [show (97 : Int32).toInt = 97 from rfl] at q; omega), if_neg (fun q => by have q := ni_lt.mp q; rw [show (122 : Int32).toInt = 122 from rfl] at q; omega), if_pos hc]
    · rw [if_neg hc]
      by_cases h2 : X.1 146 k < 97
      · rw [if_pos h2]
      · rw [if_neg h2, if_pos]
        have h2 : ¬ (X.1 146 k).toInt < 97 := fun q => h2 (ni_lt.mpr q)
        refine ni_lt.mpr ?_
        show 122 < (X.1 146 k).toInt
        exact Int.not_le.mp (fun q => hc (ltr_iff.mpr ⟨hkn, by omega, q⟩))
  · rw [if_pos ((o3_le (by omega) (by omega)).mpr (by omega)), if_neg (fun q => hkn (ltr_iff.mp q).1)]
theorem pk_sh {x a : Nat} (hx : x < 2 ^ 56) (ha : a < 256) : (Int64.ofNat x <<< (Int32.toInt64 8 &&& 63)) ||| Int64.ofNat a = Int64.ofNat (x * 256 + a) := by
  have h8 : Int32.toInt64 8 &&& 63 = 8 := by decide
  rw [h8]
  apply Int64.toBitVec_inj.mp
  rw [Int64.toBitVec_or, Int64.toBitVec_shiftLeft]
  apply BitVec.eq_of_toNat_eq
  have e1 : (Int64.ofNat x).toBitVec = BitVec.ofNat 64 x := rfl
  have e2 : (Int64.ofNat a).toBitVec = BitVec.ofNat 64 a := rfl
  have e3 : (Int64.ofNat (x * 256 + a)).toBitVec = BitVec.ofNat 64 (x * 256 + a) := rfl
  have e4 : (Int64.toBitVec 8).smod 64 = BitVec.ofNat 64 8 := by decide
  rw [e1, e2, e3, e4, BitVec.toNat_or, BitVec.shiftLeft_eq', BitVec.toNat_shiftLeft, BitVec.toNat_ofNat, BitVec.toNat_ofNat, BitVec.toNat_ofNat, BitVec.toNat_ofNat]
  rw [Nat.mod_eq_of_lt (show x < 2 ^ 64 by omega), Nat.mod_eq_of_lt (show a < 2 ^ 64 by omega), Nat.mod_eq_of_lt (show (8 : Nat) < 2 ^ 64 by decide), Nat.mod_eq_of_lt (show x * 256 + a < 2 ^ 64 by omega)]
  rw [Nat.mod_eq_of_lt (show x <<< 8 < 2 ^ 64 by rw [Nat.shiftLeft_eq]; omega), ← Nat.shiftLeft_add_eq_or_of_lt (by omega), Nat.shiftLeft_eq]
theorem pkk_8 {t : Nat → Int32} {i k : Nat} (hk : k ≤ 8) (h : ∀ m, m < k → isL (t (i + m))) : pk t i k < 2 ^ 63 := by
  rcases pkk_lt k h with h1 | rfl
  · have h2 : 256 ^ k ≤ 256 ^ 8 := Nat.pow_le_pow_right (by decide) hk
    have h3 : (256 : Nat) ^ 8 = 2 * 2 ^ 63 := by decide
    omega
  · show 0 < _
    decide
theorem pkk_7 {t : Nat → Int32} {i k : Nat} (hk : k ≤ 7) (h : ∀ m, m < k → isL (t (i + m))) : pk t i k < 2 ^ 56 := by
  rcases pkk_lt k h with h1 | rfl
  · have h2 : 256 ^ k ≤ 256 ^ 7 := Nat.pow_le_pow_right (by decide) hk
    have h3 : (256 : Nat) ^ 7 = 2 ^ 56 := by decide
    omega
  · show 0 < _
    decide
theorem nl_ofNat {a : Nat} (h : a < 2 ^ 63) : (Int64.ofNat a).toInt = a := Int64.toInt_ofNat_of_lt h
theorem mt_wordlp (hn : S.1 145 1 = o3 n) (hl : n ≤ 400) {c : Int64} {K : Int64 → Int32 → fS → Option (Int32 × fS)} {j : Nat} (hj : j ≤ n) : ∀ d k m, k + d = ll (S.1 146) n j → d < m → lp_X11_isWord_10 c K m (Int64.ofNat (pk (S.1 146) j (min k 8))) (o3 k) (mS S (o3 j) w u) = K (Int64.ofNat (pk (S.1 146) j (min (ll (S.1 146) n j) 8))) (o3 (ll (S.1 146) n j)) (mS S (o3 j) w u) := by
  have hL := ll_le (t := S.1 146) (n := n) _ j rfl hj
  intro d
  induction d with
  | zero =>
    intro k m hk hm
    obtain ⟨m, rfl⟩ : ∃ m', m = m' + 1 := ⟨m - 1, by omega⟩
    have hk : k = ll (S.1 146) n j := hk
    have h0 := ll_sub (t := S.1 146) (n := n) (j := j) k (by omega)
    have hE : ¬ ltr (S.1 146) n (j + k) = true := fun q => by
      have := ll_1 q
      omega
    rw [lp_X11_isWord_10.eq_2, mS_13, o3_add, mt_letter hl (X := mS S (o3 j) w u) (by rw [mS_1, hn]) (by omega), bd_some, mS_t, if_neg hE, if_pos rfl, hk]
  | succ d ih =>
    intro k m hk hm
    obtain ⟨m, rfl⟩ : ∃ m', m = m' + 1 := ⟨m - 1, by omega⟩
    have hg := ll_lt (t := S.1 146) (n := n) k j (by omega)
    obtain ⟨g1, g2, g3⟩ := ltr_iff.mp hg
    rw [lp_X11_isWord_10.eq_2, mS_13, o3_add, mt_letter hl (X := mS S (o3 j) w u) (by rw [mS_1, hn]) (by omega), bd_some, mS_t, if_pos hg, if_neg (by decide)]
    by_cases h8 : 8 ≤ k
    · rw [show (8 : Int32) = o3 8 from rfl, if_pos ((o3_le (by omega) (by omega)).mpr h8), o3_s, show min k 8 = min (k + 1) 8 by omega]
      exact ih (k + 1) m (by omega) (by omega)
    · rw [if_neg (show ¬ (8 : Int32) ≤ o3 _ from fun q => h8 ((o3_le (a := 8) (by omega) (by omega)).mp q)), gI_o (by omega) (by omega), bd_some, mS_t, o3_s, ← ih (k + 1) m (by omega) (by omega)]
      obtain ⟨b, hb, hb2⟩ := o3_ex (x := S.1 146 (j + k)) (by omega)
      have h64 : Int32.toInt64 (S.1 146 (j + k)) = Int64.ofNat b := nl_eq.mpr (by rw [Int32.toInt_toInt64, nl_ofNat (by omega), hb2])
      rw [h64, show min k 8 = k by omega, show min (k + 1) 8 = k + 1 by omega, pk_sh (pkk_7 (by omega) (fun q hq => (ltr_iff.mp (ll_lt (n := n) q j (by omega))).2)) (by omega)]
      have e : pk (S.1 146) j k * 256 + b = pk (S.1 146) j (k + 1) := by
        show _ = pk (S.1 146) j k * 256 + (S.1 146 (j + k)).toInt.toNat
        omega
      rw [e]
theorem mt_isWord (hn : S.1 145 1 = o3 n) (hl : n ≤ 400) {c : Int64} {W : List Int32} (hW : ∀ x ∈ W, isL x) (h1 : 0 < W.length) (h8 : W.length ≤ 8) (hc : c = Int64.ofNat (pkW W)) {i : Nat} (hi : i ≤ n) : f_X11_isWord c (mS S (o3 i) w u) = some (if wat (S.1 146) n W (sk (S.1 146) n i) = true then 1 else 0, mS S (o3 (sk (S.1 146) n i)) w u) := by
  have hj := sk_le (t := S.1 146) hi
  unfold f_X11_isWord
  rw [mt_see hn hl hi, bd_some]
  show lp_X11_isWord_10 c _ FU 0 0 (mS S (o3 (sk (S.1 146) n i)) w u) = _
  generalize sk (S.1 146) n i = j at hj
  have hL := ll_le (t := S.1 146) (n := n) _ j rfl hj
  have hlp := mt_wordlp hn hl (w := w) (u := u) (c := c) hj (ll (S.1 146) n j) 0 FU (by omega) (FU_lt (by omega)) (K := fun u12 u13 S14 => if u13 ≤ (0 : Int32) then (some ((0 : Int32), S14)) else
  (if (9 : Int32) ≤ u13 then (some ((0 : Int32), S14)) else
  (if u12 = c then (some ((1 : Int32), S14)) else
  (some ((0 : Int32), S14)))))
  refine Eq.trans hlp ?_
  have hlet : ∀ m, m < ll (S.1 146) n j → isL (S.1 146 (j + m)) := fun m hm => (ltr_iff.mp (ll_lt m j hm)).2
  have hW2 : ∀ m, m < W.length → isL (W.getD (0 + m) 0) := fun m hm => by
    rw [show 0 + m = m by omega, List.getD_eq_getElem?_getD, List.getElem?_eq_getElem hm]
    exact hW _ (List.getElem_mem hm)
  have hpw : pkW W < 2 ^ 63 := pkk_8 h8 hW2
  by_cases h0 : ll (S.1 146) n j = 0
  · have hw : ¬ wat (S.1 146) n W j = true := fun q => by
      have := (pk_inj _ _ hlet hW2 ((wat_pk hW).mp q)).1
      omega
    rw [if_neg hw, h0]
    rfl
  · rw [if_neg (show ¬ o3 _ ≤ (0 : Int32) from fun q => by have := (o3_le (b := 0) (by omega) (by omega)).mp q; omega)]
    by_cases h9 : 9 ≤ ll (S.1 146) n j
    · have hw : ¬ wat (S.1 146) n W j = true := fun q => by
        have := (pk_inj _ _ hlet hW2 ((wat_pk hW).mp q)).1
        omega
      rw [if_neg hw, if_pos (show (9 : Int32) ≤ o3 _ from (o3_le (a := 9) (by omega) (by omega)).mpr h9)]
    · rw [if_neg (show ¬ (9 : Int32) ≤ o3 _ from fun q => h9 ((o3_le (a := 9) (by omega) (by omega)).mp q)), show min (ll (S.1 146) n j) 8 = ll (S.1 146) n j by omega, hc]
      have hpl : pk (S.1 146) j (ll (S.1 146) n j) < 2 ^ 63 := pkk_8 (by omega) hlet
      by_cases hw : wat (S.1 146) n W j = true
      · rw [if_pos hw, (wat_pk hW).mp hw, if_pos rfl]
      · rw [if_neg hw, if_neg]
        intro q
        have q := nl_eq.mp q
        rw [nl_ofNat hpl, nl_ofNat hpw] at q
        exact hw ((wat_pk hW).mpr (by omega))
theorem mt_passlp (hn : S.1 145 1 = o3 n) (hl : n ≤ 400) {K : fS → Option fS} : ∀ d j m, ll (S.1 146) n j = d → j ≤ n → d < m → lp_X11_passWord_0 K m (mS S (o3 j) w u) = K (mS S (o3 (j + ll (S.1 146) n j)) w u) := by
  intro d
  induction d with
  | zero =>
    intro j m h1 h2 h3
    obtain ⟨m, rfl⟩ : ∃ m', m = m' + 1 := ⟨m - 1, by omega⟩
    have hE : ¬ ltr (S.1 146) n j = true := fun q => by
      have := ll_1 q
      omega
    rw [lp_X11_passWord_0.eq_2, mS_13, mt_letter hl (X := mS S (o3 j) w u) (by rw [mS_1, hn]) (by omega), bd_some, mS_t, if_neg hE, if_pos rfl, h1]
    rfl
  | succ d ih =>
    intro j m h1 h2 h3
    obtain ⟨m, rfl⟩ : ∃ m', m = m' + 1 := ⟨m - 1, by omega⟩
    have hg := ll_lt (t := S.1 146) (n := n) 0 j (by omega)
    have hg : ltr (S.1 146) n j = true := hg
    have h4 := ll_1 hg
    have h5 := (ltr_iff.mp hg).1
    rw [lp_X11_passWord_0.eq_2, mS_13, mt_letter hl (X := mS S (o3 j) w u) (by rw [mS_1, hn]) (by omega), bd_some, mS_t, if_pos hg, if_neg (by decide), bd_some, mS_nx, o3_s, ih (j + 1) m (by omega) (by omega) (by omega), h4, show j + 1 + ll (S.1 146) n (j + 1) = j + (ll (S.1 146) n (j + 1) + 1) by omega]
theorem mt_pass (hn : S.1 145 1 = o3 n) (hl : n ≤ 400) {j : Nat} (hj : j ≤ n) : f_X11_passWord (mS S (o3 j) w u) = some (mS S (o3 (j + ll (S.1 146) n j)) w u) := by
  have hL := ll_le (t := S.1 146) (n := n) _ j rfl hj
  unfold f_X11_passWord
  rw [mt_passlp hn hl _ j FU rfl hj (FU_lt (by omega))]
theorem mt_takes (hn : S.1 145 1 = o3 n) (hl : n ≤ 400) {c : Int64} {W : List Int32} (hW : ∀ x ∈ W, isL x) (h1 : 0 < W.length) (h8 : W.length ≤ 8) (hc : c = Int64.ofNat (pkW W)) {i : Nat} (hi : i ≤ n) : f_X11_takesWord c (mS S (o3 i) w u) = some (if wat (S.1 146) n W (sk (S.1 146) n i) = true then (1, mS S (o3 (sk (S.1 146) n i + W.length)) w u) else (0, mS S (o3 (sk (S.1 146) n i)) w u)) := by
  have hj := sk_le (t := S.1 146) hi
  unfold f_X11_takesWord
  rw [mt_isWord hn hl hW h1 h8 hc hi, bd_some]
  by_cases hw : wat (S.1 146) n W (sk (S.1 146) n i) = true
  · rw [if_pos hw, if_pos hw, if_neg (show ¬ (1 : Int32) = 0 by decide), mt_pass hn hl hj, bd_some, ((wat_ll W _ hW).mp hw).1]
  · rw [if_neg hw, if_neg hw, if_pos rfl]
theorem mt_fails {X : fS} {k p : Int32} (h : X.1 145 14 = 0) : f_X11_fails k p X = some (0, pI X 145 14 (1 + 8 * p + k)) := by
  unfold f_X11_fails
  rw [if_pos h]
  rfl
theorem mt_numlp (hn : S.1 145 1 = o3 n) (hl : n ≤ 400) {lo hi : Int32} {K : Int32 → fS → Option (Int32 × fS)} {j : Nat} (hj : j ≤ n) : ∀ d k m, k + d = dl (S.1 146) n j → d < m → lp_X11_numberHere_34 lo hi (o3 j) K m (o3 (dv (S.1 146) j (min k 5))) (mS S (o3 (j + k)) w u) = K (o3 (dv (S.1 146) j (min (dl (S.1 146) n j) 5))) (mS S (o3 (j + dl (S.1 146) n j)) w u) := by
  have hL := dl_le (t := S.1 146) (n := n) _ j rfl hj
  intro d
  induction d with
  | zero =>
    intro k m hk hm
    obtain ⟨m, rfl⟩ : ∃ m', m = m' + 1 := ⟨m - 1, by omega⟩
    have hk : k = dl (S.1 146) n j := hk
    subst hk
    have hE := dl_end (t := S.1 146) (n := n) _ j rfl
    rw [lp_X11_numberHere_34.eq_2, mS_13, mt_digit hl (X := mS S (o3 (j + dl (S.1 146) n j)) w u) (by rw [mS_1, hn]) (by omega), bd_some, mS_t, dl_0 hE, if_neg (Nat.lt_irrefl 0), if_pos rfl]
  | succ d ih =>
    intro k m hk hm
    obtain ⟨m, rfl⟩ : ∃ m', m = m' + 1 := ⟨m - 1, by omega⟩
    have hg := dl_dg (t := S.1 146) (n := n) k j (by omega)
    obtain ⟨g1, g2, g3⟩ := hg
    have hds := dl_sub (t := S.1 146) (n := n) (j := j) k (by omega)
    rw [lp_X11_numberHere_34.eq_2, mS_13, mt_digit hl (X := mS S (o3 (j + k)) w u) (by rw [mS_1, hn]) (by omega), bd_some, mS_t, if_pos (show 0 < dl (S.1 146) n (j + k) by omega), if_neg (by decide), o3_sub (by omega), show j + k - j = k by omega]
    by_cases h5 : 5 ≤ k
    · rw [o3_l, if_pos ((o3_le (by omega) (by omega)).mpr h5), bd_some, mS_nx, o3_s, show j + k + 1 = j + (k + 1) by omega, show min k 5 = min (k + 1) 5 by omega]
      exact ih (k + 1) m (by omega) (by omega)
    · rw [if_neg (show ¬ (5 : Int32) ≤ o3 _ from fun q => h5 ((o3_le (a := 5) (by omega) (by omega)).mp q)), gI_o (by omega) (by omega), bd_some, mS_t, bd_some, mS_nx, o3_s, show j + k + 1 = j + (k + 1) by omega, ← ih (k + 1) m (by omega) (by omega)]
      have hd1 := dv_5 (n := n) (t := S.1 146) (j := j) (q := k) (by omega) (by omega)
      obtain ⟨b, hb, hb2⟩ := o3_ex (x := S.1 146 (j + k)) (by omega)
      rw [show min k 5 = k by omega, show min (k + 1) 5 = k + 1 by omega]
      have e : 10 * o3 (dv (S.1 146) j k) + S.1 146 (j + k) - 48 = o3 (dv (S.1 146) j (k + 1)) := by
        show _ = o3 (dv (S.1 146) j k * 10 + ((S.1 146 (j + k)).toInt - 48).toNat)
        rw [hb, show (10 : Int32) = o3 10 from rfl, show (48 : Int32) = o3 48 from rfl, o3_mul, o3_add, o3_sub (by omega), o3_int (by omega), show 10 * dv (S.1 146) j k + b - 48 = dv (S.1 146) j k * 10 + ((b : Int) - 48).toNat by omega]
      rw [e]
/-- number here, from a state without a fault -/
theorem mt_num (hn : S.1 145 1 = o3 n) (hl : n ≤ 400) {lo hi : Int32} {i : Nat} (hi' : i ≤ n) : ∃ u', f_X11_numberHere lo hi (mS S (o3 i) 0 u) = some (if nmf (S.1 146) n i lo.toInt hi.toInt = 0 then (1, mS S (o3 (nmp (S.1 146) n i)) 0 (o3 (nmv (S.1 146) n i))) else (0, mS S (o3 (nmp (S.1 146) n i)) (o3 (nmf (S.1 146) n i lo.toInt hi.toInt)) u')) := by
  have hj := sk_le (t := S.1 146) hi'
  unfold f_X11_numberHere nmf nmv nmp
  rw [mt_see hn hl hi', bd_some]
  dsimp only
  rw [mS_13]
  generalize sk (S.1 146) n i = j at hj
  have hL := dl_le (t := S.1 146) (n := n) _ j rfl hj
  have hdk : ∀ q, q ≤ 5 → q ≤ dl (S.1 146) n j → dv (S.1 146) j q < 100000 := fun q h1 h2 => dv_5 h1 h2
  rw [mt_digit hl (X := mS S (o3 j) 0 u) (by rw [mS_1, hn]) (by omega), bd_some, mS_t]
  by_cases h0 : dl (S.1 146) n j = 0
  · refine ⟨u, ?_⟩
    rw [h0, if_neg (Nat.lt_irrefl 0), if_pos rfl, if_pos rfl, if_neg (by omega), mt_fails (by rw [mS_14]), bd_some]
    show some (0, pI (mS S (o3 j) 0 u) 145 14 _) = _
    rw [mS_wr, show (1 : Int32) = o3 1 from rfl, show (8 : Int32) = o3 8 from rfl, show (0 : Int32) = o3 0 from rfl, o3_mul, o3_add, o3_add]
    rfl
  · rw [if_pos (show 0 < dl (S.1 146) n j by omega), if_neg (show ¬ (1 : Int32) = 0 by decide)]
    have hlp := mt_numlp hn hl (lo := lo) (hi := hi) (w := 0) (u := u) hj (dl (S.1 146) n j) 0 FU (by omega) (FU_lt (by omega)) (K := fun u22 S23 => (some (pI S23 145 15 u22)).bind fun S25 =>
  if (5 : Int32) < ((S25.1 145 13) - (o3 j)) then ((f_X11_fails (1 : Int32) (o3 j) S25).bind fun q29 =>
  if q29.1 = (0 : Int32) then (some ((0 : Int32), q29.2)) else
  (some ((1 : Int32), q29.2))) else
  ((f_X11_in (Int32.toInt64 u22) (Int32.toInt64 lo) (Int32.toInt64 hi) S25).bind fun q33 =>
  if q33 = (0 : Int32) then ((f_X11_fails (1 : Int32) (o3 j) S25).bind fun q37 =>
  if q37.1 = (0 : Int32) then (some ((0 : Int32), q37.2)) else
  (some ((1 : Int32), q37.2))) else
  (some ((1 : Int32), S25))))
    rw [if_neg h0]
    generalize dl (S.1 146) n j = L at hL hdk hlp h0
    refine ⟨o3 (dv (S.1 146) j (min L 5)), Eq.trans hlp ?_⟩
    rw [bd_some, mS_nu, mS_13, o3_sub (by omega), show j + L - j = L by omega]
    have ffail : ∀ v, ((f_X11_fails 1 (o3 j) (mS S (o3 (j + L)) 0 v)).bind fun q29 => if q29.1 = (0 : Int32) then (some ((0 : Int32), q29.2)) else (some ((1 : Int32), q29.2))) = some (0, mS S (o3 (j + L)) (o3 (1 + 8 * j + 1)) v) := fun v => by
      rw [mt_fails (by rw [mS_14]), bd_some]
      show some (0, pI (mS S (o3 (j + L)) 0 v) 145 14 _) = _
      rw [mS_wr, show (1 : Int32) = o3 1 from rfl, show (8 : Int32) = o3 8 from rfl, o3_mul, o3_add, o3_add]
    by_cases h5 : 5 < L
    · rw [show (5 : Int32) = o3 5 from rfl, if_pos ((o3_lt (by omega) (by omega)).mpr h5), ffail, if_neg (c := L ≤ 5 ∧ _) (fun q => by omega), if_neg (by omega)]
    · rw [if_neg (show ¬ (5 : Int32) < o3 _ from fun q => h5 ((o3_lt (a := 5) (by omega) (by omega)).mp q)), show min L 5 = L by omega]
      have hv := hdk L (by omega) (by omega)
      rw [op_in]
      rcases op_isFrom01 (v := o3 (dv (S.1 146) j L)) (a := lo) (b := hi) (S := mS S (o3 (j + L)) 0 (o3 (dv (S.1 146) j L))) with ⟨h, h1⟩ | ⟨h, h1, h2⟩
      · rw [o3_int (by omega)] at h1
        rw [h, bd_some, if_pos rfl, ffail, if_neg (c := L ≤ 5 ∧ _) (fun q => h1 q.2), if_neg (by omega)]
      · rw [o3_int (by omega)] at h1 h2
        rw [h, bd_some, if_neg (by decide), if_pos (c := L ≤ 5 ∧ _) ⟨by omega, h1, h2⟩, if_pos rfl]
end MT
end
section
/-! small numbers of 64 bits -/
def o6 (k : Nat) : Int64 := Int64.ofNat k
theorem o6_int {k : Nat} (h : k < 9223372036854775808) : (o6 k).toInt = k := Int64.toInt_ofNat_of_lt h
theorem o6_lt {a b : Nat} (ha : a < 9223372036854775808) (hb : b < 9223372036854775808) : o6 a < o6 b ↔ a < b := by
  rw [nl_lt, o6_int ha, o6_int hb]; omega
theorem o6_le {a b : Nat} (ha : a < 9223372036854775808) (hb : b < 9223372036854775808) : o6 a ≤ o6 b ↔ a ≤ b := by
  rw [nl_le, o6_int ha, o6_int hb]; omega
theorem o6_inj {a b : Nat} (ha : a < 9223372036854775808) (hb : b < 9223372036854775808) : o6 a = o6 b ↔ a = b := by
  rw [nl_eq, o6_int ha, o6_int hb]; omega
theorem o6_add {a b : Nat} : o6 a + o6 b = o6 (a + b) := (Int64.ofNat_add a b).symm
theorem o6_mul {a b : Nat} : o6 a * o6 b = o6 (a * b) := (Int64.ofNat_mul a b).symm
theorem o6_sub {a b : Nat} (h : b ≤ a) : o6 a - o6 b = o6 (a - b) := (Int64.ofNat_sub a b h).symm
theorem o6_nn {a : Nat} (ha : a < 9223372036854775808) : ¬ o6 a < 0 := by
  rw [nl_lt, o6_int ha, nl_0]; omega
theorem o6_0le {a : Nat} (ha : a < 9223372036854775808) : 0 ≤ o6 a := by
  rw [nl_le, o6_int ha, nl_0]; omega
theorem o6_of3 {a : Nat} (ha : a < 2147483648) : Int32.toInt64 (o3 a) = o6 a := nl_eq.mpr (by rw [Int32.toInt_toInt64, o3_int ha, o6_int (by omega)])
theorem o6_to3 {a : Nat} (ha : a < 2147483648) : Int64.toInt32 (o6 a) = o3 a := by
  rw [← o6_of3 ha, Int32.toInt32_toInt64]
theorem o6_div {a b : Nat} (ha : a < 9223372036854775808) (hb : b < 9223372036854775808) : o6 a / o6 b = o6 (a / b) := by
  have h1 : a / b ≤ a := Nat.div_le_self a b
  rw [nl_eq, Int64.toInt_div, o6_int ha, o6_int hb, o6_int (by omega)]
  have e : (a : Int).tdiv (b : Int) = ((a / b : Nat) : Int) := by
    rw [Int.tdiv_eq_ediv_of_nonneg (by omega)]
    exact (Int.natCast_ediv a b).symm
  rw [e]
  clear e
  generalize a / b = q at h1
  exact nl_bm (by omega) (by omega)
theorem o6_ne0 {a : Nat} (ha : a < 9223372036854775808) (h : a ≠ 0) : o6 a ≠ 0 := by
  intro q
  exact h ((o6_inj (b := 0) ha (by omega)).mp q)
theorem o6_dL {a b : Nat} (ha : a < 9223372036854775808) (hb : b < 9223372036854775808) (h : b ≠ 0) : dL (o6 a) (o6 b) = some (o6 (a / b)) := by
  unfold dL
  rw [if_neg (o6_ne0 hb h), o6_div ha hb]
theorem o6_rL {a b : Nat} (ha : a < 9223372036854775808) (hb : b < 9223372036854775808) (h : b ≠ 0) : rL (o6 a) (o6 b) = some (o6 (a % b)) := by
  unfold rL
  have hd : a / b * b ≤ a := Nat.div_mul_le_self a b
  have hm : a % b = a - a / b * b := by
    have := Nat.div_add_mod a b
    rw [Nat.mul_comm] at this
    omega
  rw [if_neg (o6_ne0 hb h), o6_div ha hb, o6_mul, o6_sub hd, hm]
theorem o6_of {x : Int64} (h : 0 ≤ x.toInt) : ∃ k, x = o6 k ∧ (k : Int) = x.toInt := ⟨x.toNatClampNeg, by rw [nl_eq, o6_int (by have := nl_nat h; have := nl_hi x; omega), nl_nat h], nl_nat h⟩
theorem pL_pI {S : fS} {a k b j : Nat} {x : Int32} {y : Int64} : pL (pI S a k x) b j y = pI (pL S b j y) a k x := rfl
/-- a rate in parts of the whole -/
def pc (q : Nat × Nat) : Int64 := o6 (q.1 * (232792560 / q.2))
theorem gd_app {α : Type} {l : List α} {x d : α} {k : Nat} : (l ++ [x]).getD k d = if k = l.length then x else l.getD k d := by
  by_cases h : k = l.length
  · rw [if_pos h, h, List.getD_eq_getElem?_getD, List.getElem?_append_right (Nat.le_refl _), Nat.sub_self]; rfl
  · rw [if_neg h, List.getD_eq_getElem?_getD, List.getD_eq_getElem?_getD]
    by_cases h2 : k < l.length
    · rw [List.getElem?_append_left h2]
    · rw [List.getElem?_append_right (by omega), List.getElem?_eq_none (by show 1 ≤ _; omega), List.getElem?_eq_none (by omega)]
theorem ln_app {α : Type} {l : List α} {x : α} : (l ++ [x]).length = l.length + 1 := List.length_append
end
section
/-! a tower's text: floors, stairs, things as they are told -/
abbrev TB : Type := List (Nat × Nat) × List (Nat × Nat × Nat × Nat × Nat) × List Nat
def tFl (t : Nat → Int32) (n : Nat) (B : TB) (i : Nat) : Nat × Nat × TB :=
  if nmf t n i 1 20 = 0 then (if nmf t n (nmp t n i) 1 20 = 0 then (0, nmp t n (nmp t n i), (B.1 ++ [(nmv t n i, nmv t n (nmp t n i))], B.2)) else (nmf t n (nmp t n i) 1 20, 0, B)) else (nmf t n i 1 20, 0, B)
def tPc (t : Nat → Int32) (n : Nat) (B : TB) (a b c : Nat) (i : Nat) : Nat × Nat × TB :=
  if nmf t n i 1 20 = 0 then (if nmf t n (nmp t n i) 1 20 = 0 then (0, nmp t n (nmp t n i), (B.1, B.2.1 ++ [(a, b, c, nmv t n i, nmv t n (nmp t n i))], B.2.2)) else (nmf t n (nmp t n i) 1 20, 0, B)) else (nmf t n i 1 20, 0, B)
def tSt (t : Nat → Int32) (n : Nat) (B : TB) (i : Nat) : Nat × Nat × TB :=
  if nmf t n i 0 (B.1.length - 1) = 0 then
    (if nmf t n (nmp t n i) 0 (B.1.length - 1) = 0 then
      (if nmv t n i = nmv t n (nmp t n i) then (1 + 8 * sk t n (nmp t n i) + 1, 0, B) else
        (if nmf t n (nmp t n (nmp t n i)) 1 9 = 0 then tPc t n B (nmv t n i) (nmv t n (nmp t n i)) (nmv t n (nmp t n (nmp t n i))) (nmp t n (nmp t n (nmp t n i)))
          else (nmf t n (nmp t n (nmp t n i)) 1 9, 0, B)))
      else (nmf t n (nmp t n i) 0 (B.1.length - 1), 0, B))
    else (nmf t n i 0 (B.1.length - 1), 0, B)
def tTh (t : Nat → Int32) (n : Nat) (B : TB) (i : Nat) : Nat × Nat × TB :=
  if nmf t n i 0 (B.1.length - 1) = 0 then (0, nmp t n i, (B.1, B.2.1, B.2.2 ++ [nmv t n i])) else (nmf t n i 0 (B.1.length - 1), 0, B)
def tcl (t : Nat → Int32) (n c : Nat) (B : TB) (i : Nat) : Nat × Nat × TB :=
  if wat t n (mm_sb.getD 0 []) (sk t n i) = true then (if 10 ≤ B.1.length ∨ 24 ≤ c then (1 + 8 * sk t n i + 4, 0, B) else tFl t n B (sk t n i + 5))
  else if wat t n (mm_sb.getD 1 []) (sk t n i) = true then (if 12 ≤ B.2.1.length ∨ 24 ≤ c then (1 + 8 * sk t n i + 4, 0, B) else tSt t n B (sk t n i + 5))
  else if wat t n (mm_sb.getD 2 []) (sk t n i) = true then (if 8 ≤ B.2.2.length ∨ 24 ≤ c then (1 + 8 * sk t n i + 4, 0, B) else tTh t n B (sk t n i + 5))
  else (1 + 8 * sk t n i, 0, B)
/-- all clauses: 0 and what was told, or the fault -/
def tall (t : Nat → Int32) (n : Nat) : Nat → Nat → Nat → TB → Nat × TB
  | 0, _, _, B => (1, B)
  | f + 1, c, i, B => if (tcl t n c B i).1 = 0 then
      (if sk t n (tcl t n c B i).2.1 < n then (if t (sk t n (tcl t n c B i).2.1) = 59 then tall t n f (c + 1) (sk t n (tcl t n c B i).2.1 + 1) (tcl t n c B i).2.2 else (1 + 8 * sk t n (tcl t n c B i).2.1, (tcl t n c B i).2.2)) else (0, (tcl t n c B i).2.2))
    else ((tcl t n c B i).1, B)
def okF (q : Nat × Nat) : Prop := 1 ≤ q.1 ∧ q.1 ≤ 20 ∧ 1 ≤ q.2 ∧ q.2 ≤ 20
def okS (m : Nat) (q : Nat × Nat × Nat × Nat × Nat) : Prop := q.1 < m ∧ q.2.1 < m ∧ q.1 ≠ q.2.1 ∧ 1 ≤ q.2.2.1 ∧ q.2.2.1 ≤ 9 ∧ okF q.2.2.2
def okB (B : TB) : Prop := B.1.length ≤ 10 ∧ B.2.1.length ≤ 12 ∧ B.2.2.length ≤ 8 ∧ (∀ q ∈ B.1, okF q) ∧ (∀ q ∈ B.2.1, okS B.1.length q) ∧ (∀ q ∈ B.2.2, q < B.1.length)
theorem okS_mo {m k : Nat} (h : m ≤ k) {q : Nat × Nat × Nat × Nat × Nat} (hq : okS m q) : okS k q := ⟨Nat.lt_of_lt_of_le hq.1 h, Nat.lt_of_lt_of_le hq.2.1 h, hq.2.2⟩
section TS
variable {t : Nat → Int32} {n : Nat} {B : TB} {i : Nat}
theorem tFl_ok (hB : okB B) (h10 : B.1.length < 10) (h : (tFl t n B i).1 = 0) : okB (tFl t n B i).2.2 := by
  unfold tFl at h ⊢
  by_cases h1 : nmf t n i 1 20 = 0
  · rw [if_pos h1] at h ⊢
    by_cases h2 : nmf t n (nmp t n i) 1 20 = 0
    · rw [if_pos h2] at h ⊢
      obtain ⟨b1, b2, b3, b4, b5, b6⟩ := hB
      have g1 := (nmf_0 h1).2.2
      have g2 := (nmf_0 h2).2.2
      refine ⟨?_, b2, b3, ?_, ?_, ?_⟩
      · show (B.1 ++ [_]).length ≤ 10
        rw [ln_app]; omega
      · intro q hq
        rcases List.mem_append.mp hq with hq | hq
        · exact b4 q hq
        · rw [List.mem_singleton.mp hq]
          exact ⟨by show 1 ≤ nmv t n i; omega, by show nmv t n i ≤ 20; omega, by show 1 ≤ nmv t n _; omega, by show nmv t n _ ≤ 20; omega⟩
      · intro q hq
        refine okS_mo ?_ (b5 q hq)
        show _ ≤ (B.1 ++ [_]).length
        rw [ln_app]; omega
      · intro q hq
        have := b6 q hq
        show _ < (B.1 ++ [_]).length
        rw [ln_app]; omega
    · rw [if_neg h2] at h; exact absurd h h2
  · rw [if_neg h1] at h; exact absurd h h1
theorem tPc_ok {a b c : Nat} (hB : okB B) (h12 : B.2.1.length < 12) (ha : a < B.1.length) (hb : b < B.1.length) (hab : a ≠ b) (hc : 1 ≤ c ∧ c ≤ 9) (h : (tPc t n B a b c i).1 = 0) : okB (tPc t n B a b c i).2.2 := by
  unfold tPc at h ⊢
  by_cases h1 : nmf t n i 1 20 = 0
  · rw [if_pos h1] at h ⊢
    by_cases h2 : nmf t n (nmp t n i) 1 20 = 0
    · rw [if_pos h2] at h ⊢
      obtain ⟨b1, b2, b3, b4, b5, b6⟩ := hB
      have g1 := (nmf_0 h1).2.2
      have g2 := (nmf_0 h2).2.2
      refine ⟨b1, ?_, b3, b4, ?_, b6⟩
      · show (B.2.1 ++ [_]).length ≤ 12
        rw [ln_app]; omega
      · intro q hq
        rcases List.mem_append.mp hq with hq | hq
        · exact b5 q hq
        · rw [List.mem_singleton.mp hq]
          exact ⟨ha, hb, hab, hc.1, hc.2, by show 1 ≤ nmv t n i; omega, by show nmv t n i ≤ 20; omega, by show 1 ≤ nmv t n _; omega, by show nmv t n _ ≤ 20; omega⟩
    · rw [if_neg h2] at h; exact absurd h h2
  · rw [if_neg h1] at h; exact absurd h h1
theorem tSt_ok (hB : okB B) (h12 : B.2.1.length < 12) (h : (tSt t n B i).1 = 0) : okB (tSt t n B i).2.2 := by
  unfold tSt at h ⊢
  by_cases h1 : nmf t n i 0 (B.1.length - 1) = 0
  · rw [if_pos h1] at h ⊢
    by_cases h2 : nmf t n (nmp t n i) 0 (B.1.length - 1) = 0
    · rw [if_pos h2] at h ⊢
      by_cases h3 : nmv t n i = nmv t n (nmp t n i)
      · rw [if_pos h3] at h
        exact absurd h (by show ¬ (1 + 8 * _ + 1 = 0); omega)
      · rw [if_neg h3] at h ⊢
        by_cases h4 : nmf t n (nmp t n (nmp t n i)) 1 9 = 0
        · rw [if_pos h4] at h ⊢
          have g1 := (nmf_0 h1).2.2
          have g2 := (nmf_0 h2).2.2
          have g4 := (nmf_0 h4).2.2
          exact tPc_ok hB h12 (by omega) (by omega) h3 (by omega) h
        · rw [if_neg h4] at h; exact absurd h h4
    · rw [if_neg h2] at h; exact absurd h h2
  · rw [if_neg h1] at h; exact absurd h h1
theorem tTh_ok (hB : okB B) (h8 : B.2.2.length < 8) (h : (tTh t n B i).1 = 0) : okB (tTh t n B i).2.2 := by
  unfold tTh at h ⊢
  by_cases h1 : nmf t n i 0 (B.1.length - 1) = 0
  · rw [if_pos h1] at h ⊢
    obtain ⟨b1, b2, b3, b4, b5, b6⟩ := hB
    have g1 := (nmf_0 h1).2.2
    refine ⟨b1, b2, ?_, b4, b5, ?_⟩
    · show (B.2.2 ++ [_]).length ≤ 8
      rw [ln_app]; omega
    · intro q hq
      rcases List.mem_append.mp hq with hq | hq
      · exact b6 q hq
      · rw [List.mem_singleton.mp hq]
        show nmv t n i < B.1.length
        omega
  · rw [if_neg h1] at h; exact absurd h h1
theorem tcl_ok {c : Nat} (hB : okB B) (h : (tcl t n c B i).1 = 0) : okB (tcl t n c B i).2.2 ∧ c < 24 := by
  unfold tcl at h ⊢
  by_cases h1 : wat t n (mm_sb.getD 0 []) (sk t n i) = true
  · rw [if_pos h1] at h ⊢
    by_cases h2 : 10 ≤ B.1.length ∨ 24 ≤ c
    · rw [if_pos h2] at h; exact absurd h (by show ¬ (1 + 8 * _ + 4 = 0); omega)
    · rw [if_neg h2] at h ⊢
      exact ⟨tFl_ok hB (by omega) h, by omega⟩
  · rw [if_neg h1] at h ⊢
    by_cases h3 : wat t n (mm_sb.getD 1 []) (sk t n i) = true
    · rw [if_pos h3] at h ⊢
      by_cases h2 : 12 ≤ B.2.1.length ∨ 24 ≤ c
      · rw [if_pos h2] at h; exact absurd h (by show ¬ (1 + 8 * _ + 4 = 0); omega)
      · rw [if_neg h2] at h ⊢
        exact ⟨tSt_ok hB (by omega) h, by omega⟩
    · rw [if_neg h3] at h ⊢
      by_cases h4 : wat t n (mm_sb.getD 2 []) (sk t n i) = true
      · rw [if_pos h4] at h ⊢
        by_cases h2 : 8 ≤ B.2.2.length ∨ 24 ≤ c
        · rw [if_pos h2] at h; exact absurd h (by show ¬ (1 + 8 * _ + 4 = 0); omega)
        · rw [if_neg h2] at h ⊢
          exact ⟨tTh_ok hB (by omega) h, by omega⟩
      · rw [if_neg h4] at h; exact absurd h (by show ¬ (1 + 8 * _ = 0); omega)
end TS
end
section
/-! the class reads a tower -/
def d5 : Nat × Nat × Nat × Nat × Nat := (0, 0, 0, 0, 0)
def twC (S : fS) (b : Nat) (F : List (Nat × Nat)) (E : List (Nat × Nat × Nat × Nat × Nat)) : Prop := S.1 b 6 = o3 F.length ∧ S.1 b 7 = o3 E.length ∧ (∀ k, k < F.length → S.2 (b + 1) k = pc (F.getD k (0, 0))) ∧ (∀ k, k < E.length → S.1 (b + 2) k = o3 (E.getD k d5).1 ∧ S.1 (b + 3) k = o3 (E.getD k d5).2.1 ∧ S.1 (b + 4) k = o3 (E.getD k d5).2.2.1 ∧ S.2 (b + 5) k = pc (E.getD k d5).2.2.2)
def cwC0 (S : fS) (c : Nat) (H : List Nat) : Prop := S.1 c 5 = o3 H.length ∧ S.1 c 6 = 0 ∧ ∀ k, k < H.length → S.1 (c + 1) k = o3 (H.getD k 0) ∧ S.1 (c + 2) k = -1 ∧ S.1 (c + 3) k = 0 ∧ S.1 (c + 4) k = -1 ∧ S.2 (c + 5) k = 0
def TBc (S : fS) (B : TB) : Prop := twC S 24 B.1 B.2.1 ∧ cwC0 S 31 B.2.2
theorem tS_pI {S : fS} {i s f x : Int32} {a k : Nat} (h : a ≠ 1) : pI (tS S i s f) a k x = tS (pI S a k x) i s f := by
  unfold tS
  rw [pI_sw (fun q => h q.1.symm), pI_sw (a := 1) (k := 3) (fun q => h q.1.symm), pI_sw (a := 1) (k := 2) (fun q => h q.1.symm)]
theorem tS_pL {S : fS} {i s f : Int32} {a k : Nat} {x : Int64} : pL (tS S i s f) a k x = tS (pL S a k x) i s f := rfl
theorem tS_ne {S : fS} {i s f : Int32} {a k : Nat} (h : a ≠ 1) : (tS S i s f).1 a k = S.1 a k := by
  unfold tS
  rw [pI_get, pI_get, pI_get, if_neg (fun q => h q.1), if_neg (fun q => h q.1), if_neg (fun q => h q.1)]
theorem tS_L {S : fS} {i s f : Int32} : (tS S i s f).2 = S.2 := rfl
theorem l1_20 : (1 : Int32).toInt = 1 ∧ (20 : Int32).toInt = 20 ∧ (9 : Int32).toInt = 9 := ⟨rfl, rfl, rfl⟩
section CW
variable {S : fS} {n : Nat} {s f : Int32}
theorem ct_pace (hn : S.1 1 1 = o3 n) (hl : n ≤ 400) {i : Nat} (hi : i ≤ n) : f_X9_readPace (tS S (o3 i) s f) = some (if nmf (S.1 2) n i 1 20 = 0 then (if nmf (S.1 2) n (nmp (S.1 2) n i) 1 20 = 0 then (pc (nmv (S.1 2) n i, nmv (S.1 2) n (nmp (S.1 2) n i)), tS S (o3 (nmp (S.1 2) n (nmp (S.1 2) n i))) (o3 (sk (S.1 2) n (nmp (S.1 2) n i))) f) else (-1, tS S (o3 (nmp (S.1 2) n (nmp (S.1 2) n i))) (o3 (sk (S.1 2) n (nmp (S.1 2) n i))) (o3 (nmf (S.1 2) n (nmp (S.1 2) n i) 1 20)))) else (-1, tS S (o3 (nmp (S.1 2) n i)) (o3 (sk (S.1 2) n i)) (o3 (nmf (S.1 2) n i 1 20)))) := by
  have h2 := nmp_le (t := S.1 2) hi
  unfold f_X9_readPace
  rw [ct_num hn hl hi, bd_some, l1_20.1, l1_20.2.1]
  by_cases c1 : nmf (S.1 2) n i 1 20 = 0
  · have g1 := (nmf_0 c1).2.2
    rw [if_pos c1, if_pos c1]
    dsimp only
    rw [if_pos (o3_0le (by omega)), ct_num hn hl h2, bd_some, l1_20.1, l1_20.2.1]
    by_cases c2 : nmf (S.1 2) n (nmp (S.1 2) n i) 1 20 = 0
    · have g2 := (nmf_0 c2).2.2
      rw [if_pos c2, if_pos c2]
      dsimp only
      rw [if_pos (show (0 : Int32) < o3 _ from (o3_lt (a := 0) (by omega) (by omega)).mpr (by omega)), o6_of3 (by omega), o6_of3 (by omega), show (232792560 : Int64) = o6 232792560 from rfl, o6_dL (by omega) (by omega) (by omega), bd_some, o6_mul]
      rfl
    · rw [if_neg c2, if_neg c2]
      rfl
  · rw [if_neg c1, if_neg c1]
    rfl
theorem pc_lt {q : Nat × Nat} (h : okF q) : q.1 * (232792560 / q.2) < 9223372036854775808 := by
  have h1 : 232792560 / q.2 ≤ 232792560 := Nat.div_le_self _ _
  have h2 := h.2.1
  generalize 232792560 / q.2 = x at h1
  have h3 : q.1 * x ≤ 20 * 232792560 := Nat.mul_le_mul h2 h1
  omega
theorem pc_nn {q : Nat × Nat} (h : okF q) : (0 : Int64) ≤ pc q := o6_0le (pc_lt h)
def upF (S : fS) (k : Nat) (p : Int64) : fS := pI (pL S 25 k p) 24 6 (o3 (k + 1))
theorem upF_B {B : TB} {q : Nat × Nat} (hB : TBc S B) : TBc (upF S B.1.length (pc q)) (B.1 ++ [q], B.2) := by
  obtain ⟨⟨h1, h2, h3, h4⟩, h5, h6, h7⟩ := hB
  refine ⟨⟨?_, h2, fun k hk => ?_, fun k hk => h4 k hk⟩, h5, h6, fun k hk => h7 k hk⟩
  · show o3 (B.1.length + 1) = _
    rw [ln_app]
  · rw [ln_app] at hk
    show (pL S 25 B.1.length (pc q)).2 25 k = _
    rw [pL_get, gd_app]
    by_cases hc : k = B.1.length
    · rw [if_pos ⟨rfl, hc⟩, if_pos hc]
    · rw [if_neg (fun q => hc q.2), if_neg hc]
      exact h3 k (by omega)
theorem ct_floor (hn : S.1 1 1 = o3 n) (hl : n ≤ 400) {B : TB} (hB : TBc S B) (h10 : B.1.length < 10) {i : Nat} (hi : i ≤ n) : ∃ S' i' s', f_X9_readFloor (tS S (o3 i) s f) = some (if (tFl (S.1 2) n B i).1 = 0 then (1, tS S' (o3 (tFl (S.1 2) n B i).2.1) s' f) else (0, tS S i' s' (o3 (tFl (S.1 2) n B i).1))) ∧ ((tFl (S.1 2) n B i).1 = 0 → TBc S' (tFl (S.1 2) n B i).2.2) := by
  unfold f_X9_readFloor
  rw [ct_pace hn hl hi, bd_some]
  unfold tFl
  by_cases c1 : nmf (S.1 2) n i 1 20 = 0
  · have g1 := (nmf_0 c1).2.2
    rw [if_pos c1, if_pos c1]
    by_cases c2 : nmf (S.1 2) n (nmp (S.1 2) n i) 1 20 = 0
    · have g2 := (nmf_0 c2).2.2
      rw [if_pos c2, if_pos c2]
      dsimp only
      rw [if_pos (pc_nn ⟨by show 1 ≤ nmv _ _ _; omega, by show nmv _ _ _ ≤ 20; omega, by show 1 ≤ nmv _ _ _; omega, by show nmv _ _ _ ≤ 20; omega⟩), tS_ne (by decide), hB.1.1, sL_o (by omega) (by omega), bd_some, bd_some, tS_pL, tS_ne (by decide), tS_pI (by decide), pL_1, hB.1.1, o3_s]
      exact ⟨upF S B.1.length (pc (nmv (S.1 2) n i, nmv (S.1 2) n (nmp (S.1 2) n i))), 0, _, rfl, fun _ => upF_B hB⟩
    · rw [if_neg c2, if_neg c2]
      exact ⟨S, _, _, by dsimp only; rw [if_neg (by decide), if_neg c2], fun q => absurd q c2⟩
  · rw [if_neg c1, if_neg c1]
    exact ⟨S, _, _, by dsimp only; rw [if_neg (by decide), if_neg c1], fun q => absurd q c1⟩
def upS (S : fS) (k : Nat) (a b c : Int32) (p : Int64) : fS := pI (pL (pI (pI (pI S 26 k a) 27 k b) 28 k c) 29 k p) 24 7 (o3 (k + 1))
theorem upS_B {B : TB} {a b c d e : Nat} (hB : TBc S B) : TBc (upS S B.2.1.length (o3 a) (o3 b) (o3 c) (pc (d, e))) (B.1, B.2.1 ++ [(a, b, c, d, e)], B.2.2) := by
  obtain ⟨⟨h1, h2, h3, h4⟩, h5, h6, h7⟩ := hB
  refine ⟨⟨h1, ?_, fun k hk => h3 k hk, fun k hk => ?_⟩, h5, h6, fun k hk => h7 k hk⟩
  · show o3 (B.2.1.length + 1) = _
    rw [ln_app]
  · rw [ln_app] at hk
    show (pI S 26 B.2.1.length (o3 a)).1 26 k = _ ∧ (pI S 27 B.2.1.length (o3 b)).1 27 k = _ ∧ (pI S 28 B.2.1.length (o3 c)).1 28 k = _ ∧ (pL S 29 B.2.1.length (pc (d, e))).2 29 k = _
    rw [pI_get, pI_get, pI_get, pL_get, gd_app]
    by_cases hc : k = B.2.1.length
    · rw [if_pos hc, if_pos ⟨rfl, hc⟩, if_pos ⟨rfl, hc⟩, if_pos ⟨rfl, hc⟩, if_pos ⟨rfl, hc⟩]
      exact ⟨rfl, rfl, rfl, rfl⟩
    · rw [if_neg hc, if_neg (fun q => hc q.2), if_neg (fun q => hc q.2), if_neg (fun q => hc q.2), if_neg (fun q => hc q.2)]
      exact h4 k (by omega)
theorem ct_addStair {a b c : Int32} {p : Int64} {k : Nat} {i : Int32} (hk : S.1 24 7 = o3 k) (h12 : k < 12) : f_X8_addStair 24 a b c p (tS S i s f) = some (tS (upS S k a b c p) i s f) := by
  unfold f_X8_addStair
  rw [tS_ne (by decide), hk, if_neg (show ¬ (12 : Int32) ≤ o3 _ from fun q => by have := (o3_le (a := 12) (by omega) (by omega)).mp q; omega)]
  rw [sI_o (by omega) (by omega), bd_some, tS_pI (by decide), tS_ne (by decide), show (pI S (24 + 2) k a).1 24 7 = S.1 24 7 from rfl, hk]
  rw [sI_o (by omega) (by omega), bd_some, tS_pI (by decide), tS_ne (by decide), show (pI (pI S (24 + 2) k a) (24 + 3) k b).1 24 7 = S.1 24 7 from rfl, hk]
  rw [sI_o (by omega) (by omega), bd_some, tS_pI (by decide), tS_ne (by decide), show (pI (pI (pI S (24 + 2) k a) (24 + 3) k b) (24 + 4) k c).1 24 7 = S.1 24 7 from rfl, hk]
  rw [sL_o (by omega) (by omega), bd_some, tS_pL, tS_ne (by decide), show (pL (pI (pI (pI S (24 + 2) k a) (24 + 3) k b) (24 + 4) k c) (24 + 5) k p).1 24 7 = S.1 24 7 from rfl, hk, bd_some, tS_pI (by decide), o3_s]
  rfl
theorem o3_p {k : Nat} (h : k < 1000000) : (o3 k - 1).toInt = k - 1 := by
  rw [ni_sub (b := 1) (by rw [o3_int (by omega)]; show _ ≤ _ - (1 : Int); omega) (by rw [o3_int (by omega)]; show _ - (1 : Int) < _; omega), o3_int (by omega)]
  rfl
theorem ct_stair (hn : S.1 1 1 = o3 n) (hl : n ≤ 400) {B : TB} (hB : TBc S B) (hok : okB B) (h12 : B.2.1.length < 12) {i : Nat} (hi : i ≤ n) : ∃ S' i' s', f_X9_readStair (tS S (o3 i) s f) = some (if (tSt (S.1 2) n B i).1 = 0 then (1, tS S' (o3 (tSt (S.1 2) n B i).2.1) s' f) else (0, tS S i' s' (o3 (tSt (S.1 2) n B i).1))) ∧ ((tSt (S.1 2) n B i).1 = 0 → TBc S' (tSt (S.1 2) n B i).2.2) := by
  have hm : B.1.length < 1000000 := by have := hok.1; omega
  have hi1 := nmp_le (t := S.1 2) hi
  have hi2 := nmp_le (t := S.1 2) hi1
  have hi3 := nmp_le (t := S.1 2) hi2
  unfold f_X9_readStair
  rw [tS_ne (by decide), hB.1.1, ct_num hn hl hi, bd_some, o3_p hm, ni_0]
  unfold tSt
  by_cases c1 : nmf (S.1 2) n i 0 (B.1.length - 1) = 0
  · have g1 := (nmf_0 c1).2.2
    rw [if_pos c1, if_pos c1]
    dsimp only
    rw [if_pos (o3_0le (by omega)), tS_ne (by decide), hB.1.1, ct_num hn hl hi1, bd_some, o3_p hm, ni_0]
    by_cases c2 : nmf (S.1 2) n (nmp (S.1 2) n i) 0 (B.1.length - 1) = 0
    · have g2 := (nmf_0 c2).2.2
      rw [if_pos c2, if_pos c2]
      dsimp only
      rw [if_pos (o3_0le (by omega))]
      by_cases c3 : nmv (S.1 2) n i = nmv (S.1 2) n (nmp (S.1 2) n i)
      · rw [if_pos ((o3_inj (by omega) (by omega)).mpr c3), if_pos c3, ct_fail, bd_some, tS_3]
        refine ⟨S, o3 (nmp (S.1 2) n (nmp (S.1 2) n i)), o3 (sk (S.1 2) n (nmp (S.1 2) n i)), ?_, fun q => absurd q (by show ¬ (1 + 8 * _ + 1 = 0); omega)⟩
        rw [if_neg (by show ¬ (1 + 8 * _ + 1 = 0); omega)]
        show some (0, pI (tS S _ _ f) 1 4 _) = _
        rw [tS_fa, show (1 : Int32) = o3 1 from rfl, show (8 : Int32) = o3 8 from rfl, o3_mul, o3_add, o3_add]
      · rw [if_neg (fun q => c3 ((o3_inj (by omega) (by omega)).mp q)), if_neg c3, ct_num hn hl hi2, bd_some, l1_20.1, l1_20.2.2]
        by_cases c4 : nmf (S.1 2) n (nmp (S.1 2) n (nmp (S.1 2) n i)) 1 9 = 0
        · have g4 := (nmf_0 c4).2.2
          rw [if_pos c4, if_pos c4]
          dsimp only
          rw [if_pos (o3_0le (by omega)), ct_pace hn hl hi3, bd_some]
          unfold tPc
          generalize nmp (S.1 2) n (nmp (S.1 2) n (nmp (S.1 2) n i)) = p at hi3
          by_cases c5 : nmf (S.1 2) n p 1 20 = 0
          · have g5 := (nmf_0 c5).2.2
            rw [if_pos c5, if_pos c5]
            by_cases c6 : nmf (S.1 2) n (nmp (S.1 2) n p) 1 20 = 0
            · have g6 := (nmf_0 c6).2.2
              rw [if_pos c6, if_pos c6]
              dsimp only
              rw [if_pos (pc_nn ⟨by show 1 ≤ nmv _ _ _; omega, by show nmv _ _ _ ≤ 20; omega, by show 1 ≤ nmv _ _ _; omega, by show nmv _ _ _ ≤ 20; omega⟩), ct_addStair hB.1.2.1 h12, bd_some]
              exact ⟨_, 0, _, rfl, fun _ => upS_B hB⟩
            · rw [if_neg c6, if_neg c6]
              exact ⟨S, _, _, by dsimp only; rw [if_neg (by decide), if_neg c6], fun q => absurd q c6⟩
          · rw [if_neg c5, if_neg c5]
            exact ⟨S, _, _, by dsimp only; rw [if_neg (by decide), if_neg c5], fun q => absurd q c5⟩
        · rw [if_neg c4, if_neg c4]
          exact ⟨S, _, _, by dsimp only; rw [if_neg (by decide), if_neg c4], fun q => absurd q c4⟩
    · rw [if_neg c2, if_neg c2]
      exact ⟨S, _, _, by dsimp only; rw [if_neg (by decide), if_neg c2], fun q => absurd q c2⟩
  · rw [if_neg c1, if_neg c1]
    exact ⟨S, _, _, by dsimp only; rw [if_neg (by decide), if_neg c1], fun q => absurd q c1⟩
def upT (S : fS) (k : Nat) (a : Int32) : fS := pI (pL (pI (pI (pI (pI S 32 k a) 33 k (-1)) 34 k 0) 35 k (-1)) 36 k 0) 31 5 (o3 (k + 1))
theorem upT_B {B : TB} {a : Nat} (hB : TBc S B) : TBc (upT S B.2.2.length (o3 a)) (B.1, B.2.1, B.2.2 ++ [a]) := by
  obtain ⟨⟨h1, h2, h3, h4⟩, h5, h6, h7⟩ := hB
  refine ⟨⟨h1, h2, fun k hk => h3 k hk, fun k hk => h4 k hk⟩, ?_, h6, fun k hk => ?_⟩
  · show o3 (B.2.2.length + 1) = _
    rw [ln_app]
  · rw [ln_app] at hk
    show (pI S 32 B.2.2.length (o3 a)).1 32 k = _ ∧ (pI S 33 B.2.2.length (-1)).1 33 k = _ ∧ (pI S 34 B.2.2.length 0).1 34 k = _ ∧ (pI S 35 B.2.2.length (-1)).1 35 k = _ ∧ (pL S 36 B.2.2.length 0).2 36 k = _
    rw [pI_get, pI_get, pI_get, pI_get, pL_get, gd_app]
    by_cases hc : k = B.2.2.length
    · rw [if_pos hc, if_pos ⟨rfl, hc⟩, if_pos ⟨rfl, hc⟩, if_pos ⟨rfl, hc⟩, if_pos ⟨rfl, hc⟩, if_pos ⟨rfl, hc⟩]
      exact ⟨rfl, rfl, rfl, rfl, rfl⟩
    · rw [if_neg hc, if_neg (fun q => hc q.2), if_neg (fun q => hc q.2), if_neg (fun q => hc q.2), if_neg (fun q => hc q.2), if_neg (fun q => hc q.2)]
      exact h7 k (by omega)
theorem ct_addThing {a : Int32} {k : Nat} {i : Int32} (hk : S.1 31 5 = o3 k) (h8 : k < 8) : f_X0_addThing 31 a (tS S i s f) = some (tS (upT S k a) i s f) := by
  unfold f_X0_addThing f_X0_putOn
  rw [tS_ne (by decide), hk, if_neg (show ¬ (8 : Int32) ≤ o3 _ from fun q => by have := (o3_le (a := 8) (by omega) (by omega)).mp q; omega)]
  rw [sI_o (by omega) (by omega), bd_some, tS_pI (by decide), sI_o (by omega) (by omega), bd_some, tS_pI (by decide), sI_o (by omega) (by omega), bd_some, tS_pI (by decide), sI_o (by omega) (by omega), bd_some, tS_pI (by decide), bd_some, tS_ne (by decide)]
  rw [show (pI (pI (pI (pI S (31 + 1) k a) (31 + 2) k (-1)) (31 + 3) k 0) (31 + 4) k (-1)).1 31 5 = S.1 31 5 from rfl, hk, sL_o (by omega) (by omega), bd_some, tS_pL, tS_ne (by decide), bd_some, tS_pI (by decide)]
  rw [show (pL (pI (pI (pI (pI S (31 + 1) k a) (31 + 2) k (-1)) (31 + 3) k 0) (31 + 4) k (-1)) (31 + 5) k 0).1 31 5 = S.1 31 5 from rfl, hk, o3_s]
  rfl
theorem ct_thing (hn : S.1 1 1 = o3 n) (hl : n ≤ 400) {B : TB} (hB : TBc S B) (hok : okB B) (h8 : B.2.2.length < 8) {i : Nat} (hi : i ≤ n) : ∃ S' i' s', f_X9_readThing (tS S (o3 i) s f) = some (if (tTh (S.1 2) n B i).1 = 0 then (1, tS S' (o3 (tTh (S.1 2) n B i).2.1) s' f) else (0, tS S i' s' (o3 (tTh (S.1 2) n B i).1))) ∧ ((tTh (S.1 2) n B i).1 = 0 → TBc S' (tTh (S.1 2) n B i).2.2) := by
  have hm : B.1.length < 1000000 := by have := hok.1; omega
  unfold f_X9_readThing
  rw [tS_ne (by decide), hB.1.1, ct_num hn hl hi, bd_some, o3_p hm, ni_0]
  unfold tTh
  by_cases c1 : nmf (S.1 2) n i 0 (B.1.length - 1) = 0
  · have g1 := (nmf_0 c1).2.2
    rw [if_pos c1, if_pos c1]
    dsimp only
    rw [if_pos (o3_0le (by omega)), ct_addThing hB.2.1 h8, bd_some]
    exact ⟨_, 0, _, rfl, fun _ => upT_B hB⟩
  · rw [if_neg c1, if_neg c1]
    exact ⟨S, _, _, by dsimp only; rw [if_neg (by decide), if_neg c1], fun q => absurd q c1⟩
theorem cl_F {c : Int32} {X : fS} : j_X9_readClause_30 c 1 X = if (10 : Int32) ≤ X.1 24 6 then j_X9_readClause_155 X else if c < 24 then ((f_X9_readFloor X).bind fun q33 => (bZ q33.1).bind fun z36 => some (z36, q33.2)) else j_X9_readClause_155 X := rfl
theorem cl_S {c : Int32} {X : fS} : j_X9_readClause_31 c 0 1 X = if (12 : Int32) ≤ X.1 24 7 then j_X9_readClause_155 X else if c < 24 then ((f_X9_readStair X).bind fun q30 => j_X9_readClause_195 q30.1 q30.2) else j_X9_readClause_155 X := rfl
theorem cl_T {c : Int32} {X : fS} : j_X9_readClause_57 c 0 0 1 X = if X.1 31 5 < 8 then (if c < 24 then ((f_X9_readThing X).bind fun q22 => j_X9_readClause_195 q22.1 q22.2) else j_X9_readClause_155 X) else j_X9_readClause_155 X := rfl
theorem cl_N {c : Int32} {X : fS} : j_X9_readClause_56 c 0 0 X = some (0, pI X 1 4 (1 + 8 * X.1 1 2 + 0)) := rfl
theorem cl_155 {X : fS} : j_X9_readClause_155 X = some (0, pI X 1 4 (1 + 8 * X.1 1 3 + 4)) := rfl
end CW
end
