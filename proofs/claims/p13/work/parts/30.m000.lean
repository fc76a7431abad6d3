section
/-! small numbers, memory, loops -/
def o3 (k : Nat) : Int32 := Int32.ofNat k
theorem o3_int {k : Nat} (h : k < 2147483648) : (o3 k).toInt = k := Int32.toInt_ofNat_of_lt h
theorem o3_nat {k : Nat} (h : k < 2147483648) : (o3 k).toNatClampNeg = k := Int32.toNatClampNeg_ofNat_of_lt h
theorem o3_lt {a b : Nat} (ha : a < 2147483648) (hb : b < 2147483648) : o3 a < o3 b ↔ a < b := by
  rw [ni_lt, o3_int ha, o3_int hb]; omega
theorem o3_le {a b : Nat} (ha : a < 2147483648) (hb : b < 2147483648) : o3 a ≤ o3 b ↔ a ≤ b := by
  rw [ni_le, o3_int ha, o3_int hb]; omega
theorem o3_inj {a b : Nat} (ha : a < 2147483648) (hb : b < 2147483648) : o3 a = o3 b ↔ a = b := by
  rw [ni_eq, o3_int ha, o3_int hb]; omega
theorem o3_add {a b : Nat} : o3 a + o3 b = o3 (a + b) := (Int32.ofNat_add a b).symm
theorem o3_mul {a b : Nat} : o3 a * o3 b = o3 (a * b) := (Int32.ofNat_mul a b).symm
theorem o3_sub {a b : Nat} (h : b ≤ a) : o3 a - o3 b = o3 (a - b) := (Int32.ofNat_sub a b h).symm
theorem o3_s {a : Nat} : o3 a + 1 = o3 (a + 1) := o3_add (b := 1)
theorem o3_l (n : Nat) : (no_index (OfNat.ofNat n) : Int32) = o3 (OfNat.ofNat n) := rfl
theorem o3_nn {a : Nat} (ha : a < 2147483648) : ¬ o3 a < 0 := by
  rw [ni_lt, o3_int ha, ni_0]; omega
theorem o3_0le {a : Nat} (ha : a < 2147483648) : 0 ≤ o3 a := by
  rw [ni_le, o3_int ha, ni_0]; omega
theorem o3_of {x : Int32} (h : 0 ≤ x.toInt) : x = o3 x.toNatClampNeg := by
  rw [ni_eq, o3_int (by have := ni_nat h; have := ni_hi x; omega), ni_nat h]
theorem o3_ex {x : Int32} (h : 0 ≤ x.toInt) : ∃ k, x = o3 k ∧ (k : Int) = x.toInt := ⟨x.toNatClampNeg, o3_of h, ni_nat h⟩
theorem o3_m1 {a : Nat} (ha : a < 2147483648) : o3 a ≠ -1 := by
  intro h
  have := o3_nn ha
  rw [h] at this
  exact this (by decide)
theorem ix_ok {k n : Nat} (h : k < n) (hn : n < 2147483648) : ¬ (o3 k < 0 ∨ n ≤ (o3 k).toNatClampNeg) := by
  rw [o3_nat (by omega)]
  intro q
  rcases q with q | q
  · exact o3_nn (by omega) q
  · omega
theorem gI_o {S : fS} {a n k : Nat} (h : k < n) (hn : n < 2147483648) : gI S a n (o3 k) = some (S.1 a k) := by
  unfold gI
  rw [if_neg (ix_ok h hn), o3_nat (by omega)]
theorem gL_o {S : fS} {a n k : Nat} (h : k < n) (hn : n < 2147483648) : gL S a n (o3 k) = some (S.2 a k) := by
  unfold gL
  rw [if_neg (ix_ok h hn), o3_nat (by omega)]
theorem sI_o {S : fS} {a n k : Nat} {x : Int32} (h : k < n) (hn : n < 2147483648) : sI S a n (o3 k) x = some (pI S a k x) := by
  unfold sI
  rw [if_neg (ix_ok h hn), o3_nat (by omega)]
theorem sL_o {S : fS} {a n k : Nat} {x : Int64} (h : k < n) (hn : n < 2147483648) : sL S a n (o3 k) x = some (pL S a k x) := by
  unfold sL
  rw [if_neg (ix_ok h hn), o3_nat (by omega)]
theorem gI_l {S : fS} {a n k : Nat} (h : k < n) (hn : n < 2147483648) : gI S a n (no_index (OfNat.ofNat k)) = some (S.1 a k) := gI_o h hn
theorem gL_l {S : fS} {a n k : Nat} (h : k < n) (hn : n < 2147483648) : gL S a n (no_index (OfNat.ofNat k)) = some (S.2 a k) := gL_o h hn
theorem sI_l {S : fS} {a n k : Nat} {x : Int32} (h : k < n) (hn : n < 2147483648) : sI S a n (no_index (OfNat.ofNat k)) x = some (pI S a k x) := sI_o h hn
theorem sL_l {S : fS} {a n k : Nat} {x : Int64} (h : k < n) (hn : n < 2147483648) : sL S a n (no_index (OfNat.ofNat k)) x = some (pL S a k x) := sL_o h hn
theorem fr_up' {α : Type} {f : Nat → Nat → α} {b j : Nat} {x : α} {a k : Nat} (h : ¬ (a = b ∧ k = j)) : mm_up f b j x a k = f a k := by
  unfold mm_up
  by_cases ha : a = b
  · rw [if_pos ha]
    have hk : ¬ k = j := fun q => h ⟨ha, q⟩
    show (if k = j then x else f b k) = _
    rw [if_neg hk, ha]
  · rw [if_neg ha]
theorem pI_get {S : fS} {a k b j : Nat} {x : Int32} : (pI S a k x).1 b j = if b = a ∧ j = k then x else S.1 b j := by
  by_cases h : b = a ∧ j = k
  · rw [if_pos h]
    obtain ⟨rfl, rfl⟩ := h
    unfold pI mm_up
    simp
  · rw [if_neg h]
    exact fr_up' h
theorem pL_get {S : fS} {a k b j : Nat} {x : Int64} : (pL S a k x).2 b j = if b = a ∧ j = k then x else S.2 b j := by
  by_cases h : b = a ∧ j = k
  · rw [if_pos h]
    obtain ⟨rfl, rfl⟩ := h
    unfold pL mm_up
    simp
  · rw [if_neg h]
    exact fr_up' h
theorem pI_2 {S : fS} {a k : Nat} {x : Int32} : (pI S a k x).2 = S.2 := rfl
theorem pL_1 {S : fS} {a k : Nat} {x : Int64} : (pL S a k x).1 = S.1 := rfl
theorem fs_ext {S T : fS} (h1 : ∀ a k, S.1 a k = T.1 a k) (h2 : ∀ a k, S.2 a k = T.2 a k) : S = T := Prod.ext (funext fun a => funext fun k => h1 a k) (funext fun a => funext fun k => h2 a k)
theorem pI_self {S : fS} {a k : Nat} : pI S a k (S.1 a k) = S := fs_ext (fun b j => by
  rw [pI_get]
  by_cases h : b = a ∧ j = k
  · rw [if_pos h, h.1, h.2]
  · rw [if_neg h]) (fun _ _ => rfl)
theorem pI_pI {S : fS} {a k : Nat} {x y : Int32} : pI (pI S a k x) a k y = pI S a k y := fs_ext (fun b j => by
  rw [pI_get, pI_get, pI_get]
  by_cases h : b = a ∧ j = k
  · rw [if_pos h, if_pos h]
  · rw [if_neg h, if_neg h, if_neg h]) (fun _ _ => rfl)
theorem pI_sw {S : fS} {a k b j : Nat} {x y : Int32} (h : ¬ (a = b ∧ k = j)) : pI (pI S a k x) b j y = pI (pI S b j y) a k x := fs_ext (fun c i => by
  rw [pI_get, pI_get, pI_get, pI_get]
  by_cases h1 : c = b ∧ i = j
  · rw [if_pos h1, if_neg (fun q => h ⟨q.1.symm.trans h1.1, q.2.symm.trans h1.2⟩), if_pos h1]
  · rw [if_neg h1, if_neg h1]) (fun _ _ => rfl)
/-- a loop with fuel: in each turn it ends well, or goes on with less to do -/
theorem lp_go {σ β : Type} {L : Nat → σ → Option β} (Inv : Nat → σ → Prop) (Z : Option β → Prop) (h : ∀ d s n, Inv d s → Z (L (n + 1) s) ∨ ∃ d' s', d' < d ∧ Inv d' s' ∧ L (n + 1) s = L n s') : ∀ n d s, d < n → Inv d s → Z (L n s) := by
  intro n
  induction n with
  | zero => intro d s hd; exact absurd hd (Nat.not_lt_zero _)
  | succ n ih =>
    intro d s hd hi
    rcases h d s n hi with hz | ⟨d', s', hlt, hi', e⟩
    · exact hz
    · rw [e]
      exact ih d' s' (by omega) hi'
theorem bd_some {α β : Type} {a : α} {f : α → Option β} : (some a).bind f = f a := rfl
theorem FU_lt {d : Nat} (h : d < 100000) : d < FU := h
end
section
/-! texts: what both readers do, byte by byte -/
def skf (t : Nat → Int32) (n : Nat) : Nat → Nat → Nat
  | 0, i => i
  | f + 1, i => if i < n ∧ t i = 32 then skf t n f (i + 1) else i
/-- behind the blanks -/
def sk (t : Nat → Int32) (n i : Nat) : Nat := skf t n (n - i) i
theorem sk_1 {t : Nat → Int32} {n i : Nat} (h : i < n) (ht : t i = 32) : sk t n i = sk t n (i + 1) := by
  unfold sk
  rw [show n - i = (n - (i + 1)) + 1 by omega]
  show (if i < n ∧ t i = 32 then _ else _) = _
  rw [if_pos ⟨h, ht⟩]
theorem sk_0 {t : Nat → Int32} {n i : Nat} (h : ¬ (i < n ∧ t i = 32)) : sk t n i = i := by
  unfold sk
  cases n - i with
  | zero => rfl
  | succ f =>
    show (if i < n ∧ t i = 32 then _ else _) = _
    rw [if_neg h]
theorem skf_pr {t : Nat → Int32} {n : Nat} : ∀ f i, n - i ≤ f → i ≤ skf t n f i ∧ (i ≤ n → skf t n f i ≤ n) ∧ ¬ (skf t n f i < n ∧ t (skf t n f i) = 32) := by
  intro f
  induction f with
  | zero =>
    intro i h
    refine ⟨Nat.le_refl _, fun h => h, fun q => ?_⟩
    have : i < n := q.1
    omega
  | succ f ih =>
    intro i h
    by_cases hc : i < n ∧ t i = 32
    · have e : skf t n (f + 1) i = skf t n f (i + 1) := if_pos hc
      rw [e]
      obtain ⟨h1, h2, h3⟩ := ih (i + 1) (by omega)
      exact ⟨by omega, fun _ => h2 (by omega), h3⟩
    · have e : skf t n (f + 1) i = i := if_neg hc
      rw [e]
      exact ⟨Nat.le_refl _, fun h => h, hc⟩
theorem sk_ge {t : Nat → Int32} {n i : Nat} : i ≤ sk t n i := (skf_pr (n - i) i (Nat.le_refl _)).1
theorem sk_le {t : Nat → Int32} {n i : Nat} (h : i ≤ n) : sk t n i ≤ n := (skf_pr (n - i) i (Nat.le_refl _)).2.1 h
theorem sk_nb {t : Nat → Int32} {n i : Nat} : ¬ (sk t n i < n ∧ t (sk t n i) = 32) := (skf_pr (n - i) i (Nat.le_refl _)).2.2
theorem sk_id {t : Nat → Int32} {n i : Nat} : sk t n (sk t n i) = sk t n i := sk_0 sk_nb
/-- a small letter; a digit -/
def ltr (t : Nat → Int32) (n k : Nat) : Bool := decide (k < n ∧ 97 ≤ (t k).toInt ∧ (t k).toInt ≤ 122)
def dgt (t : Nat → Int32) (n k : Nat) : Prop := k < n ∧ 48 ≤ (t k).toInt ∧ (t k).toInt ≤ 57
/-- just this word stands there: its letters, and none behind it -/
def wat (t : Nat → Int32) (n : Nat) : List Int32 → Nat → Bool
  | [], i => !ltr t n i
  | c :: w, i => decide (i < n ∧ t i = c) && wat t n w (i + 1)
theorem ltr_iff {t : Nat → Int32} {n k : Nat} : ltr t n k = true ↔ k < n ∧ 97 ≤ (t k).toInt ∧ (t k).toInt ≤ 122 := by
  unfold ltr
  rw [decide_eq_true_iff]
/-- how many digits stand there -/
def dlf (t : Nat → Int32) (n : Nat) : Nat → Nat → Nat
  | 0, _ => 0
  | f + 1, i => if i < n ∧ 48 ≤ (t i).toInt ∧ (t i).toInt ≤ 57 then dlf t n f (i + 1) + 1 else 0
def dl (t : Nat → Int32) (n i : Nat) : Nat := dlf t n (n - i) i
/-- the number that the first k digits at i are -/
def dv (t : Nat → Int32) (i : Nat) : Nat → Nat
  | 0 => 0
  | k + 1 => dv t i k * 10 + ((t (i + k)).toInt - 48).toNat
theorem dl_1 {t : Nat → Int32} {n i : Nat} (h : dgt t n i) : dl t n i = dl t n (i + 1) + 1 := by
  unfold dl
  have := h.1
  rw [show n - i = (n - (i + 1)) + 1 by omega]
  exact if_pos h
theorem dl_0 {t : Nat → Int32} {n i : Nat} (h : ¬ dgt t n i) : dl t n i = 0 := by
  unfold dl
  cases n - i with
  | zero => rfl
  | succ f =>
    exact if_neg h
theorem dl_le {t : Nat → Int32} {n : Nat} : ∀ d i, n - i = d → i ≤ n → i + dl t n i ≤ n := by
  intro d
  induction d with
  | zero =>
    intro i h h2
    rw [dl_0 (fun q => by have := q.1; omega)]; omega
  | succ d ih =>
    intro i h h2
    by_cases hc : dgt t n i
    · rw [dl_1 hc]
      have := ih (i + 1) (by omega) (by omega)
      omega
    · rw [dl_0 hc]; omega
theorem dl_end {t : Nat → Int32} {n : Nat} : ∀ d i, n - i = d → ¬ dgt t n (i + dl t n i) := by
  intro d
  induction d with
  | zero =>
    intro i h q
    have := q.1
    omega
  | succ d ih =>
    intro i h
    by_cases hc : dgt t n i
    · rw [dl_1 hc, show i + (dl t n (i + 1) + 1) = i + 1 + dl t n (i + 1) by omega]
      exact ih (i + 1) (by omega)
    · rw [dl_0 hc]; exact hc
theorem dl_dg {t : Nat → Int32} {n : Nat} : ∀ k i, k < dl t n i → dgt t n (i + k) := by
  intro k
  induction k with
  | zero =>
    intro i h
    by_cases hc : dgt t n i
    · exact hc
    · rw [dl_0 hc] at h; omega
  | succ k ih =>
    intro i h
    by_cases hc : dgt t n i
    · rw [dl_1 hc] at h
      have := ih (i + 1) (by omega)
      rw [show i + (k + 1) = i + 1 + k by omega]
      exact this
    · rw [dl_0 hc] at h; omega
theorem dv_lt {t : Nat → Int32} {n i : Nat} : ∀ k, k ≤ dl t n i → dv t i k < 10 ^ k := by
  intro k
  induction k with
  | zero => intro _; exact Nat.one_pos
  | succ k ih =>
    intro h
    have h1 := ih (by omega)
    have h2 := dl_dg (t := t) (n := n) k i (by omega)
    have h3 := h2.2
    show dv t i k * 10 + ((t (i + k)).toInt - 48).toNat < 10 ^ (k + 1)
    rw [Nat.pow_succ]
    omega
theorem dl_sub {t : Nat → Int32} {n j : Nat} : ∀ k, k ≤ dl t n j → dl t n (j + k) = dl t n j - k := by
  intro k
  induction k with
  | zero => intro _; rfl
  | succ k ih =>
    intro h
    have h1 := ih (by omega)
    have h2 := dl_dg (t := t) (n := n) k j (by omega)
    have h3 := dl_1 h2
    rw [show j + (k + 1) = j + k + 1 by omega]
    omega
/-- a number there, from lo to hi: 0, or its fault -/
def nmf (t : Nat → Int32) (n i : Nat) (lo hi : Int) : Nat := if dl t n (sk t n i) = 0 then 1 + 8 * sk t n i else if dl t n (sk t n i) ≤ 5 ∧ lo ≤ dv t (sk t n i) (dl t n (sk t n i)) ∧ (dv t (sk t n i) (dl t n (sk t n i)) : Int) ≤ hi then 0 else 1 + 8 * sk t n i + 1
/-- the number, and the place behind it -/
def nmv (t : Nat → Int32) (n i : Nat) : Nat := dv t (sk t n i) (dl t n (sk t n i))
def nmp (t : Nat → Int32) (n i : Nat) : Nat := sk t n i + dl t n (sk t n i)
theorem nmp_le {t : Nat → Int32} {n i : Nat} (h : i ≤ n) : nmp t n i ≤ n := dl_le _ _ rfl (sk_le h)
theorem nmp_ge {t : Nat → Int32} {n i : Nat} : i ≤ nmp t n i := Nat.le_trans sk_ge (Nat.le_add_right _ _)
theorem nmf_0 {t : Nat → Int32} {n i : Nat} {lo hi : Int} (h : nmf t n i lo hi = 0) : 0 < dl t n (sk t n i) ∧ dl t n (sk t n i) ≤ 5 ∧ lo ≤ nmv t n i ∧ (nmv t n i : Int) ≤ hi := by
  unfold nmf at h
  unfold nmv
  by_cases h1 : dl t n (sk t n i) = 0
  · rw [if_pos h1] at h; omega
  · rw [if_neg h1] at h
    by_cases h2 : dl t n (sk t n i) ≤ 5 ∧ lo ≤ dv t (sk t n i) (dl t n (sk t n i)) ∧ (dv t (sk t n i) (dl t n (sk t n i)) : Int) ≤ hi
    · exact ⟨by omega, h2⟩
    · rw [if_neg h2] at h; omega
theorem nmp_gt {t : Nat → Int32} {n i : Nat} {lo hi : Int} (h : nmf t n i lo hi = 0) : i < nmp t n i := by
  have h1 := (nmf_0 h).1
  have h2 := sk_ge (t := t) (n := n) (i := i)
  unfold nmp
  omega
theorem nmf_le {t : Nat → Int32} {n i : Nat} {lo hi : Int} (h : i ≤ n) : nmf t n i lo hi ≤ 8 * n + 2 := by
  have := sk_le (t := t) h
  unfold nmf
  split
  · omega
  · split
    · omega
    · omega
end
section
/-! the class's tape -/
def tS (S : fS) (i s f : Int32) : fS := pI (pI (pI S 1 2 i) 1 3 s) 1 4 f
theorem tS_at {S : fS} {i s f j : Int32} : pI (tS S i s f) 1 2 j = tS S j s f := by
  unfold tS
  rw [pI_sw (by decide), pI_sw (a := 1) (k := 3) (by decide), pI_pI]
theorem tS_st {S : fS} {i s f j : Int32} : pI (tS S i s f) 1 3 j = tS S i j f := by
  unfold tS
  rw [pI_sw (by decide), pI_pI]
theorem tS_fa {S : fS} {i s f j : Int32} : pI (tS S i s f) 1 4 j = tS S i s j := by
  unfold tS
  rw [pI_pI]
theorem tS_2 {S : fS} {i s f : Int32} : (tS S i s f).1 1 2 = i := id rfl
theorem tS_3 {S : fS} {i s f : Int32} : (tS S i s f).1 1 3 = s := id rfl
theorem tS_4 {S : fS} {i s f : Int32} : (tS S i s f).1 1 4 = f := id rfl
theorem tS_1 {S : fS} {i s f : Int32} : (tS S i s f).1 1 1 = S.1 1 1 := id rfl
theorem tS_t {S : fS} {i s f : Int32} : (tS S i s f).1 2 = S.1 2 := id rfl
theorem tS_of {S : fS} : tS S (S.1 1 2) (S.1 1 3) (S.1 1 4) = S := by
  unfold tS
  rw [pI_self, pI_self, pI_self]
section CT
variable {S : fS} {n : Nat} {s f : Int32}
theorem ct_skip (hn : S.1 1 1 = o3 n) (hl : n ≤ 400) {i : Nat} (hi : i ≤ n) : f_X7_skipBlanks (tS S (o3 i) s f) = some (tS S (o3 (sk (S.1 2) n i)) s f) := by
  unfold f_X7_skipBlanks
  refine lp_go (L := fun k x => lp_X7_skipBlanks_0 (fun S10 => some S10) k x) (fun d x => ∃ j, x = tS S (o3 j) s f ∧ j ≤ n ∧ d = n - j ∧ sk (S.1 2) n j = sk (S.1 2) n i) (fun x => x = some (tS S (o3 (sk (S.1 2) n i)) s f)) ?_ FU (n - i) _ (FU_lt (by omega)) ⟨i, rfl, hi, rfl, rfl⟩
  rintro d x k ⟨j, rfl, hj, rfl, hs⟩
  show (lp_X7_skipBlanks_0 _ (k + 1) _ = _) ∨ _
  rw [lp_X7_skipBlanks_0.eq_2]
  simp only [tS_1, tS_2, hn]
  by_cases hc : j < n
  · rw [if_neg (by rw [o3_le (by omega) (by omega)]; omega), if_neg (by rw [o3_l, o3_le (by omega) (by omega)]; omega), gI_o (by omega) (by omega), bd_some, tS_t]
    by_cases hb : S.1 2 j = 32
    · rw [if_pos hb, bd_some, tS_at, o3_s]
      exact Or.inr ⟨n - (j + 1), _, by omega, ⟨j + 1, rfl, by omega, rfl, by rw [← hs, sk_1 hc hb]⟩, rfl⟩
    · rw [if_neg hb]
      refine Or.inl ?_
      rw [← hs, sk_0 (fun q => hb q.2)]
  · rw [if_pos (by rw [o3_le (by omega) (by omega)]; omega)]
    refine Or.inl ?_
    rw [← hs, sk_0 (fun q => hc q.1)]
theorem ct_byte (hl : n ≤ 400) {X : fS} (h1 : X.1 1 1 = o3 n) {k : Nat} (hk : k < 2000000) : f_X7_byteAt (o3 k) X = some (if k < n then X.1 2 k else -1) := by
  unfold f_X7_byteAt
  rw [if_neg (o3_nn (by omega)), h1]
  by_cases hc : k < n
  · rw [if_neg (by rw [o3_le (by omega) (by omega)]; omega), if_neg (by rw [o3_l, o3_le (by omega) (by omega)]; omega), gI_o (by omega) (by omega), bd_some, if_pos hc]
  · rw [if_pos (by rw [o3_le (by omega) (by omega)]; omega), if_neg hc]
theorem ct_sign (hn : S.1 1 1 = o3 n) (hl : n ≤ 400) {c : Int32} (hc : c ≠ -1) {i : Nat} (hi : i ≤ n) : f_X7_takeSign c (tS S (o3 i) s f) = some (if sk (S.1 2) n i < n ∧ S.1 2 (sk (S.1 2) n i) = c then (1, tS S (o3 (sk (S.1 2) n i + 1)) (o3 (sk (S.1 2) n i)) f) else (0, tS S (o3 (sk (S.1 2) n i)) s f)) := by
  have hj := sk_le (t := S.1 2) hi
  unfold f_X7_takeSign
  rw [ct_skip hn hl hi, bd_some, tS_2, ct_byte hl (X := tS S (o3 (sk (S.1 2) n i)) s f) (by rw [tS_1, hn]) (by omega), bd_some, tS_t]
  generalize sk (S.1 2) n i = j at hj
  by_cases h : j < n ∧ S.1 2 j = c
  · rw [if_pos h.1, if_pos h.2, if_pos h, bd_some, bd_some, tS_st, tS_2, tS_at, o3_s]
  · rw [if_neg h, if_neg]
    intro q
    by_cases hlt : j < n
    · rw [if_pos hlt] at q; exact h ⟨hlt, q⟩
    · rw [if_neg hlt] at q; exact hc q.symm
theorem ct_end (hn : S.1 1 1 = o3 n) (hl : n ≤ 400) {i : Nat} (hi : i ≤ n) : f_X7_isAtEnd (tS S (o3 i) s f) = some (if sk (S.1 2) n i < n then 0 else 1, tS S (o3 (sk (S.1 2) n i)) s f) := by
  have hj := sk_le (t := S.1 2) hi
  unfold f_X7_isAtEnd
  rw [ct_skip hn hl hi, bd_some, tS_2, tS_1, hn]
  by_cases h : sk (S.1 2) n i < n
  · rw [if_pos ((o3_lt (by omega) (by omega)).mpr h), if_pos h]
  · rw [if_neg (fun q => h ((o3_lt (by omega) (by omega)).mp q)), if_neg h]
theorem ct_fail {X : fS} {p k : Int32} : f_X7_fail p k X = some (0, pI X 1 4 (1 + 8 * p + k)) := rfl
theorem ct_digit (hl : n ≤ 400) {X : fS} (h1 : X.1 1 1 = o3 n) {k : Nat} (hk : k < 2000000) : f_X7_isDigitAt (o3 k) X = some (if 0 < dl (X.1 2) n k then 1 else 0) := by
  unfold f_X7_isDigitAt
  rw [ct_byte hl h1 hk, bd_some]
  by_cases hc : dgt (X.1 2) n k
  · obtain ⟨h1, h2, h3⟩ := hc
    rw [if_pos h1, if_neg (fun q => by have q := ni_lt.mp q; rw [show (48 : Int32).toInt = 48 from rfl] at q; omega), if_neg (fun q => by have q := ni_lt.mp q; rw [show (57 : Int32).toInt = 57 from rfl] at q; omega), dl_1 ⟨h1, h2, h3⟩, if_pos (by omega)]
  · rw [dl_0 hc, if_neg (Nat.lt_irrefl 0)]
    by_cases hk : k < n
    · rw [if_pos hk]
      by_cases h2 : X.1 2 k < 48
      · rw [if_pos h2]
      · rw [if_neg h2, if_pos]
        have h2 : ¬ (X.1 2 k).toInt < 48 := fun q => h2 (ni_lt.mpr q)
        refine ni_lt.mpr ?_
        show 57 < (X.1 2 k).toInt
        refine Int.not_le.mp (fun q => hc ⟨hk, by omega, q⟩)
    · rw [if_neg hk]
      rfl
/-- the word's first letters, from k on -/
def wpf (t : Nat → Int32) (n : Nat) : List Int32 → Nat → Bool
  | [], _ => true
  | c :: w, i => decide (i < n ∧ t i = c) && wpf t n w (i + 1)
theorem wat_wpf {t : Nat → Int32} {n : Nat} : ∀ (w : List Int32) (i : Nat), wat t n w i = (wpf t n w i && !ltr t n (i + w.length)) := by
  intro w
  induction w with
  | nil => intro i; show (!ltr t n i) = (true && !ltr t n (i + 0)); simp
  | cons c w ih =>
    intro i
    show (decide (i < n ∧ t i = c) && wat t n w (i + 1)) = (decide (i < n ∧ t i = c) && wpf t n w (i + 1) && !ltr t n (i + (w.length + 1)))
    rw [ih (i + 1), Bool.and_assoc, show i + 1 + w.length = i + (w.length + 1) by omega]
theorem ct_wordlp (hn : S.1 1 1 = o3 n) (hl : n ≤ 400) {w j : Nat} {K : fS → Option (Int32 × fS)} (hj : j ≤ n) (hlen : (mm_sb.getD w []).length < 20) (hpos : ∀ c ∈ mm_sb.getD w [], c ≠ -1) : ∀ (u : List Int32) (k m : Nat), k + u.length = (mm_sb.getD w []).length → (mm_sb.getD w []).drop k = u → u.length < m → lp_X7_takeWord_11 w (o3 (mm_sb.getD w []).length) K m (o3 k) (tS S (o3 j) s f) = if wpf (S.1 2) n u (j + k) then K (tS S (o3 j) s f) else some (0, tS S (o3 j) s f) := by
  intro u
  induction u with
  | nil =>
    intro k m h1 h2 h3
    obtain ⟨m, rfl⟩ : ∃ m', m = m' + 1 := ⟨m - 1, by have : 0 < m := h3; omega⟩
    rw [lp_X7_takeWord_11.eq_2, if_pos (by rw [o3_le (by omega) (by omega)]; have : k + 0 = _ := h1; omega)]
    rfl
  | cons c u ih =>
    intro k m h1 h2 h3
    have h1 : k + (u.length + 1) = _ := h1
    have h3 : u.length + 1 < m := h3
    obtain ⟨m, rfl⟩ : ∃ m', m = m' + 1 := ⟨m - 1, by omega⟩
    have hg : (mm_sb.getD w []).getD k 0 = c := by
      have : ((mm_sb.getD w []).drop k)[0]? = some c := by rw [h2]; rfl
      rw [List.getElem?_drop] at this
      rw [List.getD_eq_getElem?_getD, show k = k + 0 from rfl, this]; rfl
    have hmem : c ∈ mm_sb.getD w [] := List.mem_of_mem_drop (i := k) (by rw [h2]; exact List.mem_cons_self)
    rw [lp_X7_takeWord_11.eq_2, if_neg (by rw [o3_le (by omega) (by omega)]; omega), tS_2, o3_add, ct_byte hl (X := tS S (o3 j) s f) (by rw [tS_1, hn]) (by omega), bd_some, tS_t]
    have hch : f_J0_charAt_5068e w (o3 k) = some c := by
      unfold f_J0_charAt_5068e
      rw [if_neg (ix_ok (by omega) (by omega)), o3_nat (by omega), hg]
    rw [hch, bd_some]
    show _ = if (decide (j + k < n ∧ S.1 2 (j + k) = c) && wpf (S.1 2) n u (j + k + 1)) = true then _ else _
    by_cases h : j + k < n ∧ S.1 2 (j + k) = c
    · rw [if_pos h.1, if_pos h.2, o3_s, ih (k + 1) m (by omega) (by rw [← List.drop_drop, h2]; rfl) (by omega), decide_eq_true h, Bool.true_and, show j + (k + 1) = j + k + 1 by omega]
    · rw [decide_eq_false h, Bool.false_and]
      rw [if_neg]
      · rfl
      intro q
      by_cases hlt : j + k < n
      · rw [if_pos hlt] at q; exact h ⟨hlt, q⟩
      · rw [if_neg hlt] at q; exact hpos c hmem q.symm
theorem ct_sblen : ∀ w, w < 16 → (mm_sb.getD w []).length < 20 := by decide
theorem ct_sbpos : ∀ w, w < 16 → ∀ c ∈ mm_sb.getD w [], c ≠ -1 := by decide
theorem ct_word (hn : S.1 1 1 = o3 n) (hl : n ≤ 400) {w i : Nat} (hw : w < 16) (hi : i ≤ n) : f_X7_takeWord w (tS S (o3 i) s f) = some (if wat (S.1 2) n (mm_sb.getD w []) (sk (S.1 2) n i) then (1, tS S (o3 (sk (S.1 2) n i + (mm_sb.getD w []).length)) (o3 (sk (S.1 2) n i)) f) else (0, tS S (o3 (sk (S.1 2) n i)) s f)) := by
  have hj := sk_le (t := S.1 2) hi
  have hlen := ct_sblen w hw
  unfold f_X7_takeWord
  rw [ct_skip hn hl hi, bd_some, show f_J0_length_8abf5 w = some (o3 (mm_sb.getD w []).length) from rfl, bd_some]
  generalize sk (S.1 2) n i = j at hj
  rw [show (0 : Int32) = o3 0 from rfl, ct_wordlp hn hl hj hlen (ct_sbpos w hw) (mm_sb.getD w []) 0 FU (by omega) rfl (FU_lt (by omega)), wat_wpf]
  rw [show j + 0 = j from rfl]
  by_cases hp : wpf (S.1 2) n (mm_sb.getD w []) j = true
  · rw [if_pos hp, hp, Bool.true_and, tS_2, o3_add, ct_byte hl (X := tS S (o3 j) s f) (by rw [tS_1, hn]) (by omega), bd_some, tS_t]
    generalize (mm_sb.getD w []).length = len at hlen
    by_cases hl2 : ltr (S.1 2) n (j + len) = true
    · obtain ⟨g1, g2, g3⟩ := ltr_iff.mp hl2
      rw [if_pos g1, if_neg (fun q => by have q := ni_lt.mp q; rw [show (97 : Int32).toInt = 97 from rfl] at q; omega), if_neg (fun q => by have q := ni_lt.mp q; rw [show (122 : Int32).toInt = 122 from rfl] at q; omega), hl2]
      rfl
    · have hl3 : ltr (S.1 2) n (j + len) = false := by
        cases hq : ltr (S.1 2) n (j + len)
        · rfl
        · exact absurd hq hl2
      rw [hl3]
      show _ = some (if true = true then _ else _)
      rw [if_pos rfl]
      have fin : ((some (pI (tS S (o3 j) s f) 1 3 ((tS S (o3 j) s f).1 1 2))).bind fun S21 => (some (pI S21 1 2 ((S21.1 1 2) + o3 len))).bind fun S24 => some ((1 : Int32), S24)) = some ((1 : Int32), tS S (o3 (j + len)) (o3 j) f) := by
        rw [bd_some, bd_some, tS_2, tS_st, tS_2, tS_at, o3_add]
      by_cases hlt : j + len < n
      · rw [if_pos hlt]
        by_cases h1 : S.1 2 (j + len) < 97
        · rw [if_pos h1]; exact fin
        · rw [if_neg h1, if_pos]
          · exact fin
          · have h1 : ¬ (S.1 2 (j + len)).toInt < 97 := fun q => h1 (ni_lt.mpr q)
            refine ni_lt.mpr (Int.not_le.mp (fun q => hl2 (ltr_iff.mpr ⟨hlt, by omega, q⟩)))
      · rw [if_neg hlt, if_pos (by decide)]
        exact fin
  · rw [if_neg hp]
    have hp : wpf (S.1 2) n (mm_sb.getD w []) j = false := by
      cases hq : wpf (S.1 2) n (mm_sb.getD w []) j
      · rfl
      · exact absurd hq hp
    rw [hp, Bool.false_and]
    rfl
theorem dv_5 {t : Nat → Int32} {j q : Nat} (hq : q ≤ 5) (hq2 : q ≤ dl t n j) : dv t j q < 100000 := by
  have h1 := dv_lt (t := t) (n := n) (i := j) q hq2
  have h2 : 10 ^ q ≤ 10 ^ 5 := Nat.pow_le_pow_right (by decide) hq
  have h3 : (10 : Nat) ^ 5 = 100000 := by decide
  omega
theorem ct_numlp (hn : S.1 1 1 = o3 n) (hl : n ≤ 400) {lo hi : Int32} {K : Int32 → fS → Option (Int32 × fS)} {j : Nat} (hj : j ≤ n) : ∀ d k m, k + d = dl (S.1 2) n j → d < m → lp_X7_takeNumber_14 lo hi K m (o3 (dv (S.1 2) j (min k 5))) (tS S (o3 (j + k)) (o3 j) f) = K (o3 (dv (S.1 2) j (min (dl (S.1 2) n j) 5))) (tS S (o3 (j + dl (S.1 2) n j)) (o3 j) f) := by
  have hL := dl_le (t := S.1 2) (n := n) _ j rfl hj
  intro d
  induction d with
  | zero =>
    intro k m hk hm
    obtain ⟨m, rfl⟩ : ∃ m', m = m' + 1 := ⟨m - 1, by omega⟩
    have hk : k = dl (S.1 2) n j := hk
    subst hk
    have hE := dl_end (t := S.1 2) (n := n) _ j rfl
    rw [lp_X7_takeNumber_14.eq_2, tS_1, tS_2, hn]
    by_cases hc : n ≤ j + dl (S.1 2) n j
    · rw [if_pos ((o3_le (by omega) (by omega)).mpr hc)]
    · rw [if_neg (fun q => hc ((o3_le (by omega) (by omega)).mp q)), ct_digit hl (X := tS S (o3 (j + dl (S.1 2) n j)) (o3 j) f) (by rw [tS_1, hn]) (by omega), bd_some, tS_t, dl_0 hE, if_neg (Nat.lt_irrefl 0), if_pos rfl]
  | succ d ih =>
    intro k m hk hm
    obtain ⟨m, rfl⟩ : ∃ m', m = m' + 1 := ⟨m - 1, by omega⟩
    have hg := dl_dg (t := S.1 2) (n := n) k j (by omega)
    obtain ⟨g1, g2, g3⟩ := hg
    have hds := dl_sub (t := S.1 2) (n := n) (j := j) k (by omega)
    rw [lp_X7_takeNumber_14.eq_2, tS_1, tS_2, hn, if_neg (by rw [o3_le (by omega) (by omega)]; omega)]
    rw [ct_digit hl (X := tS S (o3 (j + k)) (o3 j) f) (by rw [tS_1, hn]) (by omega), bd_some, tS_t, if_pos (show 0 < dl (S.1 2) n (j + k) by omega), if_neg (by decide), tS_3, o3_sub (by omega), show j + k - j = k by omega]
    by_cases h5 : 5 ≤ k
    · rw [o3_l, if_pos ((o3_le (by omega) (by omega)).mpr h5), bd_some, tS_at, o3_s, show j + k + 1 = j + (k + 1) by omega, show min k 5 = min (k + 1) 5 by omega]
      exact ih (k + 1) m (by omega) (by omega)
    · rw [o3_l, if_neg (fun q => h5 ((o3_le (by omega) (by omega)).mp q)), ct_byte hl (X := tS S (o3 (j + k)) (o3 j) f) (by rw [tS_1, hn]) (by omega), bd_some, tS_t, if_pos g1, bd_some, tS_at, o3_s, show j + k + 1 = j + (k + 1) by omega, ← ih (k + 1) m (by omega) (by omega)]
      have hd1 := dv_5 (n := n) (t := S.1 2) (j := j) (q := k) (by omega) (by omega)
      obtain ⟨b, hb, hb2⟩ := o3_ex (x := S.1 2 (j + k)) (by omega)
      rw [show min k 5 = k by omega, show min (k + 1) 5 = k + 1 by omega]
      have e : o3 (dv (S.1 2) j k) * 10 + S.1 2 (j + k) - 48 = o3 (dv (S.1 2) j (k + 1)) := by
        show _ = o3 (dv (S.1 2) j k * 10 + ((S.1 2 (j + k)).toInt - 48).toNat)
        rw [hb, show (10 : Int32) = o3 10 from rfl, show (48 : Int32) = o3 48 from rfl, o3_mul, o3_add, o3_sub (by omega), o3_int (by omega), show dv (S.1 2) j k * 10 + b - 48 = dv (S.1 2) j k * 10 + ((b : Int) - 48).toNat by omega]
      rw [e]
theorem ct_num (hn : S.1 1 1 = o3 n) (hl : n ≤ 400) {lo hi : Int32} {i : Nat} (hi' : i ≤ n) : f_X7_takeNumber lo hi (tS S (o3 i) s f) = some (if nmf (S.1 2) n i lo.toInt hi.toInt = 0 then (o3 (nmv (S.1 2) n i), tS S (o3 (nmp (S.1 2) n i)) (o3 (sk (S.1 2) n i)) f) else (-1, tS S (o3 (nmp (S.1 2) n i)) (o3 (sk (S.1 2) n i)) (o3 (nmf (S.1 2) n i lo.toInt hi.toInt)))) := by
  have hj := sk_le (t := S.1 2) hi'
  unfold f_X7_takeNumber nmf nmv nmp
  rw [ct_skip hn hl hi', bd_some, bd_some, tS_2, tS_st]
  generalize sk (S.1 2) n i = j at hj
  have hL := dl_le (t := S.1 2) (n := n) _ j rfl hj
  have hdk : ∀ q, q ≤ 5 → q ≤ dl (S.1 2) n j → dv (S.1 2) j q < 100000 := fun q h1 h2 => dv_5 h1 h2
  have hlp := ct_numlp hn hl (lo := lo) (hi := hi) (f := f) hj (dl (S.1 2) n j) 0 FU (by omega) (FU_lt (by omega))
    (K := fun u22 S23 => if (S23.1 1 2) = (S23.1 1 3) then ((f_X7_fail (S23.1 1 3) (0 : Int32) S23).bind fun q37 =>
  some ((-1 : Int32), q37.2)) else
  (if (5 : Int32) < ((S23.1 1 2) - (S23.1 1 3)) then ((f_X7_fail (S23.1 1 3) (1 : Int32) S23).bind fun q27 =>
  some ((-1 : Int32), q27.2)) else
  ((f_X10_isFrom u22 lo hi S23).bind fun q30 =>
  if q30 = (0 : Int32) then ((f_X7_fail (S23.1 1 3) (1 : Int32) S23).bind fun q34 =>
  some ((-1 : Int32), q34.2)) else
  (some (u22, S23)))))
  refine Eq.trans hlp ?_
  generalize dl (S.1 2) n j = L at hL hdk
  rw [tS_2, tS_3]
  by_cases h0 : L = 0
  · subst h0
    rw [show j + 0 = j from rfl, if_pos rfl, if_pos rfl, if_neg (by omega), ct_fail, bd_some]
    show some (-1, pI (tS S (o3 j) (o3 j) f) 1 4 _) = _
    rw [tS_fa, show (1 : Int32) = o3 1 from rfl, show (8 : Int32) = o3 8 from rfl, show (0 : Int32) = o3 0 from rfl, o3_mul, o3_add, o3_add]
    rfl
  · rw [if_neg (by rw [o3_inj (by omega) (by omega)]; omega), o3_sub (by omega), show j + L - j = L by omega, if_neg h0]
    have ffail : ((f_X7_fail (o3 j) 1 (tS S (o3 (j + L)) (o3 j) f)).bind fun q27 => some ((-1 : Int32), q27.2)) = some (-1, tS S (o3 (j + L)) (o3 j) (o3 (1 + 8 * j + 1))) := by
      rw [ct_fail, bd_some]
      show some (-1, pI (tS S (o3 (j + L)) (o3 j) f) 1 4 _) = _
      rw [tS_fa, show (1 : Int32) = o3 1 from rfl, show (8 : Int32) = o3 8 from rfl, o3_mul, o3_add, o3_add]
    by_cases h5 : 5 < L
    · rw [show (5 : Int32) = o3 5 from rfl, if_pos ((o3_lt (by omega) (by omega)).mpr h5), ffail, if_neg (c := L ≤ 5 ∧ _) (fun q => by omega), if_neg (by omega)]
    · rw [show (5 : Int32) = o3 5 from rfl, if_neg (fun q => h5 ((o3_lt (by omega) (by omega)).mp q)), show min L 5 = L by omega]
      have hv := hdk L (by omega) (by omega)
      rcases op_isFrom01 (v := o3 (dv (S.1 2) j L)) (a := lo) (b := hi) (S := tS S (o3 (j + L)) (o3 j) f) with ⟨h, h1⟩ | ⟨h, h1, h2⟩
      · rw [o3_int (by omega)] at h1
        rw [h, bd_some, if_pos rfl, ffail, if_neg (c := L ≤ 5 ∧ _) (fun q => h1 q.2), if_neg (by omega)]
      · rw [o3_int (by omega)] at h1 h2
        rw [h, bd_some, if_neg (by decide), if_pos (c := L ≤ 5 ∧ _) ⟨by omega, h1, h2⟩, if_pos rfl]
end CT
end
