section
/-! small numbers, memory, loops -/
def o3 (k : Nat) : Int32 := Int32.ofNat k
theorem o3_int {k : Nat} (h : k < 2147483648) : (o3 k).toInt = k := Int32.toInt_ofNat_of_lt h
theorem o3_nat {k : Nat} (h : k < 2147483648) : (o3 k).toNatClampNeg = k := Int32.toNatClampNeg_ofNat_of_lt h
theorem o3_lt {a b : Nat} (ha : a < 2147483648) (hb : b < 2147483648) : o3 a < o3 b ↔ a < b := by
  rw [ni_lt, o3_int ha, o3_int hb]; omega
theorem o3_le {a b : Nat} (ha : a < 2147483648) (hb : b < 2147483648) : o3 a ≤ o3 b ↔ a ≤ b := by
  rw [ni_le, o3_int ha, o3_int hb]; omega
theorem o3_inj {a b : Nat} (ha : a < 2147483648) (hb : b < 2147483648) : o3 a = o3 b ↔ a = b := by
  rw [ni_eq, o3_int ha, o3_int hb]; omega
theorem o3_add {a b : Nat} : o3 a + o3 b = o3 (a + b) := (Int32.ofNat_add a b).symm
theorem o3_mul {a b : Nat} : o3 a * o3 b = o3 (a * b) := (Int32.ofNat_mul a b).symm
theorem o3_sub {a b : Nat} (h : b ≤ a) : o3 a - o3 b = o3 (a - b) := (Int32.ofNat_sub a b h).symm
theorem o3_s {a : Nat} : o3 a + 1 = o3 (a + 1) := o3_add (b := 1)
theorem o3_l (n : Nat) : (no_index (OfNat.ofNat n) : Int32) = o3 (OfNat.ofNat n) := rfl
theorem o3_nn {a : Nat} (ha : a < 2147483648) : ¬ o3 a < 0 := by
  rw [ni_lt, o3_int ha, ni_0]; omega
theorem o3_0le {a : Nat} (ha : a < 2147483648) : 0 ≤ o3 a := by
  rw [ni_le, o3_int ha, ni_0]; omega
theorem o3_of {x : Int32} (h : 0 ≤ x.toInt) : x = o3 x.toNatClampNeg := by
  rw [ni_eq, o3_int (by have := ni_nat h; have := ni_hi x; omega), ni_nat h]
theorem o3_ex {x : Int32} (h : 0 ≤ x.toInt) : ∃ k, x = o3 k ∧ (k : Int) = x.toInt := ⟨x.toNatClampNeg, o3_of h, ni_nat h⟩
theorem o3_m1 {a : Nat} (ha : a < 2147483648) : o3 a ≠ -1 := by
  intro h
  have := o3_nn ha
  rw [h] at this
  exact this (by decide)
theorem ix_ok {k n : Nat} (h : k < n) (hn : n < 2147483648) : ¬ (o3 k < 0 ∨ n ≤ (o3 k).toNatClampNeg) := by
  rw [o3_nat (by omega)]
  intro q
  rcases q with q | q
  · exact o3_nn (by omega) q
  · omega
theorem gI_o {S : fS} {a n k : Nat} (h : k < n) (hn : n < 2147483648) : gI S a n (o3 k) = some (S.1 a k) := by
  unfold gI
  rw [if_neg (ix_ok h hn), o3_nat (by omega)]
theorem gL_o {S : fS} {a n k : Nat} (h : k < n) (hn : n < 2147483648) : gL S a n (o3 k) = some (S.2 a k) := by
  unfold gL
  rw [if_neg (ix_ok h hn), o3_nat (by omega)]
theorem sI_o {S : fS} {a n k : Nat} {x : Int32} (h : k < n) (hn : n < 2147483648) : sI S a n (o3 k) x = some (pI S a k x) := by
  unfold sI
  rw [if_neg (ix_ok h hn), o3_nat (by omega)]
theorem sL_o {S : fS} {a n k : Nat} {x : Int64} (h : k < n) (hn : n < 2147483648) : sL S a n (o3 k) x = some (pL S a k x) := by
  unfold sL
  rw [if_neg (ix_ok h hn), o3_nat (by omega)]
theorem gI_l {S : fS} {a n k : Nat} (h : k < n) (hn : n < 2147483648) : gI S a n (no_index (OfNat.ofNat k)) = some (S.1 a k) := gI_o h hn
theorem gL_l {S : fS} {a n k : Nat} (h : k < n) (hn : n < 2147483648) : gL S a n (no_index (OfNat.ofNat k)) = some (S.2 a k) := gL_o h hn
theorem sI_l {S : fS} {a n k : Nat} {x : Int32} (h : k < n) (hn : n < 2147483648) : sI S a n (no_index (OfNat.ofNat k)) x = some (pI S a k x) := sI_o h hn
theorem sL_l {S : fS} {a n k : Nat} {x : Int64} (h : k < n) (hn : n < 2147483648) : sL S a n (no_index (OfNat.ofNat k)) x = some (pL S a k x) := sL_o h hn
theorem fr_up' {α : Type} {f : Nat → Nat → α} {b j : Nat} {x : α} {a k : Nat} (h : ¬ (a = b ∧ k = j)) : mm_up f b j x a k = f a k := by
  unfold mm_up
  by_cases ha : a = b
  · rw [if_pos ha]
    have hk : ¬ k = j := fun q => h ⟨ha, q⟩
    show (if k = j then x else f b k) = _
    rw [if_neg hk, ha]
  · rw [if_neg ha]
theorem pI_get {S : fS} {a k b j : Nat} {x : Int32} : (pI S a k x).1 b j = if b = a ∧ j = k then x else S.1 b j := by
  by_cases h : b = a ∧ j = k
  · rw [if_pos h]
    obtain ⟨rfl, rfl⟩ := h
    unfold pI mm_up
    simp
  · rw [if_neg h]
    exact fr_up' h
theorem pL_get {S : fS} {a k b j : Nat} {x : Int64} : (pL S a k x).2 b j = if b = a ∧ j = k then x else S.2 b j := by
  by_cases h : b = a ∧ j = k
  · rw [if_pos h]
    obtain ⟨rfl, rfl⟩ := h
    unfold pL mm_up
    simp
  · rw [if_neg h]
    exact fr_up' h
theorem pI_2 {S : fS} {a k : Nat} {x : Int32} : (pI S a k x).2 = S.2 := rfl
theorem pL_1 {S : fS} {a k : Nat} {x : Int64} : (pL S a k x).1 = S.1 := rfl
theorem fs_ext {S T : fS} (h1 : ∀ a k, S.1 a k = T.1 a k) (h2 : ∀ a k, S.2 a k = T.2 a k) : S = T := Prod.ext (funext fun a => funext fun k => h1 a k) (funext fun a => funext fun k => h2 a k)
theorem pI_self {S : fS} {a k : Nat} : pI S a k (S.1 a k) = S := fs_ext (fun b j => by
  rw [pI_get]
  by_cases h : b = a ∧ j = k
  · rw [if_pos h, h.1, h.2]
  · rw [if_neg h]) (fun _ _ => rfl)
theorem pI_pI {S : fS} {a k : Nat} {x y : Int32} : pI (pI S a k x) a k y = pI S a k y := fs_ext (fun b j => by
  rw [pI_get, pI_get, pI_get]
  by_cases h : b = a ∧ j = k
  · rw [if_pos h, if_pos h]
  · rw [if_neg h, if_neg h, if_neg h]) (fun _ _ => rfl)
theorem pI_sw {S : fS} {a k b j : Nat} {x y : Int32} (h : ¬ (a = b ∧ k = j)) : pI (pI S a k x) b j y = pI (pI S b j y) a k x := fs_ext (fun c i => by
  rw [pI_get, pI_get, pI_get, pI_get]
  by_cases h1 : c = b ∧ i = j
  · rw [if_pos h1, if_neg (fun q => h ⟨q.1.symm.trans h1.1, q.2.symm.trans h1.2⟩), if_pos h1]
  · rw [if_neg h1, if_neg h1]) (fun _ _ => rfl)
/-- a loop with fuel: in each turn it ends well, or goes on with less to do -/
theorem lp_go {σ β : Type} {L : Nat → σ → Option β} (Inv : Nat → σ → Prop) (Z : Option β → Prop) (h : ∀ d s n, Inv d s → Z (L (n + 1) s) ∨ ∃ d' s', d' < d ∧ Inv d' s' ∧ L (n + 1) s = L n s') : ∀ n d s, d < n → Inv d s → Z (L n s) := by
  intro n
  induction n with
  | zero => intro d s hd; exact absurd hd (Nat.not_lt_zero _)
  | succ n ih =>
    intro d s hd hi
    rcases h d s n hi with hz | ⟨d', s', hlt, hi', e⟩
    · exact hz
    · rw [e]
      exact ih d' s' (by omega) hi'
theorem bd_some {α β : Type} {a : α} {f : α → Option β} : (some a).bind f = f a := rfl
theorem FU_lt {d : Nat} (h : d < 100000) : d < FU := h
end
