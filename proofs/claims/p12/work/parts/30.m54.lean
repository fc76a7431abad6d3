section
/-! the worth of a test -/
theorem o3_and {x p : Nat} (hx : x < 2147483648) (hp : p < 31) : o3 x &&& o3 (2 ^ p - 1) = o3 (x % 2 ^ p) := by
  have hpp : 2 ^ p ≤ 2 ^ 30 := Nat.pow_le_pow_right (by omega) (by omega)
  have h0 : 0 < 2 ^ p := Nat.two_pow_pos p
  have hm : x % 2 ^ p < 2 ^ p := Nat.mod_lt _ h0
  apply Int32.toBitVec_inj.mp
  rw [Int32.toBitVec_and]
  apply BitVec.eq_of_toNat_eq
  have e1 : (o3 x).toBitVec = BitVec.ofNat 32 x := rfl
  have e2 : (o3 (2 ^ p - 1)).toBitVec = BitVec.ofNat 32 (2 ^ p - 1) := rfl
  have e3 : (o3 (x % 2 ^ p)).toBitVec = BitVec.ofNat 32 (x % 2 ^ p) := rfl
  rw [e1, e2, e3, BitVec.toNat_and, BitVec.toNat_ofNat, BitVec.toNat_ofNat, BitVec.toNat_ofNat, Nat.mod_eq_of_lt (show x < 2 ^ 32 by omega), Nat.mod_eq_of_lt (show 2 ^ p - 1 < 2 ^ 32 by omega), Nat.mod_eq_of_lt (show x % 2 ^ p < 2 ^ 32 by omega), Nat.and_two_pow_sub_one_eq_mod]
theorem o3_shr {x : Nat} {b : Int32} {p : Nat} (hx : x < 2147483648) (hb : b.toBitVec.smod 32 = BitVec.ofNat 32 p) (hp : p < 32) : o3 x >>> b = o3 (x / 2 ^ p) := by
  have hd : x / 2 ^ p ≤ x := Nat.div_le_self _ _
  rw [ni_eq, o3_int (by omega)]
  have e : (o3 x >>> b).toInt = (((o3 x).toBitVec).sshiftRight p).toInt := by
    show ((o3 x >>> b).toBitVec).toInt = _
    rw [Int32.toBitVec_shiftRight, hb, BitVec.sshiftRight_eq', BitVec.toNat_ofNat, Nat.mod_eq_of_lt (show p < 2 ^ 32 by omega)]
  rw [e, BitVec.toInt_sshiftRight]
  have e1 : ((o3 x).toBitVec).toInt = (x : Int) := o3_int hx
  rw [e1, Int.shiftRight_eq_div_pow]
  rfl
theorem enc_and {q : Nat × Nat} (h : okSt q) : enc q &&& (31 : Int32) = o3 q.1 := by
  have := o3_and (x := q.2 * 32 + q.1) (p := 5) (by have := h.1; have := h.2.1; omega) (by omega)
  have e : (q.2 * 32 + q.1) % 2 ^ 5 = q.1 := by have := h.1; omega
  rw [e] at this
  exact this
theorem enc_shr {q : Nat × Nat} (h : okSt q) : enc q >>> ((5 : Int32) &&& 31) = o3 q.2 := by
  have := o3_shr (x := q.2 * 32 + q.1) (b := (5 : Int32) &&& 31) (p := 5) (by have := h.1; have := h.2.1; omega) (by decide) (by omega)
  have e : (q.2 * 32 + q.1) / 2 ^ 5 = q.2 := by have := h.1; omega
  rw [e] at this
  exact this
theorem mp_lt {s : Nat} : mp s < 16 := by
  unfold mp
  split <;> omega
theorem sgM_and {q : Nat × Nat} (h : okSt q) : sgM q &&& (15 : Int32) = o3 (mp q.1) := by
  have hm := mp_lt (s := q.1)
  have := o3_and (x := mp q.1 + 16 * q.2) (p := 4) (by have := h.2.1; omega) (by omega)
  have e : (mp q.1 + 16 * q.2) % 2 ^ 4 = mp q.1 := by omega
  rw [e] at this
  exact this
theorem sgM_shr {q : Nat × Nat} (h : okSt q) : sgM q >>> ((4 : Int32) &&& 31) = o3 q.2 := by
  have hm := mp_lt (s := q.1)
  have := o3_shr (x := mp q.1 + 16 * q.2) (b := (4 : Int32) &&& 31) (p := 4) (by have := h.2.1; omega) (by decide) (by omega)
  have e : (mp q.1 + 16 * q.2) / 2 ^ 4 = q.2 := by omega
  rw [e] at this
  exact this
def jo (s : Nat) (a b : Int64) : Int64 :=
  if s = 7 then a + b else if s = 8 then a - b else if s = 9 then a * b
  else if s = 10 then (if b = 0 then 0 else a / b)
  else if s = 5 then (if a = 0 then 0 else if b = 0 then 0 else 1)
  else if s = 6 then (if a = 0 then (if b = 0 then 0 else 1) else 1)
  else if s = 11 then (if b ≤ a then 0 else 1)
  else if s = 12 then (if b < a then 0 else 1)
  else if s = 13 then (if a = b then 1 else 0)
  else if s = 14 then (if a < b then 0 else 1)
  else (if a ≤ b then 0 else 1)
def exS (W : Nat → Int64) (q : Nat × Nat) (st : List Int64) : List Int64 :=
  if q.1 = 2 then o6 q.2 :: st
  else if q.1 = 3 then W q.2 :: st
  else if q.1 = 4 then (match st with
    | x :: r => (if x = 0 then 1 else 0) :: r
    | [] => [])
  else (match st with
    | b :: a :: r => jo q.1 a b :: r
    | _ => [])
def exc (W : Nat → Int64) : List (Nat × Nat) → List Int64 → List Int64
  | [], st => st
  | q :: e, st => exc W e (exS W q st)
def tls : List Bool → List Int64 → Prop
  | [], [] => True
  | b :: τ, x :: st => (b = true → x = 0 ∨ x = 1) ∧ tls τ st
  | _, _ => False
theorem tls_len : ∀ (τ : List Bool) (st : List Int64), tls τ st → st.length = τ.length := by
  intro τ
  induction τ with
  | nil => intro st h; cases st with
    | nil => rfl
    | cons x st => exact absurd h id
  | cons b τ ih => intro st h; cases st with
    | nil => exact absurd h id
    | cons x st => show st.length + 1 = τ.length + 1; rw [ih st h.2]
theorem jo_b {s : Nat} {a b : Int64} (h : s = 5 ∨ s = 6 ∨ (11 ≤ s ∧ s ≤ 15)) : jo s a b = 0 ∨ jo s a b = 1 := by
  unfold jo
  rw [if_neg (by omega), if_neg (by omega), if_neg (by omega), if_neg (by omega)]
  by_cases h5 : s = 5
  · rw [if_pos h5]; split
    · exact Or.inl rfl
    · split
      · exact Or.inl rfl
      · exact Or.inr rfl
  rw [if_neg h5]
  by_cases h6 : s = 6
  · rw [if_pos h6]; split
    · split
      · exact Or.inl rfl
      · exact Or.inr rfl
    · exact Or.inr rfl
  rw [if_neg h6]
  split
  · split
    · exact Or.inl rfl
    · exact Or.inr rfl
  · split
    · split
      · exact Or.inl rfl
      · exact Or.inr rfl
    · split
      · split
        · exact Or.inr rfl
        · exact Or.inl rfl
      · split
        · split
          · exact Or.inl rfl
          · exact Or.inr rfl
        · split
          · exact Or.inl rfl
          · exact Or.inr rfl
/-- the shape of a typed step -/
theorem tyS_cs {q : Nat × Nat} {τ τ' : List Bool} (h : tyS q τ = some τ') : ((q.1 = 2 ∨ q.1 = 3) ∧ τ' = false :: τ) ∨ (q.1 = 4 ∧ ∃ r, τ = true :: r ∧ τ' = true :: r) ∨ ((q.1 = 5 ∨ q.1 = 6) ∧ ∃ r, τ = true :: true :: r ∧ τ' = true :: r) ∨ ((7 ≤ q.1 ∧ q.1 ≤ 10) ∧ ∃ r, τ = false :: false :: r ∧ τ' = false :: r) ∨ ((11 ≤ q.1 ∧ q.1 ≤ 15) ∧ ∃ r, τ = false :: false :: r ∧ τ' = true :: r) := by
  unfold tyS at h
  by_cases h1 : q.1 = 2 ∨ q.1 = 3
  · rw [if_pos h1] at h; exact Or.inl ⟨h1, (Option.some.inj h).symm⟩
  rw [if_neg h1] at h
  by_cases h2 : q.1 = 4
  · rw [if_pos h2] at h
    refine Or.inr (Or.inl ⟨h2, ?_⟩)
    split at h
    · exact ⟨_, rfl, (Option.some.inj h).symm⟩
    · exact nomatch h
  rw [if_neg h2] at h
  by_cases h3 : q.1 = 5 ∨ q.1 = 6
  · rw [if_pos h3] at h
    refine Or.inr (Or.inr (Or.inl ⟨h3, ?_⟩))
    split at h
    · exact ⟨_, rfl, (Option.some.inj h).symm⟩
    · exact nomatch h
  rw [if_neg h3] at h
  by_cases h4 : 7 ≤ q.1 ∧ q.1 ≤ 10
  · rw [if_pos h4] at h
    refine Or.inr (Or.inr (Or.inr (Or.inl ⟨h4, ?_⟩)))
    split at h
    · exact ⟨_, rfl, (Option.some.inj h).symm⟩
    · exact nomatch h
  rw [if_neg h4] at h
  by_cases h5 : 11 ≤ q.1 ∧ q.1 ≤ 15
  · rw [if_pos h5] at h
    refine Or.inr (Or.inr (Or.inr (Or.inr ⟨h5, ?_⟩)))
    split at h
    · exact ⟨_, rfl, (Option.some.inj h).symm⟩
    · exact nomatch h
  · rw [if_neg h5] at h; exact nomatch h
/-- the shape of a step over a stack of these kinds -/
theorem exS_cs {W : Nat → Int64} {q : Nat × Nat} {τ τ' : List Bool} {st : List Int64} (h : tyS q τ = some τ') (hs : tls τ st) : tls τ' (exS W q st) ∧ ((q.1 = 2 ∧ exS W q st = o6 q.2 :: st) ∨ (q.1 = 3 ∧ exS W q st = W q.2 :: st) ∨ (q.1 = 4 ∧ ∃ x r, st = x :: r ∧ (x = 0 ∨ x = 1) ∧ exS W q st = (if x = 0 then 1 else 0) :: r) ∨ ((5 ≤ q.1 ∧ q.1 ≤ 15) ∧ ∃ a b r, st = b :: a :: r ∧ (q.1 = 5 ∨ q.1 = 6 → (a = 0 ∨ a = 1) ∧ (b = 0 ∨ b = 1)) ∧ exS W q st = jo q.1 a b :: r)) := by
  unfold exS
  rcases tyS_cs h with ⟨h1, rfl⟩ | ⟨h1, r, rfl, rfl⟩ | ⟨h1, r, rfl, rfl⟩ | ⟨h1, r, rfl, rfl⟩ | ⟨h1, r, rfl, rfl⟩
  · by_cases h2 : q.1 = 2
    · rw [if_pos h2]; exact ⟨⟨(fun z => nomatch z), hs⟩, Or.inl ⟨h2, rfl⟩⟩
    · rw [if_neg h2, if_pos (by omega)]; exact ⟨⟨(fun z => nomatch z), hs⟩, Or.inr (Or.inl ⟨by omega, rfl⟩)⟩
  · rw [if_neg (by omega), if_neg (by omega), if_pos h1]
    match st, hs with
    | x :: st, hs =>
      refine ⟨⟨fun _ => ?_, hs.2⟩, Or.inr (Or.inr (Or.inl ⟨h1, x, st, rfl, hs.1 rfl, rfl⟩))⟩
      split
      · exact Or.inr rfl
      · exact Or.inl rfl
  · rw [if_neg (by omega), if_neg (by omega), if_neg (by omega)]
    match st, hs with
    | b :: a :: st, hs => exact ⟨⟨fun _ => jo_b (by omega), hs.2.2⟩, Or.inr (Or.inr (Or.inr ⟨by omega, a, b, st, rfl, fun _ => ⟨hs.2.1 rfl, hs.1 rfl⟩, rfl⟩))⟩
  · rw [if_neg (by omega), if_neg (by omega), if_neg (by omega)]
    match st, hs with
    | b :: a :: st, hs => exact ⟨⟨(fun z => nomatch z), hs.2.2⟩, Or.inr (Or.inr (Or.inr ⟨by omega, a, b, st, rfl, fun z => by omega, rfl⟩))⟩
  · rw [if_neg (by omega), if_neg (by omega), if_neg (by omega)]
    match st, hs with
    | b :: a :: st, hs => exact ⟨⟨fun _ => jo_b (by omega), hs.2.2⟩, Or.inr (Or.inr (Or.inr ⟨by omega, a, b, st, rfl, fun z => by omega, rfl⟩))⟩
theorem c_joined {s : Nat} (hs : 5 ≤ s ∧ s ≤ 15) {a b : Int64} {S : fS} : f_X4_joined (o3 s) a b S = some (jo s a b) := by
  have : s = 5 ∨ s = 6 ∨ s = 7 ∨ s = 8 ∨ s = 9 ∨ s = 10 ∨ s = 11 ∨ s = 12 ∨ s = 13 ∨ s = 14 ∨ s = 15 := by omega
  rcases this with rfl | rfl | rfl | rfl | rfl | rfl | rfl | rfl | rfl | rfl | rfl
  · show ((if a = 0 then some (0 : Int32) else if b = 0 then some 0 else some 1).bind fun q9 => if q9 = (0 : Int32) then some (0 : Int64) else some 1) = some (if a = 0 then 0 else if b = 0 then 0 else 1)
    split
    · rfl
    · split <;> rfl
  · show ((if a = 0 then (if b = 0 then some (0 : Int32) else some 1) else some 1).bind fun q9 => if q9 = (0 : Int32) then some (0 : Int64) else some 1) = some (if a = 0 then (if b = 0 then 0 else 1) else 1)
    split
    · split <;> rfl
    · rfl
  · rfl
  · rfl
  · rfl
  · show (if b = 0 then some (0 : Int64) else ((dL a b).bind fun a6 => some a6)) = some (if b = 0 then 0 else a / b)
    by_cases h : b = 0
    · rw [if_pos h, if_pos h]
    · rw [if_neg h, if_neg h]; unfold dL; rw [if_neg h]; rfl
  · show ((if b ≤ a then some (0 : Int32) else some 1).bind fun q9 => if q9 = (0 : Int32) then some (0 : Int64) else some 1) = some (if b ≤ a then 0 else 1)
    split <;> rfl
  · show ((if b < a then some (0 : Int32) else some 1).bind fun q9 => if q9 = (0 : Int32) then some (0 : Int64) else some 1) = some (if b < a then 0 else 1)
    split <;> rfl
  · show ((if a = b then some (1 : Int32) else some 0).bind fun q9 => if q9 = (0 : Int32) then some (0 : Int64) else some 1) = some (if a = b then 1 else 0)
    split <;> rfl
  · show ((if a < b then some (0 : Int32) else some 1).bind fun q9 => if q9 = (0 : Int32) then some (0 : Int64) else some 1) = some (if a < b then 0 else 1)
    split <;> rfl
  · show ((if a ≤ b then some (0 : Int32) else some 1).bind fun q9 => if q9 = (0 : Int32) then some (0 : Int64) else some 1) = some (if a ≤ b then 0 else 1)
    split <;> rfl
theorem m_one {s : Nat} (hs : 5 ≤ s ∧ s ≤ 15) {a b : Int64} {S : fS} (hb : s = 5 ∨ s = 6 → (a = 0 ∨ a = 1) ∧ (b = 0 ∨ b = 1)) : f_X11_one (o3 (mp s)) a b S = some (jo s a b) := by
  have : s = 5 ∨ s = 6 ∨ s = 7 ∨ s = 8 ∨ s = 9 ∨ s = 10 ∨ s = 11 ∨ s = 12 ∨ s = 13 ∨ s = 14 ∨ s = 15 := by omega
  rcases this with rfl | rfl | rfl | rfl | rfl | rfl | rfl | rfl | rfl | rfl | rfl
  · obtain ⟨h1, h2⟩ := hb (by omega)
    rcases h1 with rfl | rfl <;> rcases h2 with rfl | rfl <;> rfl
  · obtain ⟨h1, h2⟩ := hb (by omega)
    rcases h1 with rfl | rfl <;> rcases h2 with rfl | rfl <;> rfl
  · rfl
  · rfl
  · rfl
  · show (if b = 0 then some (0 : Int64) else ((dL a b).bind fun a6 => some a6)) = some (if b = 0 then 0 else a / b)
    by_cases h : b = 0
    · rw [if_pos h, if_pos h]
    · rw [if_neg h, if_neg h]; unfold dL; rw [if_neg h]; rfl
  · show (if b ≤ a then some (0 : Int64) else some 1) = some (if b ≤ a then 0 else 1)
    split <;> rfl
  · show (if b < a then some (0 : Int64) else some 1) = some (if b < a then 0 else 1)
    split <;> rfl
  · show (if a = b then some (1 : Int64) else some 0) = some (if a = b then 1 else 0)
    split <;> rfl
  · show (if a < b then some (0 : Int64) else some 1) = some (if a < b then 0 else 1)
    split <;> rfl
  · show (if a ≤ b then some (0 : Int64) else some 1) = some (if a ≤ b then 0 else 1)
    split <;> rfl
theorem gd_ar {α : Type} {c e : List α} {d : α} {k : Nat} : (c ++ e).getD (c.length + k) d = e.getD k d := by
  induction c with
  | nil => rw [List.nil_append, List.length_nil, Nat.zero_add]
  | cons a c ih =>
    rw [List.cons_append, List.length_cons, show c.length + 1 + k = (c.length + k) + 1 by omega]
    exact ih
end
