/-! the world that a memory is: cells at z, z + 1, .. -/
def mm_obj (ad : Nat → Nat) (M : mm_M) (a ci : Nat) : List Value := (List.range (mm_nf ci)).map (fun k => mm_v ad .null (mm_fa M a k (mm_tk (mm_ft ci k))))
def mm_cell (ad : Nat → Nat) (dA : Nat → ClassId) (M : mm_M) (a : Nat) (kd : Nat × Nat) : va_E :=
  if kd.1 < 12 then .inr (kd.1, mm_obj ad M a kd.1)
  else .inl (dA kd.1, kd.2, if kd.1 = 101 then .inr (.inl (M.2.2.1 a)) else if kd.1 < 110 then .inl (M.2.1 a) else .inr (.inr (.inr (.inr (fun k => (M.2.2.2 a k).map ad)))))
def mm_w (z : Nat) (ad : Nat → Nat) (dA : Nat → ClassId) (M : mm_M) : va_W := (List.range M.1.length).map (fun a => (z + a, mm_cell ad dA M a (M.1.getD a (99, 0))))
def mm_tys (dA : Nat → ClassId) : List (ClassId × FieldType) := [(dA 100, .int), (dA 101, .long), (dA 102, .byte), (dA 103, .boolean), (dA 114, .object RX4), (dA 116, .object RX6)]
def mm_sl (M : mm_M) : Nat := (M.1.map (fun q => q.2)).sum
theorem mm_fanr (ad : Nat → Nat) (fz : Value) (M : mm_M) (a k t : Nat) : mm_v ad fz (mm_fa M a k t) = mm_v ad .null (mm_fa M a k t) := by
  match t with
  | 0 => rfl
  | 1 => rfl
  | t + 2 =>
    show mm_v ad fz (mm_rv (M.2.2.2 a k)) = mm_v ad .null (mm_rv (M.2.2.2 a k))
    cases M.2.2.2 a k <;> rfl
theorem mm_rvm (ad : Nat → Nat) (fz : Value) (r : Option Nat) : mm_v ad fz (mm_rv r) = va_rf (r.map ad) := by cases r <;> rfl
theorem mm_wg {z : Nat} {ad : Nat → Nat} {dA : Nat → ClassId} {M : mm_M} {a : Nat} (h : a < M.1.length) : (mm_w z ad dA M)[a]? = some (z + a, mm_cell ad dA M a (M.1.getD a (99, 0))) := by
  unfold mm_w
  rw [List.getElem?_map, List.getElem?_range h]
  rfl
theorem mm_wlen {z : Nat} {ad : Nat → Nat} {dA : Nat → ClassId} {M : mm_M} : (mm_w z ad dA M).length = M.1.length := by
  unfold mm_w
  rw [List.length_map, List.length_range]
theorem mm_wn {z : Nat} {ad : Nat → Nat} {dA : Nat → ClassId} {M : mm_M} {a : Nat} (h : M.1.length ≤ a) : (mm_w z ad dA M)[a]? = none := List.getElem?_eq_none (by rw [mm_wlen]; exact h)
theorem mm_tlt {M : mm_M} {a : Nat} (h : mm_tag M a ≠ 99) : a < M.1.length := by
  rcases Nat.lt_or_ge a M.1.length with q | q
  · exact q
  · refine absurd ?_ h
    unfold mm_tag
    rw [List.getD_eq_getElem?_getD, List.getElem?_eq_none q]
    rfl
theorem mm_wo {z : Nat} {ad : Nat → Nat} {dA : Nat → ClassId} {M : mm_M} {a ci : Nat} (h : mm_tag M a = ci) (hc : ci < 12) : (mm_w z ad dA M)[a]? = some (z + a, .inr (ci, mm_obj ad M a ci)) := by
  rw [mm_wg (mm_tlt (by omega))]
  unfold mm_cell
  unfold mm_tag at h
  rw [h, if_pos hc]
theorem mm_wi {z : Nat} {ad : Nat → Nat} {dA : Nat → ClassId} {M : mm_M} {a t : Nat} (h : mm_tag M a = t) (h1 : 100 ≤ t) (h2 : t < 110) (h3 : t ≠ 101) : (mm_w z ad dA M)[a]? = some (z + a, .inl (dA t, mm_len M a, .inl (M.2.1 a))) := by
  rw [mm_wg (mm_tlt (by omega))]
  unfold mm_cell
  unfold mm_tag at h
  rw [h, if_neg (by omega), if_neg h3, if_pos h2]
  rfl
theorem mm_wl {z : Nat} {ad : Nat → Nat} {dA : Nat → ClassId} {M : mm_M} {a : Nat} (h : mm_tag M a = 101) : (mm_w z ad dA M)[a]? = some (z + a, .inl (dA 101, mm_len M a, .inr (.inl (M.2.2.1 a)))) := by
  rw [mm_wg (mm_tlt (by omega))]
  unfold mm_cell
  unfold mm_tag at h
  rw [h, if_neg (by omega), if_pos rfl]
  rfl
theorem mm_wq {z : Nat} {ad : Nat → Nat} {dA : Nat → ClassId} {M : mm_M} {a t : Nat} (h : mm_tag M a = t) (h1 : 110 ≤ t) : (mm_w z ad dA M)[a]? = some (z + a, .inl (dA t, mm_len M a, .inr (.inr (.inr (.inr (fun k => (M.2.2.2 a k).map ad)))))) := by
  rw [mm_wg (mm_tlt (by omega))]
  unfold mm_cell
  unfold mm_tag at h
  rw [h, if_neg (by omega), if_neg (by omega), if_neg (by omega)]
  rfl
theorem mm_wD {z : Nat} {ad : Nat → Nat} {dA : Nat → ClassId} {M : mm_M} : va_D (fun q => z ≤ q) (mm_w z ad dA M) := by
  have key : ∀ (k : Nat) (q : Nat × va_E), (mm_w z ad dA M)[k]? = some q → q.1 = z + k := by
    intro k q hk
    rcases Nat.lt_or_ge k M.1.length with h | h
    · rw [mm_wg h] at hk
      rw [← Option.some.inj hk]
    · rw [mm_wn h] at hk
      exact mm_no hk
  refine ⟨fun i j p q hi hj hpq => ?_, fun k q hk => ?_⟩
  · have h1 := key i p hi
    have h2 := key j q hj
    omega
  · have h1 := key k q hk
    show z ≤ q.1
    omega
theorem mm_fa_eq {M M' : mm_M} {b k t : Nat} (h1 : M'.2.1 b = M.2.1 b) (h2 : M'.2.2.1 b = M.2.2.1 b) (h3 : M'.2.2.2 b = M.2.2.2 b) : mm_fa M' b k t = mm_fa M b k t := by
  unfold mm_fa
  rw [h1, h2, h3]
theorem mm_cell_eq {ad : Nat → Nat} {dA : Nat → ClassId} {M M' : mm_M} {b : Nat} (h1 : M'.2.1 b = M.2.1 b) (h2 : M'.2.2.1 b = M.2.2.1 b) (h3 : M'.2.2.2 b = M.2.2.2 b) (kd : Nat × Nat) : mm_cell ad dA M' b kd = mm_cell ad dA M b kd := by
  have ho : mm_obj ad M' b kd.1 = mm_obj ad M b kd.1 := by
    unfold mm_obj
    exact List.map_congr_left (fun k _ => by rw [mm_fa_eq h1 h2 h3])
  unfold mm_cell
  rw [ho, h1, h2, h3]
theorem mm_wset {z : Nat} {ad : Nat → Nat} {dA : Nat → ClassId} {M M' : mm_M} {a : Nat} {e : va_E} (hk : M'.1 = M.1) (ha : a < M.1.length) (he : mm_cell ad dA M' a (M.1.getD a (99, 0)) = e)
    (ho : ∀ b, b ≠ a → M'.2.1 b = M.2.1 b ∧ M'.2.2.1 b = M.2.2.1 b ∧ M'.2.2.2 b = M.2.2.2 b) : (mm_w z ad dA M).set a (z + a, e) = mm_w z ad dA M' := by
  apply List.ext_getElem?
  intro b
  by_cases hba : b = a
  · subst hba
    rw [List.getElem?_set_self (by rw [mm_wlen]; exact ha), mm_wg (by rw [hk]; exact ha), hk, he]
  · rw [List.getElem?_set_ne (Ne.symm hba)]
    rcases Nat.lt_or_ge b M.1.length with h | h
    · rw [mm_wg h, mm_wg (by rw [hk]; exact h), hk, mm_cell_eq (ho b hba).1 (ho b hba).2.1 (ho b hba).2.2]
    · rw [mm_wn h, mm_wn (by rw [hk]; exact h)]
theorem mm_up_o {α : Type} {f : Nat → Nat → α} {a k b : Nat} {x : α} (h : b ≠ a) : mm_up f a k x b = f b := if_neg h
theorem mm_up_s {α : Type} {f : Nat → Nat → α} {a k : Nat} {x : α} : mm_up f a k x a = (fun j => if j = k then x else f a j) := if_pos rfl
theorem mm_up_k {α : Type} {f : Nat → Nat → α} {a k : Nat} {x : α} : mm_up f a k x a k = x := by rw [mm_up_s]; exact if_pos rfl
theorem mm_up_j {α : Type} {f : Nat → Nat → α} {a k j : Nat} {x : α} (h : j ≠ k) : mm_up f a k x a j = f a j := by rw [mm_up_s]; exact if_neg h
theorem mm_row_o {α : Type} {f : Nat → Nat → α} {a b : Nat} {r : Nat → α} (h : b ≠ a) : mm_row f a r b = f b := if_neg h
theorem mm_row_s {α : Type} {f : Nat → Nat → α} {a : Nat} {r : Nat → α} : mm_row f a r a = r := if_pos rfl
/-- what a write of a field does -/
theorem mm_wr_inv {M M' : mm_M} {a k : Nat} {ty : FieldType} {v : Value} (h : mm_wr M a k ty v = some M') :
    M'.1 = M.1 ∧ (∀ b, b ≠ a → M'.2.1 b = M.2.1 b ∧ M'.2.2.1 b = M.2.2.1 b ∧ M'.2.2.2 b = M.2.2.2 b) ∧ mm_fa M' a k (mm_tk ty) = v ∧ (∀ j t, j ≠ k → mm_fa M' a j t = mm_fa M a j t) ∧ (∀ ad fz, narrow ty (mm_v ad fz v) = mm_v ad fz v ∧ fits ty (mm_v ad fz v) = true) := by
  cases v with
  | int x =>
    have h : (if ty = .int ∨ (ty = .boolean ∧ (x = 0 ∨ x = 1)) then some (M.1, mm_up M.2.1 a k x, M.2.2.1, M.2.2.2) else none) = some M' := h
    by_cases hc : ty = .int ∨ (ty = .boolean ∧ (x = 0 ∨ x = 1))
    · rw [if_pos hc] at h
      cases h
      refine ⟨rfl, fun b hb => ⟨mm_up_o hb, rfl, rfl⟩, ?_, fun j t hj => ?_, fun ad fz => ?_⟩
      · have ht : mm_tk ty = 0 := by rcases hc with rfl | ⟨rfl, -⟩ <;> rfl
        rw [ht]
        show Value.int (mm_up M.2.1 a k x a k) = .int x
        rw [mm_up_k]
      · match t with
        | 0 => show Value.int (mm_up M.2.1 a k x a j) = _; rw [mm_up_j hj]; rfl
        | 1 => rfl
        | t + 2 => rfl
      · rcases hc with rfl | ⟨rfl, rfl | rfl⟩
        · exact ⟨rfl, rfl⟩
        · exact ⟨rfl, rfl⟩
        · exact ⟨rfl, rfl⟩
    · rw [if_neg hc] at h; exact mm_no h
  | long x =>
    have h : (if ty = .long then some (M.1, M.2.1, mm_up M.2.2.1 a k x, M.2.2.2) else none) = some M' := h
    by_cases hc : ty = .long
    · rw [if_pos hc] at h
      cases h
      subst hc
      refine ⟨rfl, fun b hb => ⟨rfl, mm_up_o hb, rfl⟩, ?_, fun j t hj => ?_, fun ad fz => ⟨rfl, rfl⟩⟩
      · show Value.long (mm_up M.2.2.1 a k x a k) = .long x
        rw [mm_up_k]
      · match t with
        | 0 => rfl
        | 1 => show Value.long (mm_up M.2.2.1 a k x a j) = _; rw [mm_up_j hj]; rfl
        | t + 2 => rfl
    · rw [if_neg hc] at h; exact mm_no h
  | ref b =>
    have h : (if mm_tk ty = 2 then some (M.1, M.2.1, M.2.2.1, mm_up M.2.2.2 a k (some b)) else none) = some M' := h
    by_cases hc : mm_tk ty = 2
    · rw [if_pos hc] at h
      cases h
      refine ⟨rfl, fun b hb => ⟨rfl, rfl, mm_up_o hb⟩, ?_, fun j t hj => ?_, fun ad fz => ?_⟩
      · rw [hc]
        show mm_rv (mm_up M.2.2.2 a k (some b) a k) = .ref b
        rw [mm_up_k]
        rfl
      · match t with
        | 0 => rfl
        | 1 => rfl
        | t + 2 => show mm_rv (mm_up M.2.2.2 a k (some b) a j) = _; rw [mm_up_j hj]; rfl
      · cases ty <;> first | exact ⟨rfl, rfl⟩ | exact absurd hc (by decide)
    · rw [if_neg hc] at h; exact mm_no h
  | null =>
    have h : (if mm_tk ty = 2 then some (M.1, M.2.1, M.2.2.1, mm_up M.2.2.2 a k none) else none) = some M' := h
    by_cases hc : mm_tk ty = 2
    · rw [if_pos hc] at h
      cases h
      refine ⟨rfl, fun b hb => ⟨rfl, rfl, mm_up_o hb⟩, ?_, fun j t hj => ?_, fun ad fz => ?_⟩
      · rw [hc]
        show mm_rv (mm_up M.2.2.2 a k none a k) = .null
        rw [mm_up_k]
        rfl
      · match t with
        | 0 => rfl
        | 1 => rfl
        | t + 2 => show mm_rv (mm_up M.2.2.2 a k none a j) = _; rw [mm_up_j hj]; rfl
      · cases ty <;> first | exact ⟨rfl, rfl⟩ | exact absurd hc (by decide)
    · rw [if_neg hc] at h; exact mm_no h
  | _ => exact mm_no h
theorem mm_objg {ad : Nat → Nat} {M : mm_M} {a ci k : Nat} (hk : k < mm_nf ci) : (mm_obj ad M a ci)[k]? = some (mm_v ad .null (mm_fa M a k (mm_tk (mm_ft ci k)))) := by
  unfold mm_obj
  rw [List.getElem?_map, List.getElem?_range hk]
  rfl
theorem mm_objlen {ad : Nat → Nat} {M : mm_M} {a ci : Nat} : (mm_obj ad M a ci).length = mm_nf ci := by
  unfold mm_obj
  rw [List.length_map, List.length_range]
theorem mm_objset {ad : Nat → Nat} {fz : Value} {M M' : mm_M} {a ci k : Nat} {v : Value} (hk : k < mm_nf ci) (h1 : mm_fa M' a k (mm_tk (mm_ft ci k)) = v) (h2 : ∀ j t, j ≠ k → mm_fa M' a j t = mm_fa M a j t) : (mm_obj ad M a ci).set k (mm_v ad fz v) = mm_obj ad M' a ci := by
  apply List.ext_getElem?
  intro j
  by_cases hj : j = k
  · subst hj
    rw [List.getElem?_set_self (by rw [mm_objlen]; exact hk), mm_objg hk, ← h1, mm_fanr]
  · rw [List.getElem?_set_ne (Ne.symm hj)]
    rcases Nat.lt_or_ge j (mm_nf ci) with h | h
    · rw [mm_objg h, mm_objg h, h2 j _ hj]
    · rw [List.getElem?_eq_none (by rw [mm_objlen]; exact h), List.getElem?_eq_none (by rw [mm_objlen]; exact h)]
theorem mm_wpush {z : Nat} {ad : Nat → Nat} {dA : Nat → ClassId} {M : mm_M} {kd : Nat × Nat} : mm_w z ad dA (mm_nw M kd) = mm_w z ad dA M ++ [(z + M.1.length, mm_cell ad dA (mm_nw M kd) M.1.length kd)] := by
  have hl : (mm_nw M kd).1.length = M.1.length + 1 := by show (M.1 ++ [kd]).length = _; simp
  apply List.ext_getElem?
  intro b
  rcases Nat.lt_trichotomy b M.1.length with h | h | h
  · rw [mm_wg (by omega), List.getElem?_append_left (by rw [mm_wlen]; exact h), mm_wg h]
    have e1 : (mm_nw M kd).1.getD b (99, 0) = M.1.getD b (99, 0) := by
      show (M.1 ++ [kd]).getD b (99, 0) = _
      rw [List.getD_eq_getElem?_getD, List.getD_eq_getElem?_getD, List.getElem?_append_left h]
    rw [e1, mm_cell_eq (M := M) (mm_row_o (Nat.ne_of_lt h)) (mm_row_o (Nat.ne_of_lt h)) (mm_row_o (Nat.ne_of_lt h))]
  · subst h
    rw [mm_wg (by omega), List.getElem?_append_right (by rw [mm_wlen]; exact Nat.le_refl _), mm_wlen, Nat.sub_self]
    have e1 : (mm_nw M kd).1.getD M.1.length (99, 0) = kd := by
      show (M.1 ++ [kd]).getD M.1.length (99, 0) = _
      rw [List.getD_eq_getElem?_getD, List.getElem?_append_right (Nat.le_refl _), Nat.sub_self]
      rfl
    rw [e1]
    rfl
  · rw [mm_wn (by omega), List.getElem?_eq_none]
    rw [List.length_append, mm_wlen]
    show M.1.length + 1 ≤ b
    omega
theorem mm_nwlen (M : mm_M) (kd : Nat × Nat) : (mm_nw M kd).1.length = M.1.length + 1 := by
  show (M.1 ++ [kd]).length = _
  simp
theorem mm_nwsl (M : mm_M) (kd : Nat × Nat) : mm_sl (mm_nw M kd) = mm_sl M + kd.2 := by
  show ((M.1 ++ [kd]).map (fun q => q.2)).sum = _
  rw [List.map_append, List.sum_append]
  rfl
