section
/-! a rule's text: what is held, and what is written; steps by the class's numbers:
2 number, 3 word, 4 not, 5 and, 6 or, 7 +, 8 -, 9 *, 10 /, 11 <, 12 <=, 13 =, 14 >=, 15 >, 16 [ -/
def bnd : Nat → Nat
  | 4 => 3
  | 5 => 2
  | 6 => 1
  | 7 => 5
  | 8 => 5
  | 9 => 6
  | 10 => 6
  | 11 => 4
  | 12 => 4
  | 13 => 4
  | 14 => 4
  | 15 => 4
  | _ => 0
theorem bnd_bd : ∀ s, s < 17 → mm_bd.getD s 0 = o3 (bnd s) := by decide
theorem gB_o {s : Nat} (h : s < 17) : gB (o3 s) = some (o3 (bnd s)) := by
  unfold gB
  rw [if_neg (ix_ok h (by omega)), o3_nat (by omega), bnd_bd s h]
def brk : List Nat → Nat
  | [] => 0
  | s :: H => brk H + (if s = 16 then 1 else 0)
def dep : List Nat → Nat
  | [] => 0
  | s :: H => dep H + (if s = 16 ∨ s = 4 then 1 else 0)
/-- what is written when all that binds at least so tight is settled; what stays held -/
def stO (b : Nat) : List Nat → List (Nat × Nat)
  | [] => []
  | s :: H => if b ≤ bnd s then (s, 0) :: stO b H else []
def stR (b : Nat) : List Nat → List Nat
  | [] => []
  | s :: H => if b ≤ bnd s then stR b H else s :: H
theorem stR_len {b : Nat} : ∀ H, (stO b H).length + (stR b H).length = H.length := by
  intro H
  induction H with
  | nil => rfl
  | cons s H ih =>
    unfold stO stR
    by_cases h : b ≤ bnd s
    · rw [if_pos h, if_pos h]
      show (stO b H).length + 1 + _ = H.length + 1
      omega
    · rw [if_neg h, if_neg h]
      show 0 + _ = _
      omega
theorem stR_mem {b : Nat} {x : Nat} : ∀ H, x ∈ stR b H → x ∈ H := by
  intro H
  induction H with
  | nil => intro h; exact h
  | cons s H ih =>
    intro h
    unfold stR at h
    by_cases hb : b ≤ bnd s
    · rw [if_pos hb] at h; exact List.mem_cons_of_mem _ (ih h)
    · rw [if_neg hb] at h; exact h
theorem stR_brk {b : Nat} (hb1 : 1 ≤ b) : ∀ H, brk (stR b H) = brk H := by
  intro H
  induction H with
  | nil => rfl
  | cons s H ih =>
    unfold stR
    by_cases h : b ≤ bnd s
    · rw [if_pos h, ih]
      have : s ≠ 16 := fun q => by rw [q] at h; have : bnd 16 = 0 := rfl; omega
      show _ = brk H + (if s = 16 then 1 else 0)
      rw [if_neg this]
      rfl
    · rw [if_neg h]
theorem stR_dep {b : Nat} : ∀ H, dep (stR b H) ≤ dep H := by
  intro H
  induction H with
  | nil => exact Nat.le_refl _
  | cons s H ih =>
    unfold stR
    by_cases h : b ≤ bnd s
    · rw [if_pos h]
      show _ ≤ dep H + _
      omega
    · rw [if_neg h]; exact Nat.le_refl _
theorem brk_dep : ∀ H, brk H ≤ dep H := by
  intro H
  induction H with
  | nil => exact Nat.le_refl _
  | cons s H ih =>
    show brk H + _ ≤ dep H + _
    by_cases h : s = 16
    · rw [if_pos h, if_pos (Or.inl h)]; omega
    · rw [if_neg h]
      split <;> omega
/-- a step and its number, as the class writes them -/
def enc (q : Nat × Nat) : Int32 := o3 (q.2 * 32 + q.1)
theorem enc_eq {v s : Nat} (hs : s < 32) (hv : v < 100000) : ((o3 v <<< ((5 : Int32) &&& 31)) ||| o3 s) = enc (s, v) := by
  have h5 : (5 : Int32) &&& 31 = 5 := by decide
  rw [h5]
  apply Int32.toBitVec_inj.mp
  rw [Int32.toBitVec_or, Int32.toBitVec_shiftLeft]
  apply BitVec.eq_of_toNat_eq
  have e1 : (o3 v).toBitVec = BitVec.ofNat 32 v := rfl
  have e2 : (o3 s).toBitVec = BitVec.ofNat 32 s := rfl
  have e3 : (enc (s, v)).toBitVec = BitVec.ofNat 32 (v * 32 + s) := rfl
  have e4 : (Int32.toBitVec 5).smod 32 = BitVec.ofNat 32 5 := by decide
  rw [e1, e2, e3, e4, BitVec.toNat_or, BitVec.shiftLeft_eq', BitVec.toNat_shiftLeft, BitVec.toNat_ofNat, BitVec.toNat_ofNat, BitVec.toNat_ofNat, BitVec.toNat_ofNat]
  rw [Nat.mod_eq_of_lt (show v < 2 ^ 32 by omega), Nat.mod_eq_of_lt (show s < 2 ^ 32 by omega), Nat.mod_eq_of_lt (show (5 : Nat) < 2 ^ 32 by decide), Nat.mod_eq_of_lt (show v * 32 + s < 2 ^ 32 by omega)]
  rw [Nat.mod_eq_of_lt (show v <<< 5 < 2 ^ 32 by rw [Nat.shiftLeft_eq]; omega), ← Nat.shiftLeft_add_eq_or_of_lt (by omega), Nat.shiftLeft_eq]
/-! the class's rule reader: made, written, held -/
def RC (S : fS) (m : Nat) (c : List (Nat × Nat)) (H : List Nat) : Prop := S.1 38 3 = o3 m ∧ S.1 38 4 = o3 H.length ∧ S.1 38 5 = o3 (brk H) ∧ S.1 38 6 = o3 (dep H) ∧ (∀ k, k < H.length → S.1 39 k = o3 (H.reverse.getD k 0)) ∧ S.1 40 2 = o3 c.length ∧ (∀ k, k < c.length → S.1 41 k = enc (c.getD k (0, 0)))
def wQ (a k : Nat) : Prop := (a = 38 ∧ 3 ≤ k ∧ k ≤ 6) ∨ a = 39 ∨ (a = 40 ∧ k = 2) ∨ a = 41
def eQ (S T : fS) : Prop := (∀ a k, ¬ wQ a k → T.1 a k = S.1 a k) ∧ T.2 = S.2
theorem eQ.rf {S : fS} : eQ S S := ⟨fun _ _ _ => rfl, rfl⟩
theorem eQ.tr {S T U : fS} (h : eQ S T) (g : eQ T U) : eQ S U := ⟨fun a k n => (g.1 a k n).trans (h.1 a k n), g.2.trans h.2⟩
theorem eQ_pI {S : fS} {a k : Nat} {x : Int32} (h : wQ a k) : eQ S (pI S a k x) := ⟨fun b j n => by
  rw [pI_get]
  by_cases q : b = a ∧ j = k
  · exact absurd (q.1 ▸ q.2 ▸ h) n
  · rw [if_neg q], rfl⟩
section CQ
variable {S : fS} {m : Nat} {c : List (Nat × Nat)} {H : List Nat} {i s f : Int32}
theorem cq_write {a v : Nat} (hR : RC S m c H) (hc : c.length < 400) (ha : a < 32) (hv : v < 100000) : ∃ S', f_X4_write 40 (o3 a) (o3 v) (tS S i s f) = some (tS S' i s f) ∧ RC S' m (c ++ [(a, v)]) H ∧ eQ S S' := by
  obtain ⟨r1, r2, r3, r4, r5, r6, r7⟩ := hR
  unfold f_X4_write
  rw [tS_ne (by omega), r6, if_neg (show ¬ (400 : Int32) ≤ o3 _ from fun q => by have := (o3_le (a := 400) (by omega) (by omega)).mp q; omega), enc_eq ha hv, sI_o (by omega) (by omega), bd_some, tS_pI (by omega), bd_some, tS_ne (by omega), pI_ne (by omega), r6, tS_pI (by omega), o3_s]
  refine ⟨_, rfl, ⟨?_, ?_, ?_, ?_, fun k hk => ?_, ?_, fun k hk => ?_⟩, (eQ_pI (by unfold wQ; omega)).tr (eQ_pI (by unfold wQ; omega))⟩
  · rw [pI_ne (by omega), pI_ne (by omega)]; exact r1
  · rw [pI_ne (by omega), pI_ne (by omega)]; exact r2
  · rw [pI_ne (by omega), pI_ne (by omega)]; exact r3
  · rw [pI_ne (by omega), pI_ne (by omega)]; exact r4
  · rw [pI_ne (by omega), pI_ne (by omega)]; exact r5 k hk
  · rw [pI_eq, ln_app]
  · rw [ln_app] at hk
    rw [pI_ne (by omega), gd_app]
    by_cases hq : k = c.length
    · rw [if_pos hq, hq]; exact pI_eq
    · rw [if_neg hq, pI_ne (by omega)]; exact r7 k (by omega)
end CQ
end
