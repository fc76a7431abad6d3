noncomputable section
/-! a rule's text: what is held, and what is written; steps by the class's numbers:
2 number, 3 word, 4 not, 5 and, 6 or, 7 +, 8 -, 9 *, 10 /, 11 <, 12 <=, 13 =, 14 >=, 15 >, 16 [ -/
def bnd : Nat → Nat
  | 4 => 3
  | 5 => 2
  | 6 => 1
  | 7 => 5
  | 8 => 5
  | 9 => 6
  | 10 => 6
  | 11 => 4
  | 12 => 4
  | 13 => 4
  | 14 => 4
  | 15 => 4
  | _ => 0
theorem bnd_bd : ∀ s, s < 17 → mm_bd.getD s 0 = o3 (bnd s) := by decide
theorem gB_o {s : Nat} (h : s < 17) : gB (o3 s) = some (o3 (bnd s)) := by
  unfold gB
  rw [if_neg (ix_ok h (by omega)), o3_nat (by omega), bnd_bd s h]
def brk : List Nat → Nat
  | [] => 0
  | s :: H => brk H + (if s = 16 then 1 else 0)
def dep : List Nat → Nat
  | [] => 0
  | s :: H => dep H + (if s = 16 ∨ s = 4 then 1 else 0)
/-- what is written when all that binds at least so tight is settled; what stays held -/
def stO (b : Nat) : List Nat → List (Nat × Nat)
  | [] => []
  | s :: H => if b ≤ bnd s then (s, 0) :: stO b H else []
def stR (b : Nat) : List Nat → List Nat
  | [] => []
  | s :: H => if b ≤ bnd s then stR b H else s :: H
theorem stR_len {b : Nat} : ∀ H, (stO b H).length + (stR b H).length = H.length := by
  intro H
  induction H with
  | nil => rfl
  | cons s H ih =>
    unfold stO stR
    by_cases h : b ≤ bnd s
    · rw [if_pos h, if_pos h]
      show (stO b H).length + 1 + _ = H.length + 1
      omega
    · rw [if_neg h, if_neg h]
      show 0 + _ = _
      omega
theorem stR_mem {b : Nat} {x : Nat} : ∀ H, x ∈ stR b H → x ∈ H := by
  intro H
  induction H with
  | nil => intro h; exact h
  | cons s H ih =>
    intro h
    unfold stR at h
    by_cases hb : b ≤ bnd s
    · rw [if_pos hb] at h; exact List.mem_cons_of_mem _ (ih h)
    · rw [if_neg hb] at h; exact h
theorem stR_brk {b : Nat} (hb1 : 1 ≤ b) : ∀ H, brk (stR b H) = brk H := by
  intro H
  induction H with
  | nil => rfl
  | cons s H ih =>
    unfold stR
    by_cases h : b ≤ bnd s
    · rw [if_pos h, ih]
      have : s ≠ 16 := fun q => by rw [q] at h; have : bnd 16 = 0 := rfl; omega
      show _ = brk H + (if s = 16 then 1 else 0)
      rw [if_neg this]
      rfl
    · rw [if_neg h]
theorem stR_dep {b : Nat} : ∀ H, dep (stR b H) ≤ dep H := by
  intro H
  induction H with
  | nil => exact Nat.le_refl _
  | cons s H ih =>
    unfold stR
    by_cases h : b ≤ bnd s
    · rw [if_pos h]
      show _ ≤ dep H + _
      omega
    · rw [if_neg h]; exact Nat.le_refl _
theorem brk_dep : ∀ H, brk H ≤ dep H := by
  intro H
  induction H with
  | nil => exact Nat.le_refl _
  | cons s H ih =>
    show brk H + _ ≤ dep H + _
    by_cases h : s = 16
    · rw [if_pos h, if_pos (Or.inl h)]; omega
    · rw [if_neg h]
      split <;> omega
/-- a step and its number, as the class writes them -/
def enc (q : Nat × Nat) : Int32 := o3 (q.2 * 32 + q.1)
theorem enc_eq {v s : Nat} (hs : s < 32) (hv : v < 100000) : ((o3 v <<< ((5 : Int32) &&& 31)) ||| o3 s) = enc (s, v) := by
  have h5 : (5 : Int32) &&& 31 = 5 := by decide
  rw [h5]
  apply Int32.toBitVec_inj.mp
  rw [Int32.toBitVec_or, Int32.toBitVec_shiftLeft]
  apply BitVec.eq_of_toNat_eq
  have e1 : (o3 v).toBitVec = BitVec.ofNat 32 v := rfl
  have e2 : (o3 s).toBitVec = BitVec.ofNat 32 s := rfl
  have e3 : (enc (s, v)).toBitVec = BitVec.ofNat 32 (v * 32 + s) := rfl
  have e4 : (Int32.toBitVec 5).smod 32 = BitVec.ofNat 32 5 := by decide
  rw [e1, e2, e3, e4, BitVec.toNat_or, BitVec.shiftLeft_eq', BitVec.toNat_shiftLeft, BitVec.toNat_ofNat, BitVec.toNat_ofNat, BitVec.toNat_ofNat, BitVec.toNat_ofNat]
  rw [Nat.mod_eq_of_lt (show v < 2 ^ 32 by omega), Nat.mod_eq_of_lt (show s < 2 ^ 32 by omega), Nat.mod_eq_of_lt (show (5 : Nat) < 2 ^ 32 by decide), Nat.mod_eq_of_lt (show v * 32 + s < 2 ^ 32 by omega)]
  rw [Nat.mod_eq_of_lt (show v <<< 5 < 2 ^ 32 by rw [Nat.shiftLeft_eq]; omega), ← Nat.shiftLeft_add_eq_or_of_lt (by omega), Nat.shiftLeft_eq]
/-! the class's rule reader: made, written, held -/
def RC (S : fS) (m : Nat) (c : List (Nat × Nat)) (H : List Nat) : Prop := S.1 38 3 = o3 m ∧ S.1 38 4 = o3 H.length ∧ S.1 38 5 = o3 (brk H) ∧ S.1 38 6 = o3 (dep H) ∧ (∀ k, k < H.length → S.1 39 k = o3 (H.reverse.getD k 0)) ∧ S.1 40 2 = o3 c.length ∧ (∀ k, k < c.length → S.1 41 k = enc (c.getD k (0, 0)))
def wQ (a k : Nat) : Prop := (a = 38 ∧ 3 ≤ k ∧ k ≤ 6) ∨ a = 39 ∨ (a = 40 ∧ k = 2) ∨ a = 41
def eQ (S T : fS) : Prop := (∀ a k, ¬ wQ a k → T.1 a k = S.1 a k) ∧ T.2 = S.2
theorem eQ.rf {S : fS} : eQ S S := ⟨fun _ _ _ => rfl, rfl⟩
theorem eQ.tr {S T U : fS} (h : eQ S T) (g : eQ T U) : eQ S U := ⟨fun a k n => (g.1 a k n).trans (h.1 a k n), g.2.trans h.2⟩
theorem eQ_pI {S : fS} {a k : Nat} {x : Int32} (h : wQ a k) : eQ S (pI S a k x) := ⟨fun b j n => by
  rw [pI_get]
  by_cases q : b = a ∧ j = k
  · exact absurd (q.1 ▸ q.2 ▸ h) n
  · rw [if_neg q], rfl⟩
section CQ
variable {S : fS} {m : Nat} {c : List (Nat × Nat)} {H : List Nat} {i s f : Int32}
theorem cq_write {a v : Nat} (hR : RC S m c H) (hc : c.length < 400) (ha : a < 32) (hv : v < 100000) : ∃ S', f_X4_write 40 (o3 a) (o3 v) (tS S i s f) = some (tS S' i s f) ∧ RC S' m (c ++ [(a, v)]) H ∧ eQ S S' := by
  obtain ⟨r1, r2, r3, r4, r5, r6, r7⟩ := hR
  unfold f_X4_write
  rw [tS_ne (by omega), r6, if_neg (show ¬ (400 : Int32) ≤ o3 _ from fun q => by have := (o3_le (a := 400) (by omega) (by omega)).mp q; omega), enc_eq ha hv, sI_o (by omega) (by omega), bd_some, tS_pI (by omega), bd_some, tS_ne (by omega), pI_ne (by omega), r6, tS_pI (by omega), o3_s]
  refine ⟨_, rfl, ⟨?_, ?_, ?_, ?_, fun k hk => ?_, ?_, fun k hk => ?_⟩, (eQ_pI (by unfold wQ; omega)).tr (eQ_pI (by unfold wQ; omega))⟩
  · rw [pI_ne (by omega), pI_ne (by omega)]; exact r1
  · rw [pI_ne (by omega), pI_ne (by omega)]; exact r2
  · rw [pI_ne (by omega), pI_ne (by omega)]; exact r3
  · rw [pI_ne (by omega), pI_ne (by omega)]; exact r4
  · rw [pI_ne (by omega), pI_ne (by omega)]; exact r5 k hk
  · rw [pI_eq, ln_app]
  · rw [ln_app] at hk
    rw [pI_ne (by omega), gd_app]
    by_cases hq : k = c.length
    · rw [if_pos hq, hq]; exact pI_eq
    · rw [if_neg hq, pI_ne (by omega)]; exact r7 k (by omega)
end CQ
end
noncomputable section
section CQ
variable {S : fS} {m : Nat} {c : List (Nat × Nat)} {H : List Nat} {i s f : Int32}
theorem cq_hold {a : Nat} (h1 : S.1 38 3 = o3 m) (h2 : S.1 38 4 = o3 H.length) (h3 : S.1 38 5 = o3 (brk (a :: H))) (h4 : S.1 38 6 = o3 (dep (a :: H))) (h5 : ∀ k, k < H.length → S.1 39 k = o3 (H.reverse.getD k 0)) (h6 : S.1 40 2 = o3 c.length) (h7 : ∀ k, k < c.length → S.1 41 k = enc (c.getD k (0, 0))) (hl : H.length < 64) : ∃ S', f_X5_hold (o3 a) (tS S i s f) = some (tS S' i s f) ∧ RC S' m c (a :: H) ∧ eQ S S' := by
  unfold f_X5_hold
  rw [tS_ne (by omega), h2, if_neg (o3_nn (by omega)), if_neg (show ¬ (64 : Int32) ≤ o3 _ from fun q => by have := (o3_le (a := 64) (by omega) (by omega)).mp q; omega), sI_o (by omega) (by omega), bd_some, tS_pI (by omega), bd_some, tS_ne (by omega), pI_ne (by omega), h2, tS_pI (by omega), o3_s]
  refine ⟨_, rfl, ⟨?_, ?_, ?_, ?_, fun k hk => ?_, ?_, fun k hk => ?_⟩, (eQ_pI (by unfold wQ; omega)).tr (eQ_pI (by unfold wQ; omega))⟩
  · rw [pI_ne (by omega), pI_ne (by omega)]; exact h1
  · rw [pI_eq]; rfl
  · rw [pI_ne (by omega), pI_ne (by omega)]; exact h3
  · rw [pI_ne (by omega), pI_ne (by omega)]; exact h4
  · have hk : k < H.length + 1 := hk
    rw [pI_ne (by omega), List.reverse_cons, gd_app, List.length_reverse]
    by_cases hq : k = H.length
    · rw [if_pos hq, hq]; exact pI_eq
    · rw [if_neg hq, pI_ne (by omega)]; exact h5 k (by omega)
  · rw [pI_ne (by omega), pI_ne (by omega)]; exact h6
  · rw [pI_ne (by omega), pI_ne (by omega)]; exact h7 k hk
/-- a sign that joins -/
theorem cq_join {a : Nat} (hR : RC S m c H) (ha : a ≠ 4 ∧ a ≠ 16) (hl : H.length < 64) : ∃ S', f_X5_hold (o3 a) (tS S i s f) = some (tS S' i s f) ∧ RC S' m c (a :: H) ∧ eQ S S' := by
  obtain ⟨r1, r2, r3, r4, r5, r6, r7⟩ := hR
  refine cq_hold r1 r2 ?_ ?_ r5 r6 r7 hl
  · rw [r3]
    show _ = o3 (brk H + (if a = 16 then 1 else 0))
    rw [if_neg ha.2]
    rfl
  · rw [r4]
    show _ = o3 (dep H + (if a = 16 ∨ a = 4 then 1 else 0))
    rw [if_neg (by omega)]
    rfl
theorem rv_last {a : Nat} : (a :: H).reverse.getD H.length 0 = a := by
  rw [List.reverse_cons, gd_app, List.length_reverse, if_pos rfl]
theorem rv_init {a k : Nat} (h : k < H.length) : (a :: H).reverse.getD k 0 = H.reverse.getD k 0 := by
  rw [List.reverse_cons, gd_app, List.length_reverse, if_neg (by omega)]
theorem cq_settlelp {K : fS → Option fS} {b : Nat} (hb : 1 ≤ b) (hb7 : b < 10) : ∀ (H : List Nat) (c : List (Nat × Nat)) (n : Nat) (S : fS), RC S m c H → (∀ x ∈ H, x < 17) → H.length ≤ 64 → dep H ≤ 400 → c.length + H.length ≤ 400 → H.length < n → ∃ S', lp_X5_settle_0 (o3 b) K n (tS S i s f) = K (tS S' i s f) ∧ RC S' m (c ++ stO b H) (stR b H) ∧ eQ S S' := by
  intro H
  induction H with
  | nil =>
    intro c n S hR _ _ _ _ hn
    obtain ⟨n, rfl⟩ : ∃ n', n = n' + 1 := ⟨n - 1, by have : 0 < n := hn; omega⟩
    rw [lp_X5_settle_0.eq_2, tS_ne (by omega), hR.2.1, if_pos (by decide)]
    refine ⟨S, rfl, ?_, eQ.rf⟩
    show RC S m (c ++ []) []
    rw [List.append_nil]; exact hR
  | cons x H ih =>
    intro c n S hR hx hl hd hcl hn
    have hl : H.length + 1 ≤ 64 := hl
    have hcl : c.length + (H.length + 1) ≤ 400 := hcl
    have hn : H.length + 1 < n := hn
    obtain ⟨n, rfl⟩ : ∃ n', n = n' + 1 := ⟨n - 1, by omega⟩
    have hx0 := hx x List.mem_cons_self
    have hR0 := hR
    obtain ⟨r1, r2, r3, r4, r5, r6, r7⟩ := hR
    have r2 : S.1 38 4 = o3 (H.length + 1) := r2
    have hlast : S.1 39 H.length = o3 x := by rw [r5 H.length (Nat.lt_succ_self _), rv_last]
    rw [lp_X5_settle_0.eq_2, tS_ne (by omega), r2, if_neg (show ¬ o3 _ ≤ (0 : Int32) from fun q => by have := (o3_le (b := 0) (by omega) (by omega)).mp q; omega), show (1 : Int32) = o3 1 from rfl, o3_sub (by omega), show H.length + 1 - 1 = H.length by omega, gI_o (by omega) (by omega), bd_some, tS_ne (by omega), hlast, gB_o hx0, bd_some]
    have hb6 : bnd x < 10 := (show ∀ x, x < 17 → bnd x < 10 by decide) x hx0
    by_cases hle : b ≤ bnd x
    · rw [if_neg (fun q => by have := (o3_lt (by omega) (by omega)).mp q; omega), bd_some, tS_pI (by omega), tS_ne (by omega), pI_eq, gI_o (by omega) (by omega), bd_some, tS_ne (by omega), pI_ne (by omega), hlast]
      have hR1 : RC (pI S 38 4 (o3 H.length)) m c (x :: H) ∨ True := Or.inr trivial
      -- write the step
      have hw : ∃ S1, f_X4_write 40 (o3 x) (0 : Int32) (tS (pI S 38 4 (o3 H.length)) i s f) = some (tS S1 i s f) ∧ (∀ k, k < (c ++ [(x, 0)]).length → S1.1 41 k = enc ((c ++ [(x, 0)]).getD k (0, 0))) ∧ S1.1 40 2 = o3 (c ++ [(x, 0)]).length ∧ (∀ k, S1.1 38 k = (pI S 38 4 (o3 H.length)).1 38 k) ∧ (∀ k, S1.1 39 k = S.1 39 k) ∧ eQ S S1 := by
        unfold f_X4_write
        rw [tS_ne (by omega), pI_ne (by omega), r6, if_neg (show ¬ (400 : Int32) ≤ o3 _ from fun q => by have := (o3_le (a := 400) (by omega) (by omega)).mp q; omega), show (0 : Int32) = o3 0 from rfl, enc_eq (by omega) (by omega), sI_o (by omega) (by omega), bd_some, tS_pI (by omega), bd_some, tS_ne (by omega), pI_ne (by omega), pI_ne (by omega), r6, tS_pI (by omega), o3_s]
        refine ⟨_, rfl, fun k hk => ?_, ?_, fun k => ?_, fun k => ?_, ((eQ_pI (by unfold wQ; omega)).tr (eQ_pI (by unfold wQ; omega))).tr (eQ_pI (by unfold wQ; omega))⟩
        · rw [ln_app] at hk
          rw [pI_ne (by omega), gd_app]
          by_cases hq : k = c.length
          · rw [if_pos hq, hq]; exact pI_eq
          · rw [if_neg hq, pI_ne (by omega), pI_ne (by omega)]; exact r7 k (by omega)
        · rw [pI_eq, ln_app]
        · rw [pI_ne (by omega), pI_ne (by omega)]
        · rw [pI_ne (by omega), pI_ne (by omega), pI_ne (by omega)]
      obtain ⟨S1, w1, w2, w3, w4, w5, w6⟩ := hw
      rw [w1, bd_some, tS_ne (by omega), w4 4, pI_eq, gI_o (by omega) (by omega), bd_some, tS_ne (by omega), w5, hlast]
      have hx16 : x ≠ 16 := fun q => by rw [q] at hle; have : bnd 16 = 0 := rfl; omega
      have hbrk : brk (x :: H) = brk H := by show brk H + (if x = 16 then 1 else 0) = _; rw [if_neg hx16]; rfl
      have go : ∀ S2 : fS, (∀ a k, ¬ (a = 38 ∧ k = 6) → S2.1 a k = S1.1 a k) → S2.2 = S1.2 → S2.1 38 6 = o3 (dep H) → ∃ S', lp_X5_settle_0 (o3 b) K n (tS S2 i s f) = K (tS S' i s f) ∧ RC S' m (c ++ stO b (x :: H)) (stR b (x :: H)) ∧ eQ S S' := by
        intro S2 g1 g2 g3
        have hRn : RC S2 m (c ++ [(x, 0)]) H := by
          refine ⟨?_, ?_, ?_, g3, fun k hk => ?_, ?_, fun k hk => ?_⟩
          · rw [g1 38 3 (by omega), w4, pI_ne (by omega)]; exact r1
          · rw [g1 38 4 (by omega), w4, pI_eq]
          · rw [g1 38 5 (by omega), w4, pI_ne (by omega), r3, hbrk]
          · rw [g1 39 k (by omega), w5, r5 k (Nat.lt_succ_of_lt hk), rv_init hk]
          · rw [g1 40 2 (by omega)]; exact w3
          · rw [g1 41 k (by omega)]; exact w2 k hk
        have hdep : dep H ≤ dep (x :: H) := Nat.le_add_right _ _
        obtain ⟨S3, k1, k2, k3⟩ := ih (c ++ [(x, 0)]) n S2 hRn (fun y hy => hx y (List.mem_cons_of_mem _ hy)) (by omega) (by omega) (by rw [ln_app]; omega) (by omega)
        refine ⟨S3, k1, ?_, (w6.tr ⟨fun a k hn => g1 a k (fun q => hn (by unfold wQ; omega)), g2⟩).tr k3⟩
        have e1 : stO b (x :: H) = (x, 0) :: stO b H := if_pos hle
        have e2 : stR b (x :: H) = stR b H := if_pos hle
        rw [e1, e2]
        rw [List.append_assoc] at k2
        exact k2
      by_cases h4 : x = 4
      · rw [if_pos (show o3 x = (4 : Int32) from (o3_inj (b := 4) (by omega) (by omega)).mpr h4), bd_some, tS_ne (by omega), w4 6, pI_ne (by omega), r4, tS_pI (by omega)]
        have hd4 : dep (x :: H) = dep H + 1 := by show dep H + (if x = 16 ∨ x = 4 then 1 else 0) = _; rw [if_pos (Or.inr h4)]
        rw [hd4, o3_sub (by omega), show dep H + 1 - 1 = dep H by omega]
        exact go _ (fun a k h => pI_ne (by omega)) rfl pI_eq
      · rw [if_neg (show ¬ o3 x = (4 : Int32) from fun q => h4 ((o3_inj (b := 4) (by omega) (by omega)).mp q)), bd_some, tS_ne (by omega), w4 6, pI_ne (by omega), r4, tS_pI (by omega)]
        have hd4 : dep (x :: H) = dep H := by show dep H + (if x = 16 ∨ x = 4 then 1 else 0) = _; rw [if_neg (by omega)]; rfl
        rw [hd4, Int32.sub_zero]
        exact go _ (fun a k h => pI_ne (by omega)) rfl pI_eq
    · rw [if_pos ((o3_lt (by omega) (by omega)).mpr (by omega))]
      refine ⟨S, rfl, ?_, eQ.rf⟩
      have e1 : stO b (x :: H) = [] := if_neg hle
      have e2 : stR b (x :: H) = x :: H := if_neg hle
      rw [e1, e2, List.append_nil]
      exact hR0
theorem cq_settle {b : Nat} (hb : 1 ≤ b) (hb7 : b < 10) (hR : RC S m c H) (hx : ∀ x ∈ H, x < 17) (hl : H.length ≤ 64) (hd : dep H ≤ 400) (hcl : c.length + H.length ≤ 400) : ∃ S', f_X5_settle (o3 b) (tS S i s f) = some (tS S' i s f) ∧ RC S' m (c ++ stO b H) (stR b H) ∧ eQ S S' := by
  unfold f_X5_settle
  obtain ⟨S', h1, h2⟩ := cq_settlelp (K := fun S28 => some S28) (i := i) (s := s) (f := f) hb hb7 H c FU S hR hx hl hd hcl (FU_lt (by omega))
  exact ⟨S', h1, h2⟩
end CQ
end
noncomputable section
/-! openings, values -/
def nmI (t : Nat → Int32) (n j : Nat) : Nat := if wat t n (mm_sb.getD 6 []) j = true then 0 else if wat t n (mm_sb.getD 7 []) j = true then 1 else if wat t n (mm_sb.getD 8 []) j = true then 2 else if wat t n (mm_sb.getD 9 []) j = true then 3 else if wat t n (mm_sb.getD 10 []) j = true then 4 else if wat t n (mm_sb.getD 11 []) j = true then 5 else if wat t n (mm_sb.getD 12 []) j = true then 6 else if wat t n (mm_sb.getD 13 []) j = true then 7 else 8
def nmL (k : Nat) : Nat := (mm_sb.getD (6 + k) []).length
def vlF (t : Nat → Int32) (n m j : Nat) : Nat := if 0 < dl t n j then (if nmf t n j 0 99999 = 0 then (if 60 ≤ m then 1 + 8 * j + 3 else 0) else nmf t n j 0 99999) else if nmI t n j < 8 then (if 60 ≤ m then 1 + 8 * j + 3 else 0) else 1 + 8 * j
def vlP (t : Nat → Int32) (n j : Nat) : Nat := if 0 < dl t n j then nmp t n j else j + nmL (nmI t n j)
def vlC (t : Nat → Int32) (n j : Nat) : Nat × Nat := if 0 < dl t n j then (2, nmv t n j) else (3, nmI t n j)
def opn (t : Nat → Int32) (n : Nat) : Nat → Nat → List Nat → Nat × Nat × List Nat
  | 0, i, H => (1, i, H)
  | f + 1, i, H => if wat t n (mm_sb.getD 5 []) (sk t n i) = true then (if 10 ≤ dep H then (1 + 8 * sk t n i + 2, sk t n i, H) else opn t n f (sk t n i + 3) (4 :: H)) else if sk t n i < n ∧ t (sk t n i) = 91 then (if 10 ≤ dep H then (1 + 8 * sk t n i + 2, sk t n i, H) else opn t n f (sk t n i + 1) (16 :: H)) else (0, sk t n i, H)
theorem nmI_wat {t : Nat → Int32} {n j : Nat} (h : nmI t n j < 8) : wat t n (mm_sb.getD (6 + nmI t n j) []) j = true := by
  unfold nmI at h ⊢
  by_cases h0 : wat t n (mm_sb.getD 6 []) j = true
  · rw [if_pos h0]; exact h0
  · rw [if_neg h0] at h ⊢
    by_cases h1 : wat t n (mm_sb.getD 7 []) j = true
    · rw [if_pos h1]; exact h1
    · rw [if_neg h1] at h ⊢
      by_cases h2 : wat t n (mm_sb.getD 8 []) j = true
      · rw [if_pos h2]; exact h2
      · rw [if_neg h2] at h ⊢
        by_cases h3 : wat t n (mm_sb.getD 9 []) j = true
        · rw [if_pos h3]; exact h3
        · rw [if_neg h3] at h ⊢
          by_cases h4 : wat t n (mm_sb.getD 10 []) j = true
          · rw [if_pos h4]; exact h4
          · rw [if_neg h4] at h ⊢
            by_cases h5 : wat t n (mm_sb.getD 11 []) j = true
            · rw [if_pos h5]; exact h5
            · rw [if_neg h5] at h ⊢
              by_cases h6 : wat t n (mm_sb.getD 12 []) j = true
              · rw [if_pos h6]; exact h6
              · rw [if_neg h6] at h ⊢
                by_cases h7 : wat t n (mm_sb.getD 13 []) j = true
                · rw [if_pos h7]; exact h7
                · rw [if_neg h7] at h; omega
section CV
variable {S : fS} {m n : Nat} {c : List (Nat × Nat)} {H : List Nat} {s f : Int32}
theorem cv_name (hn : S.1 1 1 = o3 n) (hl : n ≤ 400) {j : Nat} (hj : j ≤ n) (hs : sk (S.1 2) n j = j) : f_X5_takeName (tS S (o3 j) s f) = some (if nmI (S.1 2) n j < 8 then (o3 (nmI (S.1 2) n j), tS S (o3 (j + nmL (nmI (S.1 2) n j))) (o3 j) f) else (-1, tS S (o3 j) s f)) := by
  unfold f_X5_takeName nmI
  rw [ct_word hn hl (w := 6) (by decide) hj, bd_some, hs]
  by_cases h0 : wat (S.1 2) n (mm_sb.getD 6 []) j = true
  · simp only [if_pos h0]; rw [if_neg (by decide), if_pos (by omega)]; rfl
  simp only [if_neg h0]
  rw [if_pos trivial, ct_word hn hl (w := 7) (by decide) hj, bd_some, hs]
  by_cases h1 : wat (S.1 2) n (mm_sb.getD 7 []) j = true
  · simp only [if_pos h1]; rw [if_neg (by decide), if_pos (by omega)]; rfl
  simp only [if_neg h1]
  rw [if_pos trivial, ct_word hn hl (w := 8) (by decide) hj, bd_some, hs]
  by_cases h2 : wat (S.1 2) n (mm_sb.getD 8 []) j = true
  · simp only [if_pos h2]; rw [if_neg (by decide), if_pos (by omega)]; rfl
  simp only [if_neg h2]
  rw [if_pos trivial, ct_word hn hl (w := 9) (by decide) hj, bd_some, hs]
  by_cases h3 : wat (S.1 2) n (mm_sb.getD 9 []) j = true
  · simp only [if_pos h3]; rw [if_neg (by decide), if_pos (by omega)]; rfl
  simp only [if_neg h3]
  rw [if_pos trivial, ct_word hn hl (w := 10) (by decide) hj, bd_some, hs]
  by_cases h4 : wat (S.1 2) n (mm_sb.getD 10 []) j = true
  · simp only [if_pos h4]; rw [if_neg (by decide), if_pos (by omega)]; rfl
  simp only [if_neg h4]
  rw [if_pos trivial, ct_word hn hl (w := 11) (by decide) hj, bd_some, hs]
  by_cases h5 : wat (S.1 2) n (mm_sb.getD 11 []) j = true
  · simp only [if_pos h5]; rw [if_neg (by decide), if_pos (by omega)]; rfl
  simp only [if_neg h5]
  rw [if_pos trivial, ct_word hn hl (w := 12) (by decide) hj, bd_some, hs]
  by_cases h6 : wat (S.1 2) n (mm_sb.getD 12 []) j = true
  · simp only [if_pos h6]; rw [if_neg (by decide), if_pos (by omega)]; rfl
  simp only [if_neg h6]
  rw [if_pos trivial, ct_word hn hl (w := 13) (by decide) hj, bd_some, hs]
  by_cases h7 : wat (S.1 2) n (mm_sb.getD 13 []) j = true
  · simp only [if_pos h7]; rw [if_neg (by decide), if_pos (by omega)]; rfl
  simp only [if_neg h7]
  rw [if_pos trivial, if_neg (by omega)]
theorem cv_room {i : Int32} {j : Nat} (h3 : S.1 38 3 = o3 m) (hm : m ≤ 60) : f_X5_isRoomForOne (tS S i (o3 j) f) = some (if 60 ≤ m then (0, tS S i (o3 j) (o3 (1 + 8 * j + 3))) else (1, tS (pI S 38 3 (o3 (m + 1))) i (o3 j) f)) := by
  unfold f_X5_isRoomForOne
  rw [tS_ne (by omega), h3]
  by_cases h : 60 ≤ m
  · rw [if_neg (show ¬ o3 _ < (60 : Int32) from fun q => by have := (o3_lt (b := 60) (by omega) (by omega)).mp q; omega), if_pos h, ct_fail, bd_some, tS_3, tS_fa, show (1 : Int32) = o3 1 from rfl, show (8 : Int32) = o3 8 from rfl, show (3 : Int32) = o3 3 from rfl, o3_mul, o3_add, o3_add]
    rfl
  · rw [if_pos (show o3 _ < (60 : Int32) from (o3_lt (b := 60) (by omega) (by omega)).mpr (by omega)), if_neg h, bd_some, tS_pI (by omega), o3_s]
theorem RC_3 {x : Nat} (hR : RC S m c H) : RC (pI S 38 3 (o3 x)) x c H := by
  obtain ⟨r1, r2, r3, r4, r5, r6, r7⟩ := hR
  refine ⟨pI_eq, ?_, ?_, ?_, fun k hk => ?_, ?_, fun k hk => ?_⟩
  · rw [pI_ne (by omega)]; exact r2
  · rw [pI_ne (by omega)]; exact r3
  · rw [pI_ne (by omega)]; exact r4
  · rw [pI_ne (by omega)]; exact r5 k hk
  · rw [pI_ne (by omega)]; exact r6
  · rw [pI_ne (by omega)]; exact r7 k hk
theorem cv_value (hn : S.1 1 1 = o3 n) (hl : n ≤ 400) (hR : RC S m c H) (hm : m ≤ 60) {i : Nat} (hi : i ≤ n) (hc : vlF (S.1 2) n m (sk (S.1 2) n i) = 0 → c.length < 400) : ∃ S' i' s', f_X5_readValue (tS S (o3 i) s f) = some (if vlF (S.1 2) n m (sk (S.1 2) n i) = 0 then (1, tS S' (o3 (vlP (S.1 2) n (sk (S.1 2) n i))) s' f) else (0, tS S' i' s' (o3 (vlF (S.1 2) n m (sk (S.1 2) n i))))) ∧ eQ S S' ∧ (vlF (S.1 2) n m (sk (S.1 2) n i) = 0 → RC S' (m + 1) (c ++ [vlC (S.1 2) n (sk (S.1 2) n i)]) H) := by
  have hj := sk_le (t := S.1 2) hi
  have hid := sk_id (t := S.1 2) (n := n) (i := i)
  unfold f_X5_readValue
  rw [ct_skip hn hl hi, bd_some, tS_2]
  generalize sk (S.1 2) n i = j at hj hid hc
  rw [ct_digit hl (X := tS S (o3 j) s f) (by rw [tS_1, hn]) (by omega), bd_some, tS_t]
  unfold vlF vlP vlC
  have hbad : ∀ x : Nat, (1 + 8 * j + x = 0) → False := fun x h => by omega
  by_cases hd : 0 < dl (S.1 2) n j
  · rw [if_pos hd, if_neg (show ¬ (1 : Int32) = 0 by decide), if_pos hd, if_pos hd, if_pos hd, ct_num hn hl hj, bd_some, ni_0, show (99999 : Int32).toInt = 99999 from rfl, hid]
    by_cases h0 : nmf (S.1 2) n j 0 99999 = 0
    · have g := (nmf_0 h0).2.2
      rw [if_pos h0, if_pos h0]
      dsimp only
      rw [if_pos (o3_0le (by omega)), if_pos (o3_0le (by omega)), cv_room hR.1 hm, bd_some]
      by_cases h60 : 60 ≤ m
      · rw [if_pos h60, if_pos h60]
        exact ⟨S, _, _, by rw [if_neg (hbad 3)]; rfl, eQ.rf, fun q => absurd q (hbad 3)⟩
      · rw [if_neg h60, if_neg h60]
        dsimp only
        rw [if_neg (show ¬ (1 : Int32) = 0 by decide), if_neg (show ¬ (1 : Int32) = 0 by decide)]
        obtain ⟨S1, w1, w2, w3⟩ := cq_write (a := 2) (v := nmv (S.1 2) n j) (i := o3 (nmp (S.1 2) n j)) (s := o3 j) (f := f) (RC_3 (x := m + 1) hR) (hc (by unfold vlF; rw [if_pos hd, if_pos h0, if_neg h60])) (by omega) (by omega)
        rw [show (2 : Int32) = o3 2 from rfl, w1, bd_some]
        exact ⟨S1, 0, _, rfl, (eQ_pI (by unfold wQ; omega)).tr w3, fun _ => w2⟩
    · rw [if_neg h0, if_neg h0]
      dsimp only
      rw [if_neg (show ¬ (0 : Int32) ≤ -1 by decide), if_neg (show ¬ (1 : Int32) = 0 by decide), if_neg (show ¬ (0 : Int32) ≤ -1 by decide)]
      exact ⟨S, _, _, by rw [if_neg h0], eQ.rf, fun q => absurd q h0⟩
  · rw [if_neg hd, if_pos (show (0 : Int32) = 0 from rfl), if_neg hd, if_neg hd, if_neg hd, cv_name hn hl hj hid, bd_some]
    by_cases h8 : nmI (S.1 2) n j < 8
    · rw [if_pos h8, if_pos h8]
      dsimp only
      rw [if_pos (o3_0le (by omega)), if_pos (o3_0le (by omega)), cv_room hR.1 hm, bd_some]
      by_cases h60 : 60 ≤ m
      · rw [if_pos h60, if_pos h60]
        exact ⟨S, _, _, by rw [if_neg (hbad 3)]; rfl, eQ.rf, fun q => absurd q (hbad 3)⟩
      · rw [if_neg h60, if_neg h60]
        dsimp only
        rw [if_neg (show ¬ (1 : Int32) = 0 by decide), if_pos (show (0 : Int32) = 0 from rfl)]
        obtain ⟨S1, w1, w2, w3⟩ := cq_write (a := 3) (v := nmI (S.1 2) n j) (i := o3 (j + nmL (nmI (S.1 2) n j))) (s := o3 j) (f := f) (RC_3 (x := m + 1) hR) (hc (by unfold vlF; rw [if_neg hd, if_pos h8, if_neg h60])) (by omega) (by omega)
        rw [show (3 : Int32) = o3 3 from rfl, w1, bd_some]
        exact ⟨S1, 0, _, rfl, (eQ_pI (by unfold wQ; omega)).tr w3, fun _ => w2⟩
    · rw [if_neg h8, if_neg h8]
      dsimp only
      rw [if_neg (show ¬ (0 : Int32) ≤ -1 by decide), if_pos (show (0 : Int32) = 0 from rfl), ct_fail, bd_some, tS_2, tS_fa, show (1 : Int32) = o3 1 from rfl, show (8 : Int32) = o3 8 from rfl, show (0 : Int32) = o3 0 from rfl, o3_mul, o3_add, o3_add]
      refine ⟨S, o3 j, s, ?_, eQ.rf, fun q => absurd q (hbad 0)⟩
      rw [if_neg (show ¬ (1 + 8 * j = 0) by omega)]
      rfl
end CV
end
noncomputable section
theorem opn_s {t : Nat → Int32} {n f i : Nat} {H : List Nat} : opn t n (f + 1) i H = if wat t n (mm_sb.getD 5 []) (sk t n i) = true then (if 10 ≤ dep H then (1 + 8 * sk t n i + 2, sk t n i, H) else opn t n f (sk t n i + 3) (4 :: H)) else if sk t n i < n ∧ t (sk t n i) = 91 then (if 10 ≤ dep H then (1 + 8 * sk t n i + 2, sk t n i, H) else opn t n f (sk t n i + 1) (16 :: H)) else (0, sk t n i, H) := rfl
theorem dep_4 {H : List Nat} : dep (4 :: H) = dep H + 1 := rfl
theorem dep_16 {H : List Nat} : dep (16 :: H) = dep H + 1 := rfl
theorem brk_4 {H : List Nat} : brk (4 :: H) = brk H := rfl
theorem brk_16 {H : List Nat} : brk (16 :: H) = brk H + 1 := rfl
theorem opn_pr {t : Nat → Int32} {n : Nat} : ∀ f i H, i ≤ n → dep H ≤ 10 → (opn t n f i H).1 = 0 → ∃ P, (opn t n f i H).2.2 = P ++ H ∧ (∀ x ∈ P, x = 4 ∨ x = 16) ∧ dep (opn t n f i H).2.2 ≤ 10 ∧ i + P.length ≤ (opn t n f i H).2.1 ∧ (opn t n f i H).2.1 ≤ n ∧ sk t n (opn t n f i H).2.1 = (opn t n f i H).2.1 := by
  intro f
  induction f with
  | zero => intro i H _ _ h; exact absurd h (by show ¬ (1 = 0); omega)
  | succ f ih =>
    intro i H hi hd h
    have hj := sk_le (t := t) hi
    have hg := sk_ge (t := t) (n := n) (i := i)
    rw [opn_s] at h ⊢
    by_cases hw : wat t n (mm_sb.getD 5 []) (sk t n i) = true
    · rw [if_pos hw] at h ⊢
      have hle : sk t n i + 3 ≤ n := wat_le hj hw
      by_cases hd10 : 10 ≤ dep H
      · rw [if_pos hd10] at h; exact absurd h (by show ¬ (1 + 8 * _ + 2 = 0); omega)
      · rw [if_neg hd10] at h ⊢
        obtain ⟨P, p1, p2, p3, p4, p5, p6⟩ := ih _ _ hle (by rw [dep_4]; omega) h
        refine ⟨P ++ [4], by rw [p1, List.append_assoc]; rfl, fun x hx => ?_, p3, by rw [ln_app]; omega, p5, p6⟩
        rcases List.mem_append.mp hx with hx | hx
        · exact p2 x hx
        · exact Or.inl (List.mem_singleton.mp hx)
    · rw [if_neg hw] at h ⊢
      by_cases hb : sk t n i < n ∧ t (sk t n i) = 91
      · rw [if_pos hb] at h ⊢
        by_cases hd10 : 10 ≤ dep H
        · rw [if_pos hd10] at h; exact absurd h (by show ¬ (1 + 8 * _ + 2 = 0); omega)
        · rw [if_neg hd10] at h ⊢
          obtain ⟨P, p1, p2, p3, p4, p5, p6⟩ := ih _ _ (by omega) (by rw [dep_16]; omega) h
          refine ⟨P ++ [16], by rw [p1, List.append_assoc]; rfl, fun x hx => ?_, p3, by rw [ln_app]; omega, p5, p6⟩
          rcases List.mem_append.mp hx with hx | hx
          · exact p2 x hx
          · exact Or.inr (List.mem_singleton.mp hx)
      · rw [if_neg hb]
        exact ⟨[], rfl, fun x hx => absurd hx List.not_mem_nil, hd, hg, hj, sk_id⟩
theorem opn_fl {t : Nat → Int32} {n : Nat} : ∀ f i H, i ≤ n → (opn t n f i H).1 ≤ 8 * n + 10 := by
  intro f
  induction f with
  | zero => intro i H _; show 1 ≤ _; omega
  | succ f ih =>
    intro i H hi
    have hj := sk_le (t := t) hi
    rw [opn_s]
    by_cases hw : wat t n (mm_sb.getD 5 []) (sk t n i) = true
    · rw [if_pos hw]
      have hle : sk t n i + 3 ≤ n := wat_le hj hw
      split
      · show 1 + 8 * _ + 2 ≤ _; omega
      · exact ih _ _ hle
    · rw [if_neg hw]
      by_cases hb : sk t n i < n ∧ t (sk t n i) = 91
      · rw [if_pos hb]
        split
        · show 1 + 8 * _ + 2 ≤ _; omega
        · exact ih _ _ (by omega)
      · rw [if_neg hb]; exact Nat.zero_le _
section CO
variable {m n : Nat} {c : List (Nat × Nat)} {f : Int32} {t : Nat → Int32}
theorem co_open (hl : n ≤ 400) {K : fS → Option (Int32 × fS)} : ∀ d p nn (H : List Nat) (S : fS) (i : Nat) (s : Int32), S.1 1 1 = o3 n → S.1 2 = t → RC S m c H → dep H + d = 10 → p ≤ dep H → H.length ≤ 50 + dep H → i ≤ n → d < nn → ∃ S' i' s', lp_X5_readOpenings_2 K nn (o3 p) (tS S (o3 i) s f) = some (if (opn t n (d + 1) i H).1 = 0 then (1, tS S' (o3 (opn t n (d + 1) i H).2.1) s' f) else (0, tS S' i' s' (o3 (opn t n (d + 1) i H).1))) ∧ eQ S S' ∧ ((opn t n (d + 1) i H).1 = 0 → RC S' m c (opn t n (d + 1) i H).2.2) := by
  intro d
  induction d with
  | zero =>
    intro p nn H S i s hn ht hR hd hp hL hi hnn
    subst ht
    obtain ⟨nn, rfl⟩ : ∃ n', nn = n' + 1 := ⟨nn - 1, by omega⟩
    have hj := sk_le (t := S.1 2) hi
    have hR0 := hR
    obtain ⟨r1, r2, r3, r4, r5, r6, r7⟩ := hR
    rw [lp_X5_readOpenings_2.eq_2, if_neg (show ¬ (10 : Int32) < o3 _ from fun q => by have := (o3_lt (a := 10) (by omega) (by omega)).mp q; omega), ct_word hn hl (w := 5) (by decide) hi, bd_some, opn_s]
    by_cases hw : wat (S.1 2) n (mm_sb.getD 5 []) (sk (S.1 2) n i) = true
    · rw [if_pos hw, if_pos hw, if_pos (show 10 ≤ dep H by omega)]
      dsimp only
      rw [if_neg (show ¬ (1 : Int32) = 0 by decide), tS_ne (by omega), r4, if_neg (show ¬ o3 _ < (10 : Int32) from fun q => by have := (o3_lt (b := 10) (by omega) (by omega)).mp q; omega), ct_fail, bd_some, tS_3, tS_fa, show (1 : Int32) = o3 1 from rfl, show (8 : Int32) = o3 8 from rfl, show (2 : Int32) = o3 2 from rfl, o3_mul, o3_add, o3_add]
      exact ⟨S, _, _, by rw [if_neg (show ¬ (1 + 8 * sk (S.1 2) n i + 2 = 0) by omega)]; rfl, eQ.rf, fun q => absurd q (show ¬ (1 + 8 * sk (S.1 2) n i + 2 = 0) by omega)⟩
    · rw [if_neg hw, if_neg hw]
      dsimp only
      rw [if_pos (show (0 : Int32) = 0 from rfl), ct_sign hn hl (by decide) hj, bd_some, sk_id]
      by_cases hb : sk (S.1 2) n i < n ∧ S.1 2 (sk (S.1 2) n i) = 91
      · rw [if_pos hb, if_pos hb, if_pos (show 10 ≤ dep H by omega)]
        dsimp only
        rw [if_neg (show ¬ (1 : Int32) = 0 by decide), tS_ne (by omega), r4, if_neg (show ¬ o3 _ < (10 : Int32) from fun q => by have := (o3_lt (b := 10) (by omega) (by omega)).mp q; omega), ct_fail, bd_some, tS_3, tS_fa, show (1 : Int32) = o3 1 from rfl, show (8 : Int32) = o3 8 from rfl, show (2 : Int32) = o3 2 from rfl, o3_mul, o3_add, o3_add]
        exact ⟨S, _, _, by rw [if_neg (show ¬ (1 + 8 * sk (S.1 2) n i + 2 = 0) by omega)]; rfl, eQ.rf, fun q => absurd q (show ¬ (1 + 8 * sk (S.1 2) n i + 2 = 0) by omega)⟩
      · rw [if_neg hb, if_neg hb]
        dsimp only
        rw [if_pos (show (0 : Int32) = 0 from rfl)]
        exact ⟨S, 0, _, by rw [if_pos (show (0 : Nat) = 0 from rfl)], eQ.rf, fun _ => hR0⟩
  | succ d ih =>
    intro p nn H S i s hn ht hR hd hp hL hi hnn
    subst ht
    obtain ⟨nn, rfl⟩ : ∃ n', nn = n' + 1 := ⟨nn - 1, by omega⟩
    have hj := sk_le (t := S.1 2) hi
    have hR0 := hR
    obtain ⟨r1, r2, r3, r4, r5, r6, r7⟩ := hR
    have hbd := brk_dep H
    rw [lp_X5_readOpenings_2.eq_2, if_neg (show ¬ (10 : Int32) < o3 _ from fun q => by have := (o3_lt (a := 10) (by omega) (by omega)).mp q; omega), ct_word hn hl (w := 5) (by decide) hi, bd_some]
    have step : ∀ (x j' : Nat) (s' : Int32) (S1 : fS), (x = 4 ∨ x = 16) → j' ≤ n → S1.1 38 5 = o3 (brk (x :: H)) → S1.1 38 6 = o3 (dep (x :: H)) → (∀ a k, ¬ (a = 38 ∧ (k = 5 ∨ k = 6)) → S1.1 a k = S.1 a k) → S1.2 = S.2 → ∃ S' i' s'', ((f_X5_hold (o3 x) (tS S1 (o3 j') s' f)).bind fun q => lp_X5_readOpenings_2 K nn (o3 (p + 1)) q) = some (if (opn (S.1 2) n (d + 1) j' (x :: H)).1 = 0 then (1, tS S' (o3 (opn (S.1 2) n (d + 1) j' (x :: H)).2.1) s'' f) else (0, tS S' i' s'' (o3 (opn (S.1 2) n (d + 1) j' (x :: H)).1))) ∧ eQ S S' ∧ ((opn (S.1 2) n (d + 1) j' (x :: H)).1 = 0 → RC S' m c (opn (S.1 2) n (d + 1) j' (x :: H)).2.2) := by
      intro x j' s' S1 hx hj' h5 h6 hfr hfr2
      obtain ⟨S2, e1, e2, e3⟩ := cq_hold (m := m) (c := c) (H := H) (a := x) (i := o3 j') (s := s') (f := f) (by rw [hfr 38 3 (by omega)]; exact r1) (by rw [hfr 38 4 (by omega)]; exact r2) h5 h6 (fun k hk => by rw [hfr 39 k (by omega)]; exact r5 k hk) (by rw [hfr 40 2 (by omega)]; exact r6) (fun k hk => by rw [hfr 41 k (by omega)]; exact r7 k hk) (by omega)
      have hdx : dep (x :: H) = dep H + 1 := by rcases hx with rfl | rfl <;> rfl
      have hE1 : eQ S S1 := ⟨fun a k hn => hfr a k (fun q => hn (by unfold wQ; omega)), hfr2⟩
      rw [e1, bd_some]
      obtain ⟨S3, i3, s3, g1, g2, g3⟩ := ih (p + 1) nn (x :: H) S2 j' s' (by rw [e3.1 1 1 (by unfold wQ; omega), hfr 1 1 (by omega)]; exact hn) (funext fun k => by rw [e3.1 2 k (by unfold wQ; omega), hfr 2 k (by omega)]) e2 (by omega) (by omega) (by show H.length + 1 ≤ _; omega) hj' (by omega)
      exact ⟨S3, i3, s3, g1, (hE1.tr e3).tr g2, g3⟩
    rw [opn_s]
    by_cases hw : wat (S.1 2) n (mm_sb.getD 5 []) (sk (S.1 2) n i) = true
    · have hle : sk (S.1 2) n i + 3 ≤ n := wat_le hj hw
      rw [if_pos hw, if_pos hw, if_neg (show ¬ 10 ≤ dep H by omega)]
      dsimp only
      rw [if_neg (show ¬ (1 : Int32) = 0 by decide), tS_ne (by omega), r4, if_pos (show o3 _ < (10 : Int32) from (o3_lt (b := 10) (by omega) (by omega)).mpr (by omega)), bd_some, tS_pI (by omega), if_neg (show ¬ (1 : Int32) = 0 by decide), bd_some, tS_ne (by omega), pI_ne (by omega), r3, tS_pI (by omega), o3_s, o3_s, Int32.add_zero, if_neg (show ¬ (1 : Int32) = 0 by decide)]
      exact step 4 (sk (S.1 2) n i + 3) _ _ (Or.inl rfl) hle (by rw [pI_eq, brk_4]) (by rw [pI_ne (by omega), pI_eq, dep_4]) (fun a k h => by rw [pI_ne (by omega), pI_ne (by omega)]) rfl
    · rw [if_neg hw, if_neg hw]
      dsimp only
      rw [if_pos (show (0 : Int32) = 0 from rfl), ct_sign hn hl (by decide) hj, bd_some, sk_id]
      by_cases hb : sk (S.1 2) n i < n ∧ S.1 2 (sk (S.1 2) n i) = 91
      · rw [if_pos hb, if_pos hb, if_neg (show ¬ 10 ≤ dep H by omega)]
        dsimp only
        rw [if_neg (show ¬ (1 : Int32) = 0 by decide), tS_ne (by omega), r4, if_pos (show o3 _ < (10 : Int32) from (o3_lt (b := 10) (by omega) (by omega)).mpr (by omega)), bd_some, tS_pI (by omega), if_pos (show (0 : Int32) = 0 from rfl), bd_some, tS_ne (by omega), pI_ne (by omega), r3, tS_pI (by omega), o3_s, o3_s, o3_s, if_pos (show (0 : Int32) = 0 from rfl)]
        exact step 16 (sk (S.1 2) n i + 1) _ _ (Or.inr rfl) (by omega) (by rw [pI_eq, brk_16]) (by rw [pI_ne (by omega), pI_eq, dep_16]) (fun a k h => by rw [pI_ne (by omega), pI_ne (by omega)]) rfl
      · rw [if_neg hb, if_neg hb]
        dsimp only
        rw [if_pos (show (0 : Int32) = 0 from rfl)]
        exact ⟨S, 0, _, by rw [if_pos (show (0 : Nat) = 0 from rfl)], eQ.rf, fun _ => hR0⟩
end CO
end
noncomputable section
/-! signs -/
def rk (t : Nat → Int32) (n j : Nat) : Nat := if j < n ∧ t j = 43 then 7 else if j < n ∧ t j = 45 then 8 else if j < n ∧ t j = 42 then 9 else if j < n ∧ t j = 47 then 10 else 0
def jn (t : Nat → Int32) (n j : Nat) : Nat := if wat t n (mm_sb.getD 14 []) j = true then 5 else if wat t n (mm_sb.getD 15 []) j = true then 6 else 0
def jnL (k : Nat) : Nat := if k = 5 then 3 else 2
def cm (t : Nat → Int32) (n j : Nat) : Nat := if j < n ∧ t j = 61 then 13 else if j < n ∧ t j = 60 then (if j + 1 < n ∧ t (j + 1) = 61 then 12 else 11) else if j < n ∧ t j = 62 then (if j + 1 < n ∧ t (j + 1) = 61 then 14 else 15) else 0
def cmL (k : Nat) : Nat := if k = 12 ∨ k = 14 then 2 else 1
section CS
variable {S : fS} {m n : Nat} {c : List (Nat × Nat)} {H : List Nat} {s f : Int32}
theorem cs_reck (hn : S.1 1 1 = o3 n) (hl : n ≤ 400) {i : Nat} (hi : i ≤ n) : f_X5_takeReckoning (tS S (o3 i) s f) = some (if rk (S.1 2) n (sk (S.1 2) n i) = 0 then (-1, tS S (o3 (sk (S.1 2) n i)) s f) else (o3 (rk (S.1 2) n (sk (S.1 2) n i)), tS S (o3 (sk (S.1 2) n i + 1)) (o3 (sk (S.1 2) n i)) f)) := by
  have hj := sk_le (t := S.1 2) hi
  have hid := sk_id (t := S.1 2) (n := n) (i := i)
  unfold f_X5_takeReckoning rk
  rw [ct_sign hn hl (by decide) hi, bd_some]
  generalize sk (S.1 2) n i = j at hj hid
  by_cases h0 : j < n ∧ S.1 2 j = 43
  · simp only [if_pos h0]; rw [if_neg (by decide), if_neg (by omega)]; rfl
  simp only [if_neg h0]
  rw [if_pos trivial, ct_sign hn hl (by decide) hj, bd_some, hid]
  by_cases h1 : j < n ∧ S.1 2 j = 45
  · simp only [if_pos h1]; rw [if_neg (by decide), if_neg (by omega)]; rfl
  simp only [if_neg h1]
  rw [if_pos trivial, ct_sign hn hl (by decide) hj, bd_some, hid]
  by_cases h2 : j < n ∧ S.1 2 j = 42
  · simp only [if_pos h2]; rw [if_neg (by decide), if_neg (by omega)]; rfl
  simp only [if_neg h2]
  rw [if_pos trivial, ct_sign hn hl (by decide) hj, bd_some, hid]
  by_cases h3 : j < n ∧ S.1 2 j = 47
  · simp only [if_pos h3]; rw [if_neg (by decide), if_neg (by omega)]; rfl
  simp only [if_neg h3]
  rw [if_pos trivial, if_pos trivial]
theorem cs_join (hn : S.1 1 1 = o3 n) (hl : n ≤ 400) {i : Nat} (hi : i ≤ n) : f_X5_takeJoining (tS S (o3 i) s f) = some (if jn (S.1 2) n (sk (S.1 2) n i) = 0 then (-1, tS S (o3 (sk (S.1 2) n i)) s f) else (o3 (jn (S.1 2) n (sk (S.1 2) n i)), tS S (o3 (sk (S.1 2) n i + jnL (jn (S.1 2) n (sk (S.1 2) n i)))) (o3 (sk (S.1 2) n i)) f)) := by
  have hj := sk_le (t := S.1 2) hi
  have hid := sk_id (t := S.1 2) (n := n) (i := i)
  unfold f_X5_takeJoining jn
  rw [ct_word hn hl (w := 14) (by decide) hi, bd_some]
  generalize sk (S.1 2) n i = j at hj hid
  by_cases h0 : wat (S.1 2) n (mm_sb.getD 14 []) j = true
  · simp only [if_pos h0]; rw [if_neg (by decide), if_neg (by omega)]; rfl
  simp only [if_neg h0]
  rw [if_pos trivial, ct_word hn hl (w := 15) (by decide) hj, bd_some, hid]
  by_cases h1 : wat (S.1 2) n (mm_sb.getD 15 []) j = true
  · simp only [if_pos h1]; rw [if_neg (by decide), if_neg (by omega)]; rfl
  simp only [if_neg h1]
  rw [if_pos trivial, if_pos trivial]
theorem cs_cmp (hn : S.1 1 1 = o3 n) (hl : n ≤ 400) {i : Nat} (hi : i ≤ n) : f_X5_takeComparing (tS S (o3 i) s f) = some (if cm (S.1 2) n (sk (S.1 2) n i) = 0 then (-1, tS S (o3 (sk (S.1 2) n i)) s f) else (o3 (cm (S.1 2) n (sk (S.1 2) n i)), tS S (o3 (sk (S.1 2) n i + cmL (cm (S.1 2) n (sk (S.1 2) n i)))) (o3 (sk (S.1 2) n i)) f)) := by
  have hj := sk_le (t := S.1 2) hi
  have hid := sk_id (t := S.1 2) (n := n) (i := i)
  unfold f_X5_takeComparing cm
  rw [ct_sign hn hl (by decide) hi, bd_some]
  generalize sk (S.1 2) n i = j at hj hid
  have byte : ∀ s', (f_X7_byteAt ((tS S (o3 (j + 1)) s' f).1 1 2) (tS S (o3 (j + 1)) s' f)) = some (if j + 1 < n then S.1 2 (j + 1) else -1) := fun s' => by
    rw [tS_2, ct_byte hl (X := tS S (o3 (j + 1)) s' f) (by rw [tS_1, hn]) (by omega), tS_t]
  have b61 : ((if j + 1 < n then S.1 2 (j + 1) else -1) = (61 : Int32)) ↔ (j + 1 < n ∧ S.1 2 (j + 1) = 61) := by
    by_cases h : j + 1 < n
    · rw [if_pos h]; exact ⟨fun q => ⟨h, q⟩, fun q => q.2⟩
    · rw [if_neg h]; exact ⟨fun q => absurd q (by decide), fun q => absurd q.1 h⟩
  by_cases h0 : j < n ∧ S.1 2 j = 61
  · simp only [if_pos h0]; rw [if_neg (by decide), if_neg (by omega)]; rfl
  simp only [if_neg h0]
  rw [if_pos trivial, ct_sign hn hl (by decide) hj, bd_some, hid]
  by_cases h1 : j < n ∧ S.1 2 j = 60
  · simp only [if_pos h1]
    rw [if_neg (by decide), byte, bd_some]
    by_cases h2 : j + 1 < n ∧ S.1 2 (j + 1) = 61
    · rw [if_pos (b61.mpr h2), bd_some, tS_2, tS_at, o3_s]
      simp only [if_pos h2]
      rw [if_neg (by decide), if_neg (by omega)]
      rfl
    · rw [if_neg (fun q => h2 (b61.mp q))]
      simp only [if_neg h2]
      rw [if_neg (by decide), if_neg (by omega)]
      rfl
  simp only [if_neg h1]
  rw [if_pos trivial, ct_sign hn hl (by decide) hj, bd_some, hid]
  by_cases h3 : j < n ∧ S.1 2 j = 62
  · simp only [if_pos h3]
    rw [if_neg (by decide), byte, bd_some]
    by_cases h2 : j + 1 < n ∧ S.1 2 (j + 1) = 61
    · rw [if_pos (b61.mpr h2), bd_some, tS_2, tS_at, o3_s]
      simp only [if_pos h2]
      rw [if_pos trivial, if_neg (by omega)]
      rfl
    · rw [if_neg (fun q => h2 (b61.mp q))]
      simp only [if_neg h2]
      rw [if_pos trivial, if_neg (by omega)]
      rfl
  simp only [if_neg h3]
  rw [if_pos trivial, if_pos trivial]
end CS
end
noncomputable section
/-! brackets that close -/
def elH (H : List Nat) : Prop := ∀ x ∈ H, 4 ≤ x ∧ x < 17
def clo (t : Nat → Int32) (n : Nat) : Nat → Nat → List Nat → List (Nat × Nat) × Nat × List Nat
  | 0, i, H => ([], i, H)
  | f + 1, i, H => if 0 < brk H then (if sk t n i < n ∧ t (sk t n i) = 93 then (stO 1 H ++ (clo t n f (sk t n i + 1) (stR 1 H).tail).1, (clo t n f (sk t n i + 1) (stR 1 H).tail).2) else ([], sk t n i, H)) else ([], i, H)
theorem clo_s {t : Nat → Int32} {n f i : Nat} {H : List Nat} : clo t n (f + 1) i H = if 0 < brk H then (if sk t n i < n ∧ t (sk t n i) = 93 then (stO 1 H ++ (clo t n f (sk t n i + 1) (stR 1 H).tail).1, (clo t n f (sk t n i + 1) (stR 1 H).tail).2) else ([], sk t n i, H)) else ([], i, H) := rfl
theorem bnd_0 : ∀ x, 4 ≤ x → x < 17 → (1 ≤ bnd x ↔ x ≠ 16) := by
  intro x h1 h2
  have : ∀ x, x < 17 → 4 ≤ x → (1 ≤ bnd x ↔ x ≠ 16) := by decide
  exact this x h2 h1
theorem st1_16 : ∀ H, elH H → 0 < brk H → ∃ H', stR 1 H = 16 :: H' ∧ brk H' + 1 = brk H ∧ dep H' + 1 ≤ dep H ∧ elH H' ∧ (stO 1 H).length + H'.length + 1 = H.length := by
  intro H
  induction H with
  | nil => intro _ h; exact absurd h (Nat.lt_irrefl 0)
  | cons x H ih =>
    intro he hb
    have hx := he x List.mem_cons_self
    have he' : elH H := fun y hy => he y (List.mem_cons_of_mem _ hy)
    by_cases h16 : x = 16
    · subst h16
      have e1 : stR 1 (16 :: H) = 16 :: H := if_neg (by decide)
      have e2 : stO 1 (16 :: H) = [] := if_neg (by decide)
      rw [e1, e2]
      exact ⟨H, rfl, rfl, Nat.le_refl _, he', by show 0 + H.length + 1 = H.length + 1; omega⟩
    · have hle : 1 ≤ bnd x := (bnd_0 x hx.1 hx.2).mpr h16
      have e1 : stR 1 (x :: H) = stR 1 H := if_pos hle
      have e2 : stO 1 (x :: H) = (x, 0) :: stO 1 H := if_pos hle
      have hbx : brk (x :: H) = brk H := by show brk H + (if x = 16 then 1 else 0) = _; rw [if_neg h16]; rfl
      rw [hbx] at hb
      obtain ⟨H', p1, p2, p3, p4, p5⟩ := ih he' hb
      rw [e1, e2, hbx]
      have hdx : dep H ≤ dep (x :: H) := Nat.le_add_right _ _
      exact ⟨H', p1, p2, by omega, p4, by show (stO 1 H).length + 1 + _ + 1 = H.length + 1; omega⟩
theorem stR_dep1 : ∀ H, elH H → dep (stR 1 H) ≤ dep H := fun H _ => stR_dep H
section CB
variable {m n : Nat} {f : Int32} {t : Nat → Int32}
theorem cb_close (hl : n ≤ 400) {K : fS → Option fS} : ∀ d nn (c : List (Nat × Nat)) (H : List Nat) (S : fS) (i : Nat) (s : Int32), S.1 1 1 = o3 n → S.1 2 = t → RC S m c H → elH H → brk H = d → H.length ≤ 64 → dep H ≤ 10 → c.length + H.length ≤ 400 → i ≤ n → d < nn → ∃ S' s', lp_X5_closeBrackets_0 K nn (tS S (o3 i) s f) = K (tS S' (o3 (clo t n (d + 1) i H).2.1) s' f) ∧ eQ S S' ∧ RC S' m (c ++ (clo t n (d + 1) i H).1) (clo t n (d + 1) i H).2.2 := by
  intro d
  induction d with
  | zero =>
    intro nn c H S i s hn ht hR he hd hL hD hcl hi hnn
    obtain ⟨nn, rfl⟩ : ∃ n', nn = n' + 1 := ⟨nn - 1, by omega⟩
    rw [lp_X5_closeBrackets_0.eq_2, tS_ne (by omega), hR.2.2.1, hd, if_pos (by decide), clo_s, if_neg (by omega)]
    refine ⟨S, s, rfl, eQ.rf, ?_⟩
    show RC S m (c ++ []) H
    rw [List.append_nil]; exact hR
  | succ d ih =>
    intro nn c H S i s hn ht hR he hd hL hD hcl hi hnn
    subst ht
    obtain ⟨nn, rfl⟩ : ∃ n', nn = n' + 1 := ⟨nn - 1, by omega⟩
    have hj := sk_le (t := S.1 2) hi
    have hbd := brk_dep H
    rw [lp_X5_closeBrackets_0.eq_2, tS_ne (by omega), hR.2.2.1, hd, if_neg (show ¬ o3 _ ≤ (0 : Int32) from fun q => by have := (o3_le (b := 0) (by omega) (by omega)).mp q; omega), ct_sign hn hl (by decide) hi, bd_some, clo_s, if_pos (show 0 < brk H by omega)]
    by_cases hc : sk (S.1 2) n i < n ∧ S.1 2 (sk (S.1 2) n i) = 93
    · rw [if_pos hc, if_pos hc]
      dsimp only
      rw [if_neg (show ¬ (1 : Int32) = 0 by decide), show (6 : Int32) = o3 6 from rfl, gB_o (by omega), bd_some, show bnd 6 = 1 from rfl]
      obtain ⟨S1, e1, e2, e3⟩ := cq_settle (i := o3 (sk (S.1 2) n i + 1)) (s := o3 (sk (S.1 2) n i)) (f := f) (b := 1) (by omega) (by omega) hR (fun x hx => (he x hx).2) hL (by omega) hcl
      obtain ⟨H', p1, p2, p3, p4, p5⟩ := st1_16 H he (by omega)
      have hdep := stR_dep (b := 1) H
      have hbrk1 := stR_brk (b := 1) (by omega) H
      rw [p1] at e2 hdep hbrk1
      obtain ⟨r1, r2, r3, r4, r5, r6, r7⟩ := e2
      have r2 : S1.1 38 4 = o3 (H'.length + 1) := r2
      rw [e1, bd_some, tS_ne (by omega), r2, show (1 : Int32) = o3 1 from rfl, o3_sub (by omega), show H'.length + 1 - 1 = H'.length by omega]
      have hmax : ∀ X, f_J9_max_7cf53 (o3 H'.length) (0 : Int32) X = some (o3 H'.length) := fun X => by
        unfold f_J9_max_7cf53
        rw [if_neg (o3_nn (by omega))]
      rw [hmax, bd_some, bd_some, tS_pI (by omega), tS_ne (by omega), pI_ne (by omega), r4, bd_some, tS_pI (by omega), tS_ne (by omega), pI_ne (by omega), pI_ne (by omega), r3, dep_16, brk_16, o3_sub (by omega), o3_sub (by omega), tS_pI (by omega), show dep H' + 1 - 1 = dep H' by omega, show brk H' + 1 - 1 = brk H' by omega]
      have hE : eQ S1 (pI (pI (pI S1 38 4 (o3 H'.length)) 38 6 (o3 (dep H'))) 38 5 (o3 (brk H'))) := ((eQ_pI (by unfold wQ; omega)).tr (eQ_pI (by unfold wQ; omega))).tr (eQ_pI (by unfold wQ; omega))
      have hRn : RC (pI (pI (pI S1 38 4 (o3 H'.length)) 38 6 (o3 (dep H'))) 38 5 (o3 (brk H'))) m (c ++ stO 1 H) H' := by
        refine ⟨?_, ?_, ?_, ?_, fun k hk => ?_, ?_, fun k hk => ?_⟩
        · rw [pI_ne (by omega), pI_ne (by omega), pI_ne (by omega)]; exact r1
        · rw [pI_ne (by omega), pI_ne (by omega), pI_eq]
        · rw [pI_eq]
        · rw [pI_ne (by omega), pI_eq]
        · rw [pI_ne (by omega), pI_ne (by omega), pI_ne (by omega), r5 k (Nat.lt_succ_of_lt hk), rv_init hk]
        · rw [pI_ne (by omega), pI_ne (by omega), pI_ne (by omega)]; exact r6
        · rw [pI_ne (by omega), pI_ne (by omega), pI_ne (by omega)]; exact r7 k hk
      have hE2 := e3.tr hE
      generalize hX : pI (pI (pI S1 38 4 (o3 H'.length)) 38 6 (o3 (dep H'))) 38 5 (o3 (brk H')) = X at hRn hE2
      have hlen : (c ++ stO 1 H).length = c.length + (stO 1 H).length := List.length_append
      obtain ⟨S2, s2, g1, g2, g3⟩ := ih nn (c ++ stO 1 H) H' X (sk (S.1 2) n i + 1) (o3 (sk (S.1 2) n i)) (by rw [hE2.1 1 1 (by unfold wQ; omega)]; exact hn) (funext fun k => hE2.1 2 k (by unfold wQ; omega)) hRn p4 (by omega) (by omega) (by omega) (by omega) (by omega) (by omega)
      rw [p1]
      refine ⟨S2, s2, g1, hE2.tr g2, ?_⟩
      show RC S2 m (c ++ (stO 1 H ++ (clo (S.1 2) n (d + 1) (sk (S.1 2) n i + 1) H').1)) (clo (S.1 2) n (d + 1) (sk (S.1 2) n i + 1) H').2.2
      rw [← List.append_assoc]
      exact g3
    · rw [if_neg hc, if_neg hc]
      dsimp only
      rw [if_pos (show (0 : Int32) = 0 from rfl)]
      refine ⟨S, s, rfl, eQ.rf, ?_⟩
      show RC S m (c ++ []) H
      rw [List.append_nil]; exact hR
theorem clo_pr : ∀ d (H : List Nat) (i : Nat), elH H → brk H ≤ d → i ≤ n → elH (clo t n d i H).2.2 ∧ dep (clo t n d i H).2.2 ≤ dep H ∧ (clo t n d i H).1.length + (clo t n d i H).2.2.length ≤ H.length ∧ i ≤ (clo t n d i H).2.1 ∧ (clo t n d i H).2.1 ≤ n := by
  intro d
  induction d with
  | zero => intro H i he _ hi; exact ⟨he, Nat.le_refl _, by show 0 + H.length ≤ H.length; omega, Nat.le_refl _, hi⟩
  | succ d ih =>
    intro H i he hb hi
    have hj := sk_le (t := t) hi
    have hg := sk_ge (t := t) (n := n) (i := i)
    rw [clo_s]
    by_cases h0 : 0 < brk H
    · rw [if_pos h0]
      by_cases hc : sk t n i < n ∧ t (sk t n i) = 93
      · rw [if_pos hc]
        obtain ⟨H', p1, p2, p3, p4, p5⟩ := st1_16 H he h0
        rw [p1]
        obtain ⟨q1, q2, q3, q4, q5⟩ := ih H' (sk t n i + 1) p4 (by omega) (by omega)
        refine ⟨q1, Nat.le_trans q2 (by omega), ?_, ?_, q5⟩
        · show (stO 1 H ++ (clo t n d (sk t n i + 1) H').1).length + _ ≤ _
          rw [List.length_append]
          show _ + (clo t n d (sk t n i + 1) H').2.2.length ≤ _
          omega
        · show i ≤ (clo t n d (sk t n i + 1) H').2.1
          omega
      · rw [if_neg hc]
        exact ⟨he, Nat.le_refl _, by show 0 + H.length ≤ H.length; omega, hg, hj⟩
    · rw [if_neg h0]
      exact ⟨he, Nat.le_refl _, by show 0 + H.length ≤ H.length; omega, Nat.le_refl _, hi⟩
end CB
end
noncomputable section
/-! a test, turn by turn -/
/-- due, compared, made, written, held, place -/
abbrev TS : Type := Bool × Bool × Nat × List (Nat × Nat) × List Nat × Nat
/-- fault, place, made, written -/
abbrev TR : Type := Nat × Nat × Nat × List (Nat × Nat)
/-- behind a value: a sign of reckoning; or, where a fact has been compared, the end of the fact; or a sign that compares -/
def aft (t : Nat → Int32) (n : Nat) (cp : Bool) (m : Nat) (c : List (Nat × Nat)) (H : List Nat) (i : Nat) : TR ⊕ TS :=
  if rk t n (sk t n i) = 0 then
    (if cp = true then
      (if jn t n (sk t n (clo t n (brk H + 1) (sk t n i) H).2.1) = 0 then
        (if brk (clo t n (brk H + 1) (sk t n i) H).2.2 = 0 then .inl (0, sk t n (clo t n (brk H + 1) (sk t n i) H).2.1, m, c ++ (clo t n (brk H + 1) (sk t n i) H).1 ++ stO 1 (clo t n (brk H + 1) (sk t n i) H).2.2)
          else .inl (1 + 8 * sk t n (clo t n (brk H + 1) (sk t n i) H).2.1, 0, 0, []))
        else .inr (true, false, m, c ++ (clo t n (brk H + 1) (sk t n i) H).1 ++ stO (bnd (jn t n (sk t n (clo t n (brk H + 1) (sk t n i) H).2.1))) (clo t n (brk H + 1) (sk t n i) H).2.2, jn t n (sk t n (clo t n (brk H + 1) (sk t n i) H).2.1) :: stR (bnd (jn t n (sk t n (clo t n (brk H + 1) (sk t n i) H).2.1))) (clo t n (brk H + 1) (sk t n i) H).2.2, sk t n (clo t n (brk H + 1) (sk t n i) H).2.1 + jnL (jn t n (sk t n (clo t n (brk H + 1) (sk t n i) H).2.1))))
      else (if cm t n (sk t n i) = 0 then .inl (1 + 8 * sk t n i, 0, 0, [])
        else (if 60 ≤ m then .inl (1 + 8 * sk t n i + 3, 0, 0, []) else .inr (false, true, m + 1, c ++ stO 4 H, cm t n (sk t n i) :: stR 4 H, sk t n i + cmL (cm t n (sk t n i))))))
  else .inr (false, cp, m, c ++ stO (bnd (rk t n (sk t n i))) H, rk t n (sk t n i) :: stR (bnd (rk t n (sk t n i))) H, sk t n i + 1)
/-- a turn: openings, where a fact is due; a value; what stands behind it -/
def tval (t : Nat → Int32) (n : Nat) (cp : Bool) (m : Nat) (c : List (Nat × Nat)) (H : List Nat) (i : Nat) : TR ⊕ TS :=
  if vlF t n m (sk t n i) = 0 then aft t n cp (m + 1) (c ++ [vlC t n (sk t n i)]) H (vlP t n (sk t n i)) else .inl (vlF t n m (sk t n i), 0, 0, [])
def stp (t : Nat → Int32) (n : Nat) (x : TS) : TR ⊕ TS :=
  if x.1 = true then (if (opn t n (11 - dep x.2.2.2.2.1) x.2.2.2.2.2 x.2.2.2.2.1).1 = 0 then tval t n false x.2.2.1 x.2.2.2.1 (opn t n (11 - dep x.2.2.2.2.1) x.2.2.2.2.2 x.2.2.2.2.1).2.2 (opn t n (11 - dep x.2.2.2.2.1) x.2.2.2.2.2 x.2.2.2.2.1).2.1 else .inl ((opn t n (11 - dep x.2.2.2.2.1) x.2.2.2.2.2 x.2.2.2.2.1).1, 0, 0, []))
  else tval t n x.2.1 x.2.2.1 x.2.2.2.1 x.2.2.2.2.1 x.2.2.2.2.2
def run (t : Nat → Int32) (n : Nat) : Nat → TS → TR
  | 0, _ => (1, 0, 0, [])
  | f + 1, x => match stp t n x with
    | .inl r => r
    | .inr y => run t n f y
/-- the class, behind a value -/
def tA (K : fS → Option (Int32 × fS)) (nn : Nat) (z p3 : Int32) (X : fS) : Option (Int32 × fS) :=
  (f_X5_takeReckoning X).bind fun q16 =>
  if (0 : Int32) ≤ q16.1 then ((gB q16.1).bind fun a22 =>
    (f_X5_settle a22 q16.2).bind fun q25 =>
    (f_X5_hold q16.1 q25).bind fun q28 =>
    lp_X5_readTest_21 K nn (0 : Int32) z (p3 + (1 : Int32)) q28)
  else if z = (0 : Int32) then
    ((f_X5_takeComparing q16.2).bind fun q31 =>
    if (0 : Int32) ≤ q31.1 then ((f_X5_isRoomForOne q31.2).bind fun q35 =>
    if q35.1 = (0 : Int32) then (some ((0 : Int32), q35.2)) else
    ((gB q31.1).bind fun a39 =>
    (f_X5_settle a39 q35.2).bind fun q42 =>
    (f_X5_hold q31.1 q42).bind fun q45 =>
    lp_X5_readTest_21 K nn (0 : Int32) (1 : Int32) (p3 + (1 : Int32)) q45)) else
    ((f_X7_fail (q31.2.1 1 2) (0 : Int32) q31.2).bind fun q48 =>
    (bZ q48.1).bind fun z51 => some (z51, q48.2)))
  else
    ((f_X5_closeBrackets q16.2).bind fun q56 =>
    (f_X5_takeJoining q56).bind fun q59 =>
    if (0 : Int32) ≤ q59.1 then ((gB q59.1).bind fun a63 =>
    (f_X5_settle a63 q59.2).bind fun q66 =>
    (f_X5_hold q59.1 q66).bind fun q69 =>
    lp_X5_readTest_21 K nn (1 : Int32) z (p3 + (1 : Int32)) q69) else
    ((f_X5_isTestOver q59.2).bind fun q72 =>
    (bZ q72.1).bind fun z75 => some (z75, q72.2)))
set_option maxHeartbeats 4000000 in
theorem tA_eq {K : fS → Option (Int32 × fS)} {nn : Nat} {p1 p2 p3 : Int32} {S0 : fS} : lp_X5_readTest_21 K (nn + 1) p1 p2 p3 S0 = if (400 : Int32) ≤ p3 then K S0 else if p1 = 0 then ((f_X5_readValue S0).bind fun q12 => if q12.1 = (0 : Int32) then (some ((0 : Int32), q12.2)) else tA K nn p2 p3 q12.2) else ((f_X5_readOpenings S0).bind fun q201 => if q201.1 = (0 : Int32) then (some ((0 : Int32), q201.2)) else ((f_X5_readValue q201.2).bind fun q205 => if q205.1 = (0 : Int32) then (some ((0 : Int32), q205.2)) else tA K nn 0 p3 q205.2)) := by
  rw [lp_X5_readTest_21.eq_2]
  unfold tA
  have e00 : ((0 : Int32) = 0) = True := by simp
  have e10 : ((1 : Int32) = 0) = False := by decide
  by_cases h4 : (400 : Int32) ≤ p3
  · rw [if_pos h4, if_pos h4]
  · rw [if_neg h4, if_neg h4]
    by_cases hp : p1 = 0
    · rw [if_pos hp, if_pos hp]
      congr 1
      funext q12
      by_cases hq : q12.1 = 0
      · rw [if_pos hq, if_pos hq]
      · rw [if_neg hq, if_neg hq]
        congr 1
        funext q16
        by_cases h : (0 : Int32) ≤ q16.1
        · simp only [if_pos h, e00, if_true]
        · by_cases hz : p2 = 0
          · simp only [if_neg h, if_pos hz, e00, if_true]
          · simp only [if_neg h, if_neg hz, e10, if_false]
    · rw [if_neg hp, if_neg hp]
      congr 1
      funext q201
      by_cases hq : q201.1 = 0
      · rw [if_pos hq, if_pos hq]
      · rw [if_neg hq, if_neg hq]
        congr 1
        funext q205
        by_cases hq2 : q205.1 = 0
        · rw [if_pos hq2, if_pos hq2]
        · rw [if_neg hq2, if_neg hq2]
          congr 1
          funext q209
          by_cases h : (0 : Int32) ≤ q209.1
          · simp only [if_pos h, e00, if_true]
          · simp only [if_neg h, e00, if_true]
end
noncomputable section
/-! the class's turn is the automaton's -/
def okHs : Nat → List Nat → Prop
  | _, [] => True
  | b, x :: H => (x = 16 ∧ okHs 4 H) ∨ (x = 4 ∧ 3 < b ∧ okHs 4 H) ∨ (x ≠ 16 ∧ x ≠ 4 ∧ bnd x < b ∧ 1 ≤ bnd x ∧ bnd x ≠ 3 ∧ okHs (bnd x) H)
theorem okHs_mo : ∀ (H : List Nat) (b b' : Nat), b ≤ b' → okHs b H → okHs b' H := by
  intro H
  cases H with
  | nil => intro _ _ _ _; trivial
  | cons x H =>
    intro b b' hb h
    rcases h with h | ⟨h1, h2, h3⟩ | ⟨h1, h2, h3, h4, h5, h6⟩
    · exact Or.inl h
    · exact Or.inr (Or.inl ⟨h1, by omega, h3⟩)
    · exact Or.inr (Or.inr ⟨h1, h2, by omega, h4, h5, h6⟩)
def gg (b : Nat) : Nat := (if 1 < b then 1 else 0) + (if 2 < b then 1 else 0) + (if 4 < b then 1 else 0) + (if 5 < b then 1 else 0) + (if 6 < b then 1 else 0)
theorem bnd_6 (x : Nat) : bnd x ≤ 6 := by
  unfold bnd
  split <;> omega
theorem okHs_len : ∀ (H : List Nat) (b : Nat), okHs b H → H.length ≤ dep H + 2 * brk H + gg b := by
  intro H
  induction H with
  | nil => intro b _; exact Nat.zero_le _
  | cons x H ih =>
    intro b h
    show H.length + 1 ≤ dep (x :: H) + 2 * brk (x :: H) + gg b
    rcases h with ⟨rfl, h⟩ | ⟨rfl, h2, h3⟩ | ⟨h1, h2, h3, h4, h5, h6⟩
    · have := ih 4 h
      have g4 : gg 4 = 2 := by decide
      rw [dep_16, brk_16]
      omega
    · have := ih 4 h3
      have g4 : gg 4 = 2 := by decide
      have gb : 2 ≤ gg b := by unfold gg; rw [if_pos (by omega), if_pos (by omega)]; omega
      rw [dep_4, brk_4]
      omega
    · have := ih (bnd x) h6
      have hd : dep (x :: H) = dep H := by show dep H + (if x = 16 ∨ x = 4 then 1 else 0) = _; rw [if_neg (by omega)]; rfl
      have hk : brk (x :: H) = brk H := by show brk H + (if x = 16 then 1 else 0) = _; rw [if_neg h1]; rfl
      have h7 := bnd_6 x
      have gx : gg (bnd x) + 1 ≤ gg b := by
        generalize bnd x = y at h3 h4 h5 h7
        have : y = 1 ∨ y = 2 ∨ y = 4 ∨ y = 5 ∨ y = 6 := by omega
        unfold gg
        rcases this with rfl | rfl | rfl | rfl | rfl
        · rw [if_pos (show 1 < b by omega)]; simp; omega
        · rw [if_pos (show 1 < b by omega), if_pos (show 2 < b by omega)]; simp; omega
        · rw [if_pos (show 1 < b by omega), if_pos (show 2 < b by omega), if_pos (show 4 < b by omega)]; simp; omega
        · rw [if_pos (show 1 < b by omega), if_pos (show 2 < b by omega), if_pos (show 4 < b by omega), if_pos (show 5 < b by omega)]; simp
        · rw [if_pos (show 1 < b by omega), if_pos (show 2 < b by omega), if_pos (show 4 < b by omega), if_pos (show 5 < b by omega), if_pos (show 6 < b by omega)]; simp
      rw [hd, hk]
      omega
theorem okHs_st {b : Nat} : ∀ (H : List Nat) (k : Nat), okHs k H → okHs b (stR b H) := by
  intro H
  induction H with
  | nil => intro _ _; trivial
  | cons x H ih =>
    intro k h
    unfold stR
    by_cases hle : b ≤ bnd x
    · rw [if_pos hle]
      rcases h with ⟨h1, h⟩ | ⟨h1, h2, h3⟩ | ⟨h1, h2, h3, h4, h5, h6⟩
      · exact ih 4 h
      · exact ih 4 h3
      · exact ih _ h6
    · rw [if_neg hle]
      rcases h with h | ⟨h1, h2, h3⟩ | ⟨h1, h2, h3, h4, h5, h6⟩
      · exact Or.inl h
      · refine Or.inr (Or.inl ⟨h1, ?_, h3⟩)
        rw [h1] at hle
        have : bnd 4 = 3 := rfl
        omega
      · exact Or.inr (Or.inr ⟨h1, h2, by omega, h4, h5, h6⟩)
theorem okHs_el : ∀ (H : List Nat) (k : Nat), okHs k H → (∀ x ∈ H, x < 17) → elH H := by
  intro H
  induction H with
  | nil => intro _ _ _ x hx; exact absurd hx List.not_mem_nil
  | cons y H ih =>
    intro k h hl x hx
    have hl' : ∀ x ∈ H, x < 17 := fun z hz => hl z (List.mem_cons_of_mem _ hz)
    rcases h with ⟨h1, h⟩ | ⟨h1, h2, h3⟩ | ⟨h1, h2, h3, h4, h5, h6⟩
    · rcases List.mem_cons.mp hx with rfl | hx
      · omega
      · exact ih 4 h hl' x hx
    · rcases List.mem_cons.mp hx with rfl | hx
      · omega
      · exact ih 4 h3 hl' x hx
    · rcases List.mem_cons.mp hx with rfl | hx
      · refine ⟨?_, hl x List.mem_cons_self⟩
        refine Nat.not_lt.mp (fun hq => ?_)
        have : ∀ z, z < 4 → bnd z = 0 := by decide
        have := this x hq
        omega
      · exact ih _ h6 hl' x hx
theorem okHs_op : ∀ (P H : List Nat), (∀ x ∈ P, x = 4 ∨ x = 16) → okHs 4 H → okHs 4 (P ++ H) := by
  intro P
  induction P with
  | nil => intro H _ h; exact h
  | cons x P ih =>
    intro H hP h
    have := ih H (fun y hy => hP y (List.mem_cons_of_mem _ hy)) h
    rcases hP x List.mem_cons_self with rfl | rfl
    · exact Or.inr (Or.inl ⟨rfl, by omega, this⟩)
    · exact Or.inl ⟨rfl, this⟩
theorem okHs_pu {a b : Nat} {H : List Nat} (h : okHs b H) (ha : a ≠ 16 ∧ a ≠ 4) (hb : bnd a = b) (h1 : 1 ≤ b) (h3 : b ≠ 3) : okHs (b + 1) (a :: H) := Or.inr (Or.inr ⟨ha.1, ha.2, by omega, by omega, by omega, by rw [hb]; exact h⟩)
theorem okHs_cl {t : Nat → Int32} {n : Nat} : ∀ d (H : List Nat) (i : Nat), okHs 7 H → elH H → okHs 7 (clo t n d i H).2.2 := by
  intro d
  induction d with
  | zero => intro H i h _; exact h
  | succ d ih =>
    intro H i h he
    rw [clo_s]
    by_cases h0 : 0 < brk H
    · rw [if_pos h0]
      by_cases hc : sk t n i < n ∧ t (sk t n i) = 93
      · rw [if_pos hc]
        obtain ⟨H', p1, p2, p3, p4, p5⟩ := st1_16 H he h0
        have hs := okHs_st (b := 1) H 7 h
        rw [p1] at hs
        have h4 : okHs 4 H' := by
          rcases hs with ⟨-, h⟩ | ⟨h1, -⟩ | ⟨h1, -⟩
          · exact h
          · exact absurd h1 (by decide)
          · exact absurd rfl h1
        rw [p1]
        exact ih H' _ (okHs_mo _ 4 7 (by omega) h4) p4
      · rw [if_neg hc]; exact h
    · rw [if_neg h0]; exact h
end
noncomputable section
section CT3
variable {n m : Nat} {c : List (Nat × Nat)} {H : List Nat} {f : Int32}
theorem rk_cs {t : Nat → Int32} {j : Nat} (h : ¬ rk t n j = 0) : (rk t n j = 7 ∨ rk t n j = 8 ∨ rk t n j = 9 ∨ rk t n j = 10) ∧ j < n := by
  unfold rk at h ⊢
  by_cases h0 : j < n ∧ t j = 43
  · rw [if_pos h0]; exact ⟨by omega, h0.1⟩
  · rw [if_neg h0] at h ⊢
    by_cases h1 : j < n ∧ t j = 45
    · rw [if_pos h1]; exact ⟨by omega, h1.1⟩
    · rw [if_neg h1] at h ⊢
      by_cases h2 : j < n ∧ t j = 42
      · rw [if_pos h2]; exact ⟨by omega, h2.1⟩
      · rw [if_neg h2] at h ⊢
        by_cases h3 : j < n ∧ t j = 47
        · rw [if_pos h3]; exact ⟨by omega, h3.1⟩
        · rw [if_neg h3] at h; exact absurd rfl h
theorem jn_cs {t : Nat → Int32} {j : Nat} (hj : j ≤ n) (h : ¬ jn t n j = 0) : (jn t n j = 5 ∨ jn t n j = 6) ∧ j + jnL (jn t n j) ≤ n ∧ 2 ≤ jnL (jn t n j) := by
  unfold jn at h ⊢
  by_cases h0 : wat t n (mm_sb.getD 14 []) j = true
  · rw [if_pos h0]
    have : j + 3 ≤ n := wat_le hj h0
    exact ⟨by omega, this, by decide⟩
  · rw [if_neg h0] at h ⊢
    by_cases h1 : wat t n (mm_sb.getD 15 []) j = true
    · rw [if_pos h1]
      have : j + 2 ≤ n := wat_le hj h1
      exact ⟨by omega, this, by decide⟩
    · rw [if_neg h1] at h; exact absurd rfl h
theorem cm_cs {t : Nat → Int32} {j : Nat} (h : ¬ cm t n j = 0) : (11 ≤ cm t n j ∧ cm t n j ≤ 15) ∧ j + cmL (cm t n j) ≤ n ∧ 1 ≤ cmL (cm t n j) := by
  unfold cm at h ⊢
  by_cases h0 : j < n ∧ t j = 61
  · rw [if_pos h0]; exact ⟨by omega, by show j + 1 ≤ n; omega, by decide⟩
  · rw [if_neg h0] at h ⊢
    by_cases h1 : j < n ∧ t j = 60
    · rw [if_pos h1]
      by_cases h2 : j + 1 < n ∧ t (j + 1) = 61
      · rw [if_pos h2]; exact ⟨by omega, by show j + 2 ≤ n; omega, by decide⟩
      · rw [if_neg h2]; exact ⟨by omega, by show j + 1 ≤ n; omega, by decide⟩
    · rw [if_neg h1] at h ⊢
      by_cases h3 : j < n ∧ t j = 62
      · rw [if_pos h3]
        by_cases h2 : j + 1 < n ∧ t (j + 1) = 61
        · rw [if_pos h2]; exact ⟨by omega, by show j + 2 ≤ n; omega, by decide⟩
        · rw [if_neg h2]; exact ⟨by omega, by show j + 1 ≤ n; omega, by decide⟩
      · rw [if_neg h3] at h; exact absurd rfl h
/-- what holds between turns -/
def oTS (n : Nat) (x : TS) : Prop := x.2.2.1 ≤ 60 ∧ (∀ y ∈ x.2.2.2.2.1, y < 17) ∧ dep x.2.2.2.2.1 ≤ 10 ∧ x.2.2.2.1.length + x.2.2.2.2.1.length ≤ x.2.2.2.2.2 ∧ x.2.2.2.2.2 ≤ n ∧ okHs (if x.1 = true then 4 else 7) x.2.2.2.2.1
theorem mem17 {b a : Nat} (ha : a < 17) (h : ∀ y ∈ H, y < 17) : ∀ y ∈ a :: stR b H, y < 17 := fun y hy => by
  rcases List.mem_cons.mp hy with rfl | hy
  · exact ha
  · exact h y (stR_mem H hy)
theorem dep_pu {a : Nat} (h : a ≠ 4 ∧ a ≠ 16) : dep (a :: H) = dep H := by
  show dep H + (if a = 16 ∨ a = 4 then 1 else 0) = _
  rw [if_neg (by omega)]; rfl
/-- settling, then holding a sign that joins -/
theorem ca_sh {S : fS} {a b : Nat} {i s : Int32} (hb : bnd a = b) (ha : 5 ≤ a ∧ a < 16) (hR : RC S m c H) (hx : ∀ y ∈ H, y < 17) (hL : H.length ≤ 50) (hD : dep H ≤ 10) (hcl : c.length + H.length ≤ 400) : ∃ S', ((f_X5_settle (o3 b) (tS S i s f)).bind fun y => f_X5_hold (o3 a) y) = some (tS S' i s f) ∧ RC S' m (c ++ stO b H) (a :: stR b H) ∧ eQ S S' := by
  have hb1 : 1 ≤ b ∧ b < 10 := by
    have : ∀ a, a < 16 → 5 ≤ a → 1 ≤ bnd a ∧ bnd a < 10 := by decide
    have := this a ha.2 ha.1
    omega
  obtain ⟨S1, e1, e2, e3⟩ := cq_settle (i := i) (s := s) (f := f) (b := b) hb1.1 hb1.2 hR hx (by omega) (by omega) hcl
  have hlen := stR_len (b := b) H
  obtain ⟨S2, g1, g2, g3⟩ := cq_join (i := i) (s := s) (f := f) (a := a) e2 (by omega) (by omega)
  refine ⟨S2, ?_, g2, e3.tr g3⟩
  rw [e1, bd_some, g1]
theorem ca_sh' {S : fS} {a : Nat} {i s : Int32} {β : Type} {F : fS → Option β} (ha : 5 ≤ a ∧ a < 16) (hR : RC S m c H) (hx : ∀ y ∈ H, y < 17) (hL : H.length ≤ 50) (hD : dep H ≤ 10) (hcl : c.length + H.length ≤ 400) : ∃ S', ((gB (o3 a)).bind fun a22 => (f_X5_settle a22 (tS S i s f)).bind fun q25 => (f_X5_hold (o3 a) q25).bind F) = F (tS S' i s f) ∧ RC S' m (c ++ stO (bnd a) H) (a :: stR (bnd a) H) ∧ eQ S S' := by
  obtain ⟨S', e1, e2, e3⟩ := ca_sh (i := i) (s := s) (f := f) (a := a) (b := bnd a) rfl ha hR hx hL hD hcl
  refine ⟨S', ?_, e2, e3⟩
  rw [gB_o (by omega), bd_some]
  cases hs : f_X5_settle (o3 (bnd a)) (tS S i s f) with
  | none => rw [hs] at e1; exact absurd e1 (by intro h; exact mm_no h)
  | some q =>
    rw [hs, bd_some] at e1
    rw [bd_some, e1, bd_some]
theorem ok_len {k : Nat} (h : okHs k H) (hk : k ≤ 7) (hD : dep H ≤ 10) : H.length ≤ 40 := by
  have h1 := okHs_len H 7 (okHs_mo H k 7 hk h)
  have h2 := brk_dep H
  have h3 : gg 7 = 5 := by decide
  omega
theorem bnd_ok : ∀ a, a < 16 → 5 ≤ a → bnd a ≠ 3 ∧ 1 ≤ bnd a ∧ bnd a ≤ 6 := by decide
theorem ca_aft {S : fS} {K : fS → Option (Int32 × fS)} {nn i p : Nat} {s : Int32} {cp : Bool} (hn : S.1 1 1 = o3 n) (hl : n ≤ 400) (hR : RC S m c H) (hm : m ≤ 60) (hx : ∀ y ∈ H, y < 17) (hD : dep H ≤ 10) (hcl : c.length + H.length ≤ i) (hi : i ≤ n) (hok : okHs 7 H) :
    (∃ r S' i' s', aft (S.1 2) n cp m c H i = .inl r ∧ tA K nn (if cp = true then 1 else 0) (o3 p) (tS S (o3 i) s f) = some (if r.1 = 0 then (1, tS S' (o3 r.2.1) s' f) else (0, tS S' i' s' (o3 r.1))) ∧ eQ S S' ∧ (r.1 = 0 → r.2.1 ≤ n ∧ i ≤ r.2.1 ∧ r.2.2.1 = m ∧ r.2.2.2.length ≤ r.2.1 ∧ ∃ H', RC S' m r.2.2.2 H')) ∨
    (∃ y S' s' z, aft (S.1 2) n cp m c H i = .inr y ∧ tA K nn (if cp = true then 1 else 0) (o3 p) (tS S (o3 i) s f) = lp_X5_readTest_21 K nn (if y.1 = true then 1 else 0) z (o3 (p + 1)) (tS S' (o3 y.2.2.2.2.2) s' f) ∧ (y.1 = true ∨ z = if y.2.1 = true then 1 else 0) ∧ eQ S S' ∧ RC S' y.2.2.1 y.2.2.2.1 y.2.2.2.2.1 ∧ oTS n y ∧ i < y.2.2.2.2.2) := by
  have hj := sk_le (t := S.1 2) hi
  have hg := sk_ge (t := S.1 2) (n := n) (i := i)
  have hL := ok_len hok (by omega) hD
  have hel := okHs_el H 7 hok hx
  have hid := sk_id (t := S.1 2) (n := n) (i := i)
  unfold tA aft
  rw [cs_reck hn hl hi, bd_some]
  generalize sk (S.1 2) n i = j at hj hg hid
  by_cases hr : rk (S.1 2) n j = 0
  · rw [if_pos hr, if_pos hr]
    dsimp only
    rw [if_neg (show ¬ (0 : Int32) ≤ -1 by decide)]
    cases cp with
    | false =>
      rw [if_pos (show (if false = true then (1 : Int32) else 0) = 0 from rfl), if_neg (show ¬ (false = true) by decide), cs_cmp hn hl hj, bd_some, hid]
      by_cases hc : cm (S.1 2) n j = 0
      · rw [if_pos hc, if_pos hc]
        dsimp only
        rw [if_neg (show ¬ (0 : Int32) ≤ -1 by decide), ct_fail, bd_some, tS_2, tS_fa, show (1 : Int32) = o3 1 from rfl, show (8 : Int32) = o3 8 from rfl, show (0 : Int32) = o3 0 from rfl, o3_mul, o3_add, o3_add]
        refine Or.inl ⟨_, S, o3 j, s, rfl, ?_, eQ.rf, fun q => absurd q (show ¬ (1 + 8 * j = 0) by omega)⟩
        rw [if_neg (show ¬ (1 + 8 * j = 0) by omega)]
        rfl
      · obtain ⟨hc1, hc2, hc3⟩ := cm_cs hc
        rw [if_neg hc, if_neg hc]
        dsimp only
        rw [if_pos (o3_0le (by omega)), cv_room hR.1 hm, bd_some]
        by_cases h60 : 60 ≤ m
        · rw [if_pos h60, if_pos h60]
          dsimp only
          rw [if_pos (show (0 : Int32) = 0 from rfl)]
          refine Or.inl ⟨_, S, o3 (j + cmL (cm (S.1 2) n j)), o3 j, rfl, ?_, eQ.rf, fun q => absurd q (show ¬ (1 + 8 * j + 3 = 0) by omega)⟩
          rw [if_neg (show ¬ (1 + 8 * j + 3 = 0) by omega)]
        · rw [if_neg h60, if_neg h60]
          dsimp only
          rw [if_neg (show ¬ (1 : Int32) = 0 by decide)]
          have hb4 : bnd (cm (S.1 2) n j) = 4 := (show ∀ a, a < 16 → 11 ≤ a → bnd a = 4 by decide) _ (by omega) (by omega)
          obtain ⟨S', e1, e2, e3⟩ := ca_sh' (i := o3 (j + cmL (cm (S.1 2) n j))) (s := o3 j) (f := f) (a := cm (S.1 2) n j) (F := fun q45 => lp_X5_readTest_21 K nn (0 : Int32) (1 : Int32) (o3 p + (1 : Int32)) q45) (by omega) (RC_3 (x := m + 1) hR) hx (by omega) hD (by omega)
          rw [e1, o3_s]
          rw [hb4] at e2
          have hlen := stR_len (b := 4) H
          refine Or.inr ⟨_, S', o3 j, 1, rfl, rfl, Or.inr rfl, (eQ_pI (by unfold wQ; omega)).tr e3, e2, ⟨by show m + 1 ≤ 60; omega, mem17 (by omega) hx, ?_, ?_, hc2, ?_⟩, by show i < j + cmL (cm (S.1 2) n j); omega⟩
          · show dep (cm (S.1 2) n j :: stR 4 H) ≤ 10
            rw [dep_pu (by omega)]
            exact Nat.le_trans (stR_dep H) hD
          · show (c ++ stO 4 H).length + (stR 4 H).length.succ ≤ j + cmL (cm (S.1 2) n j)
            rw [List.length_append]
            omega
          · exact okHs_mo _ _ 7 (by omega) (okHs_pu (okHs_st H 7 hok) (by omega) hb4 (by omega) (by omega))
    | true =>
      rw [if_neg (show ¬ (if true = true then (1 : Int32) else 0) = 0 by decide), if_pos rfl]
      obtain ⟨S1, s1, e1, e2, e3⟩ := cb_close (f := f) hl (K := fun S24 => some S24) (brk H) FU c H S j s hn rfl hR hel rfl (by omega) hD (by omega) hj (FU_lt (by have := brk_dep H; omega))
      obtain ⟨q1, q2, q3, q4, q5⟩ := clo_pr (n := n) (t := S.1 2) (brk H + 1) H j hel (by omega) hj
      have hok1 := okHs_cl (t := S.1 2) (n := n) (brk H + 1) H j hok hel
      have hn1 : S1.1 1 1 = o3 n := by rw [e2.1 1 1 (by unfold wQ; omega)]; exact hn
      have ht1 : S1.1 2 = S.1 2 := funext fun k => e2.1 2 k (by unfold wQ; omega)
      unfold f_X5_closeBrackets
      rw [e1, bd_some, cs_join hn1 hl q5, bd_some, ht1]
      generalize clo (S.1 2) n (brk H + 1) j H = Q at e3 q1 q2 q3 q4 q5 hok1
      have hj2 := sk_le (t := S.1 2) q5
      have hg2 := sk_ge (t := S.1 2) (n := n) (i := Q.2.1)
      generalize sk (S.1 2) n Q.2.1 = e at hj2 hg2
      have hx1 : ∀ y ∈ Q.2.2, y < 17 := fun y hy => (q1 y hy).2
      have hL1 := ok_len hok1 (by omega) (by omega)
      have hcl1 : (c ++ Q.1).length = c.length + Q.1.length := List.length_append
      by_cases hjn : jn (S.1 2) n e = 0
      · rw [if_pos hjn, if_pos hjn]
        dsimp only
        rw [if_neg (show ¬ (0 : Int32) ≤ -1 by decide)]
        unfold f_X5_isTestOver
        rw [show (6 : Int32) = o3 6 from rfl, gB_o (by omega), bd_some, show bnd 6 = 1 from rfl]
        obtain ⟨S2, g1, g2, g3⟩ := cq_settle (i := o3 e) (s := s1) (f := f) (b := 1) (by omega) (by omega) e3 hx1 (by omega) (by omega) (by omega)
        rw [g1, bd_some, tS_ne (by omega), g2.2.2.1, stR_brk (by omega)]
        have hlen := stR_len (b := 1) Q.2.2
        by_cases hb0 : brk Q.2.2 = 0
        · rw [if_pos (show o3 _ = (0 : Int32) from (o3_inj (b := 0) (by have := brk_dep Q.2.2; omega) (by omega)).mpr hb0), if_pos hb0]
          refine Or.inl ⟨_, S2, 0, s1, rfl, rfl, e2.tr g3, fun _ => ⟨hj2, by show i ≤ e; omega, rfl, ?_, _, g2⟩⟩
          show (c ++ Q.1 ++ stO 1 Q.2.2).length ≤ e
          rw [List.length_append]
          omega
        · rw [if_neg (show ¬ o3 _ = (0 : Int32) from fun q => hb0 ((o3_inj (b := 0) (by have := brk_dep Q.2.2; omega) (by omega)).mp q)), if_neg hb0, ct_fail, bd_some, tS_2, tS_fa, show (1 : Int32) = o3 1 from rfl, show (8 : Int32) = o3 8 from rfl, show (0 : Int32) = o3 0 from rfl, o3_mul, o3_add, o3_add]
          refine Or.inl ⟨_, S2, o3 e, s1, rfl, ?_, e2.tr g3, fun q => absurd q (show ¬ (1 + 8 * e = 0) by omega)⟩
          rw [if_neg (show ¬ (1 + 8 * e = 0) by omega)]
          rfl
      · obtain ⟨hjn1, hjn2, hjn3⟩ := jn_cs hj2 hjn
        rw [if_neg hjn, if_neg hjn]
        dsimp only
        rw [if_pos (o3_0le (by omega))]
        obtain ⟨S2, g1, g2, g3⟩ := ca_sh' (i := o3 (e + jnL (jn (S.1 2) n e))) (s := o3 e) (f := f) (a := jn (S.1 2) n e) (F := fun q69 => lp_X5_readTest_21 K nn (1 : Int32) (1 : Int32) (o3 p + (1 : Int32)) q69) (by omega) e3 hx1 (by omega) (by omega) (by omega)
        have g1' : ((gB (o3 (jn (S.1 2) n e))).bind fun a63 => (f_X5_settle a63 (tS S1 (o3 (e + jnL (jn (S.1 2) n e))) (o3 e) f)).bind fun q66 => (f_X5_hold (o3 (jn (S.1 2) n e)) q66).bind fun q69 => lp_X5_readTest_21 K nn (1 : Int32) (1 : Int32) (o3 p + (1 : Int32)) q69) = lp_X5_readTest_21 K nn 1 1 (o3 p + 1) (tS S2 (o3 (e + jnL (jn (S.1 2) n e))) (o3 e) f) := g1
        rw [if_pos rfl, g1', o3_s]
        have hlen := stR_len (b := bnd (jn (S.1 2) n e)) Q.2.2
        have hbo := bnd_ok (jn (S.1 2) n e) (by omega) (by omega)
        have hbj : bnd (jn (S.1 2) n e) ≤ 2 := by rcases hjn1 with h | h <;> rw [h] <;> decide
        refine Or.inr ⟨_, S2, o3 e, 1, rfl, rfl, Or.inl rfl, e2.tr g3, g2, ⟨hm, mem17 (by omega) hx1, ?_, ?_, hjn2, ?_⟩, by show i < e + jnL (jn (S.1 2) n e); omega⟩
        · show dep (jn (S.1 2) n e :: stR _ Q.2.2) ≤ 10
          rw [dep_pu (by omega)]
          exact Nat.le_trans (stR_dep Q.2.2) (by omega)
        · show (c ++ Q.1 ++ stO _ Q.2.2).length + (stR _ Q.2.2).length.succ ≤ e + jnL (jn (S.1 2) n e)
          rw [List.length_append]
          omega
        · exact okHs_mo _ _ 4 (by omega) (okHs_pu (okHs_st Q.2.2 7 hok1) (by omega) rfl hbo.2.1 hbo.1)
  · obtain ⟨hr1, hr2⟩ := rk_cs hr
    rw [if_neg hr, if_neg hr]
    dsimp only
    refine Or.inr ?_
    rw [if_pos (o3_0le (by omega))]
    obtain ⟨S', e1, e2, e3⟩ := ca_sh' (i := o3 (j + 1)) (s := o3 j) (f := f) (a := rk (S.1 2) n j) (F := fun q28 => lp_X5_readTest_21 K nn (0 : Int32) (if cp = true then 1 else 0) (o3 p + (1 : Int32)) q28) (by omega) hR hx (by omega) hD (by omega)
    rw [e1, o3_s]
    have hlen := stR_len (b := bnd (rk (S.1 2) n j)) H
    have hbo := bnd_ok (rk (S.1 2) n j) (by omega) (by omega)
    refine ⟨_, S', o3 j, _, rfl, rfl, Or.inr rfl, e3, e2, ⟨hm, mem17 (by omega) hx, ?_, ?_, by show j + 1 ≤ n; omega, ?_⟩, by show i < j + 1; omega⟩
    · show dep (rk (S.1 2) n j :: stR _ H) ≤ 10
      rw [dep_pu (by omega)]
      exact Nat.le_trans (stR_dep H) hD
    · show (c ++ stO _ H).length + (stR _ H).length.succ ≤ j + 1
      rw [List.length_append]
      omega
    · exact okHs_mo _ _ 7 (by omega) (okHs_pu (okHs_st H 7 hok) (by omega) rfl hbo.2.1 hbo.1)
end CT3
end
noncomputable section
section CT4
variable {n m : Nat} {c : List (Nat × Nat)} {H : List Nat} {f : Int32}
theorem vl_gt {t : Nat → Int32} {j : Nat} (hj : j ≤ n) (hs : sk t n j = j) (h : vlF t n m j = 0) : j < vlP t n j ∧ vlP t n j ≤ n ∧ m < 60 := by
  unfold vlF at h
  unfold vlP
  by_cases hd : 0 < dl t n j
  · rw [if_pos hd] at h ⊢
    by_cases h0 : nmf t n j 0 99999 = 0
    · rw [if_pos h0] at h
      by_cases h60 : 60 ≤ m
      · rw [if_pos h60] at h; omega
      · exact ⟨nmp_gt h0, nmp_le hj, by omega⟩
    · rw [if_neg h0] at h; exact absurd h h0
  · rw [if_neg hd] at h ⊢
    by_cases h8 : nmI t n j < 8
    · rw [if_pos h8] at h
      have hw := nmI_wat h8
      have hle := wat_le hj hw
      have hpos := (mw_l (6 + nmI t n j) (by omega)).1
      by_cases h60 : 60 ≤ m
      · rw [if_pos h60] at h; omega
      · unfold nmL
        exact ⟨by omega, hle, by omega⟩
    · rw [if_neg h8] at h; omega
theorem vl_fl {t : Nat → Int32} {j : Nat} (hj : j ≤ n) : vlF t n m j ≤ 8 * n + 10 := by
  have := nmf_le (t := t) (lo := 0) (hi := 99999) hj
  unfold vlF
  split
  · split
    · split <;> omega
    · omega
  · split
    · split <;> omega
    · omega
theorem cr_val {S : fS} {K : fS → Option (Int32 × fS)} {nn i p : Nat} {s : Int32} {cp : Bool} (hn : S.1 1 1 = o3 n) (hl : n ≤ 400) (hR : RC S m c H) (hm : m ≤ 60) (hx : ∀ y ∈ H, y < 17) (hD : dep H ≤ 10) (hcl : c.length + H.length ≤ i) (hi : i ≤ n) (hok : okHs 7 H) :
    (∃ r S' i' s', tval (S.1 2) n cp m c H i = .inl r ∧ ((f_X5_readValue (tS S (o3 i) s f)).bind fun q12 => if q12.1 = (0 : Int32) then (some ((0 : Int32), q12.2)) else tA K nn (if cp = true then 1 else 0) (o3 p) q12.2) = some (if r.1 = 0 then (1, tS S' (o3 r.2.1) s' f) else (0, tS S' i' s' (o3 r.1))) ∧ eQ S S' ∧ (r.1 = 0 → r.2.1 ≤ n ∧ i < r.2.1 ∧ r.2.2.1 ≤ 60 ∧ r.2.2.2.length ≤ r.2.1 ∧ ∃ H', RC S' r.2.2.1 r.2.2.2 H')) ∨
    (∃ y S' s' z, tval (S.1 2) n cp m c H i = .inr y ∧ ((f_X5_readValue (tS S (o3 i) s f)).bind fun q12 => if q12.1 = (0 : Int32) then (some ((0 : Int32), q12.2)) else tA K nn (if cp = true then 1 else 0) (o3 p) q12.2) = lp_X5_readTest_21 K nn (if y.1 = true then 1 else 0) z (o3 (p + 1)) (tS S' (o3 y.2.2.2.2.2) s' f) ∧ (y.1 = true ∨ z = if y.2.1 = true then 1 else 0) ∧ eQ S S' ∧ RC S' y.2.2.1 y.2.2.2.1 y.2.2.2.2.1 ∧ oTS n y ∧ i + 2 ≤ y.2.2.2.2.2) := by
  have hj := sk_le (t := S.1 2) hi
  have hg := sk_ge (t := S.1 2) (n := n) (i := i)
  have hid := sk_id (t := S.1 2) (n := n) (i := i)
  obtain ⟨S1, i1, s1, e1, e2, e3⟩ := cv_value (s := s) (f := f) hn hl hR hm hi (fun hv => by have := vl_gt hj hid hv; omega)
  unfold tval
  rw [e1, bd_some]
  by_cases hv : vlF (S.1 2) n m (sk (S.1 2) n i) = 0
  · rw [if_pos hv, if_pos hv]
    dsimp only
    rw [if_neg (show ¬ (1 : Int32) = 0 by decide)]
    obtain ⟨v1, v2, v3⟩ := vl_gt hj hid hv
    have hn1 : S1.1 1 1 = o3 n := by rw [e2.1 1 1 (by unfold wQ; omega)]; exact hn
    have ht1 : S1.1 2 = S.1 2 := funext fun k => e2.1 2 k (by unfold wQ; omega)
    rcases ca_aft (K := K) (nn := nn) (p := p) (s := s1) (f := f) (cp := cp) hn1 hl (e3 hv) (by omega) hx hD (by rw [ln_app]; omega) v2 hok with ⟨r, S2, i2, s2, g1, g2, g3, g4⟩ | ⟨y, S2, s2, z, g1, g2, g3, g4, g5, g6, g7⟩
    · rw [ht1] at g1
      exact Or.inl ⟨r, S2, i2, s2, g1, g2, e2.tr g3, fun q => by
        obtain ⟨a1, a2, a3, a4, H', a5⟩ := g4 q
        exact ⟨a1, by omega, by omega, a4, H', by rw [a3]; exact a5⟩⟩
    · rw [ht1] at g1
      exact Or.inr ⟨y, S2, s2, z, g1, g2, g3, e2.tr g4, g5, g6, by omega⟩
  · rw [if_neg hv, if_neg hv]
    dsimp only
    rw [if_pos (show (0 : Int32) = 0 from rfl)]
    exact Or.inl ⟨_, S1, i1, s1, rfl, by rw [if_neg hv], e2, fun q => absurd q hv⟩
theorem run_s {t : Nat → Int32} {F : Nat} {x : TS} : run t n (F + 1) x = match stp t n x with
    | .inl r => r
    | .inr y => run t n F y := rfl
theorem cr_run (hl : n ≤ 400) {K : fS → Option (Int32 × fS)} {t : Nat → Int32} : ∀ F (x : TS) (S : fS) (s z : Int32) (p nn : Nat), S.1 1 1 = o3 n → S.1 2 = t → RC S x.2.2.1 x.2.2.2.1 x.2.2.2.2.1 → oTS n x → (x.1 = true ∨ z = if x.2.1 = true then 1 else 0) → n < x.2.2.2.2.2 + F → F < nn → 2 * p ≤ x.2.2.2.2.2 → ∃ S' i' s', lp_X5_readTest_21 K nn (if x.1 = true then 1 else 0) z (o3 p) (tS S (o3 x.2.2.2.2.2) s f) = some (if (run t n F x).1 = 0 then (1, tS S' (o3 (run t n F x).2.1) s' f) else (0, tS S' i' s' (o3 (run t n F x).1))) ∧ eQ S S' ∧ ((run t n F x).1 = 0 → (run t n F x).2.1 ≤ n ∧ x.2.2.2.2.2 < (run t n F x).2.1 ∧ (run t n F x).2.2.1 ≤ 60 ∧ (run t n F x).2.2.2.length ≤ (run t n F x).2.1 ∧ ∃ H', RC S' (run t n F x).2.2.1 (run t n F x).2.2.2 H') := by
  intro F
  induction F with
  | zero => intro x S s z p nn hn ht hR ho hz hF hnn hp; exact absurd ho.2.2.2.2.1 (by omega)
  | succ F ih =>
    intro x S s z p nn hn ht hR ho hz hF hnn hp
    subst ht
    obtain ⟨nn, rfl⟩ : ∃ n', nn = n' + 1 := ⟨nn - 1, by omega⟩
    obtain ⟨o1, o2, o3', o4, o5, o6⟩ := ho
    obtain ⟨due, cp, m, c, H, i⟩ := x
    dsimp only at hR hz hF hp o1 o2 o3' o4 o5 o6 ⊢
    rw [tA_eq, if_neg (show ¬ (400 : Int32) ≤ o3 _ from fun q => by have := (o3_le (a := 400) (by omega) (by omega)).mp q; omega), run_s]
    cases due with
    | false =>
      have hz : z = if cp = true then 1 else 0 := hz.resolve_left (by decide)
      subst hz
      have hst : stp (S.1 2) n (false, cp, m, c, H, i) = tval (S.1 2) n cp m c H i := rfl
      rw [if_pos (show (if false = true then (1 : Int32) else 0) = 0 from rfl), hst]
      rcases cr_val (K := K) (nn := nn) (p := p) (s := s) (f := f) (cp := cp) hn hl hR o1 o2 o3' o4 o5 o6 with ⟨r, S2, i2, s2, g1, g2, g3, g4⟩ | ⟨y, S2, s2, z2, g1, g2, g3, g4, g5, g6, g7⟩
      · rw [g1, g2]
        exact ⟨S2, i2, s2, rfl, g3, g4⟩
      · rw [g1, g2]
        dsimp only
        obtain ⟨S3, i3, s3, k1, k2, k3⟩ := ih y S2 s2 z2 (p + 1) nn (by rw [g4.1 1 1 (by unfold wQ; omega)]; exact hn) (funext fun k => g4.1 2 k (by unfold wQ; omega)) g5 g6 g3 (by omega) (by omega) (by omega)
        exact ⟨S3, i3, s3, k1, g4.tr k2, fun q => by
          obtain ⟨a1, a2, a3⟩ := k3 q
          exact ⟨a1, by omega, a3⟩⟩
    | true =>
      have o6 : okHs 4 H := o6
      have hL := ok_len o6 (by omega) o3'
      rw [if_neg (show ¬ (if true = true then (1 : Int32) else 0) = 0 by decide)]
      obtain ⟨S1, i1, s1, e1, e2, e3⟩ := co_open (f := f) hl (K := fun S76 => some ((0 : Int32), S76)) (10 - dep H) 0 FU H S i s hn rfl hR (by omega) (by omega) (by omega) o5 (FU_lt (by omega))
      rw [show 10 - dep H + 1 = 11 - dep H by omega] at e1 e3
      have hst : stp (S.1 2) n (true, cp, m, c, H, i) = if (opn (S.1 2) n (11 - dep H) i H).1 = 0 then tval (S.1 2) n false m c (opn (S.1 2) n (11 - dep H) i H).2.2 (opn (S.1 2) n (11 - dep H) i H).2.1 else .inl ((opn (S.1 2) n (11 - dep H) i H).1, 0, 0, []) := rfl
      have e1' : f_X5_readOpenings (tS S (o3 i) s f) = some (if (opn (S.1 2) n (11 - dep H) i H).1 = 0 then (1, tS S1 (o3 (opn (S.1 2) n (11 - dep H) i H).2.1) s1 f) else (0, tS S1 i1 s1 (o3 (opn (S.1 2) n (11 - dep H) i H).1))) := e1
      rw [hst, e1', bd_some]
      have hpr := opn_pr (t := S.1 2) (n := n) (11 - dep H) i H o5 o3'
      generalize opn (S.1 2) n (11 - dep H) i H = Q at e3 hpr
      have hn1 : S1.1 1 1 = o3 n := by rw [e2.1 1 1 (by unfold wQ; omega)]; exact hn
      have ht1 : S1.1 2 = S.1 2 := funext fun k => e2.1 2 k (by unfold wQ; omega)
      by_cases hq : Q.1 = 0
      · rw [if_pos hq, if_pos hq]
        dsimp only
        rw [if_neg (show ¬ (1 : Int32) = 0 by decide)]
        obtain ⟨P, p1, p2, p3, p4, p5, p6⟩ := hpr hq
        have hx1 : ∀ y ∈ Q.2.2, y < 17 := fun y hy => by
          rw [p1] at hy
          rcases List.mem_append.mp hy with hy | hy
          · have := p2 y hy; omega
          · exact o2 y hy
        have hok1 : okHs 7 Q.2.2 := by rw [p1]; exact okHs_mo _ 4 7 (by omega) (okHs_op P H p2 o6)
        have hlen1 : Q.2.2.length = P.length + H.length := by rw [p1, List.length_append]
        rcases cr_val (K := K) (nn := nn) (p := p) (s := s1) (f := f) (cp := false) hn1 hl (e3 hq) o1 hx1 p3 (by omega) p5 hok1 with ⟨r, S2, i2, s2, g1, g2, g3, g4⟩ | ⟨y, S2, s2, z2, g1, g2, g3, g4, g5, g6, g7⟩
        · rw [ht1] at g1
          rw [if_neg (show ¬ (false = true) by decide)] at g2
          rw [g1, g2]
          dsimp only
          exact ⟨S2, i2, s2, rfl, e2.tr g3, fun q => by
            obtain ⟨a1, a2, a3⟩ := g4 q
            exact ⟨a1, by omega, a3⟩⟩
        · rw [ht1] at g1
          rw [if_neg (show ¬ (false = true) by decide)] at g2
          rw [g1, g2]
          dsimp only
          have hE := e2.tr g4
          obtain ⟨S3, i3, s3, k1, k2, k3⟩ := ih y S2 s2 z2 (p + 1) nn (by rw [hE.1 1 1 (by unfold wQ; omega)]; exact hn) (funext fun k => hE.1 2 k (by unfold wQ; omega)) g5 g6 g3 (by omega) (by omega) (by omega)
          exact ⟨S3, i3, s3, k1, hE.tr k2, fun q => by
            obtain ⟨a1, a2, a3⟩ := k3 q
            exact ⟨a1, by omega, a3⟩⟩
      · rw [if_neg hq, if_neg hq]
        dsimp only
        rw [if_pos (show (0 : Int32) = 0 from rfl)]
        exact ⟨S1, i1, s1, by rw [if_neg hq], e2, fun q => absurd q hq⟩
end CT4
end
noncomputable section
/-! what was written before stands ahead, and matters to nothing else -/
def pre (c0 : List (Nat × Nat)) (r : TR) : TR := if r.1 = 0 then (r.1, r.2.1, r.2.2.1, c0 ++ r.2.2.2) else r
def preS (c0 : List (Nat × Nat)) (x : TR ⊕ TS) : TR ⊕ TS := match x with
  | .inl r => .inl (pre c0 r)
  | .inr y => .inr (y.1, y.2.1, y.2.2.1, c0 ++ y.2.2.2.1, y.2.2.2.2)
theorem aft_pre {t : Nat → Int32} {n m i : Nat} {cp : Bool} {c0 c : List (Nat × Nat)} {H : List Nat} : aft t n cp m (c0 ++ c) H i = preS c0 (aft t n cp m c H i) := by
  unfold aft
  generalize clo t n (brk H + 1) (sk t n i) H = Q
  by_cases h1 : rk t n (sk t n i) = 0
  · rw [if_pos h1, if_pos h1]
    by_cases h2 : cp = true
    · rw [if_pos h2, if_pos h2]
      by_cases h3 : jn t n (sk t n Q.2.1) = 0
      · rw [if_pos h3, if_pos h3]
        by_cases h4 : brk Q.2.2 = 0
        · rw [if_pos h4, if_pos h4]
          show _ = Sum.inl (pre c0 (0, sk t n Q.2.1, m, c ++ Q.1 ++ stO 1 Q.2.2))
          unfold pre
          rw [if_pos rfl, List.append_assoc, List.append_assoc, List.append_assoc]
        · rw [if_neg h4, if_neg h4]
          show _ = Sum.inl (pre c0 (1 + 8 * sk t n Q.2.1, 0, 0, []))
          unfold pre
          rw [if_neg (show ¬ (1 + 8 * sk t n Q.2.1 = 0) by omega)]
      · rw [if_neg h3, if_neg h3]
        show _ = Sum.inr (_, _, _, c0 ++ (c ++ Q.1 ++ stO _ Q.2.2), _)
        rw [List.append_assoc, List.append_assoc, List.append_assoc]
    · rw [if_neg h2, if_neg h2]
      by_cases h3 : cm t n (sk t n i) = 0
      · rw [if_pos h3, if_pos h3]
        show _ = Sum.inl (pre c0 (1 + 8 * sk t n i, 0, 0, []))
        unfold pre
        rw [if_neg (show ¬ (1 + 8 * sk t n i = 0) by omega)]
      · rw [if_neg h3, if_neg h3]
        by_cases h4 : 60 ≤ m
        · rw [if_pos h4, if_pos h4]
          show _ = Sum.inl (pre c0 (1 + 8 * sk t n i + 3, 0, 0, []))
          unfold pre
          rw [if_neg (show ¬ (1 + 8 * sk t n i + 3 = 0) by omega)]
        · rw [if_neg h4, if_neg h4]
          show _ = Sum.inr (_, _, _, c0 ++ (c ++ stO 4 H), _)
          rw [List.append_assoc]
  · rw [if_neg h1, if_neg h1]
    show _ = Sum.inr (_, _, _, c0 ++ (c ++ stO _ H), _)
    rw [List.append_assoc]
theorem tval_pre {t : Nat → Int32} {n m i : Nat} {cp : Bool} {c0 c : List (Nat × Nat)} {H : List Nat} : tval t n cp m (c0 ++ c) H i = preS c0 (tval t n cp m c H i) := by
  unfold tval
  by_cases h1 : vlF t n m (sk t n i) = 0
  · rw [if_pos h1, if_pos h1, List.append_assoc, aft_pre]
  · rw [if_neg h1, if_neg h1]
    show _ = Sum.inl (pre c0 (vlF t n m (sk t n i), 0, 0, []))
    unfold pre
    rw [if_neg h1]
theorem stp_pre {t : Nat → Int32} {n m i : Nat} {due cp : Bool} {c0 c : List (Nat × Nat)} {H : List Nat} : stp t n (due, cp, m, c0 ++ c, H, i) = preS c0 (stp t n (due, cp, m, c, H, i)) := by
  unfold stp
  dsimp only
  generalize opn t n (11 - dep H) i H = Q
  by_cases h1 : due = true
  · rw [if_pos h1, if_pos h1]
    by_cases h2 : Q.1 = 0
    · rw [if_pos h2, if_pos h2, tval_pre]
    · rw [if_neg h2, if_neg h2]
      show _ = Sum.inl (pre c0 (Q.1, 0, 0, []))
      unfold pre
      rw [if_neg h2]
  · rw [if_neg h1, if_neg h1, tval_pre]
theorem run_pre {t : Nat → Int32} {n : Nat} {c0 : List (Nat × Nat)} : ∀ F due cp m c H i, run t n F (due, cp, m, c0 ++ c, H, i) = pre c0 (run t n F (due, cp, m, c, H, i)) := by
  intro F
  induction F with
  | zero => intro due cp m c H i; rfl
  | succ F ih =>
    intro due cp m c H i
    rw [run_s, run_s, stp_pre]
    cases hs : stp t n (due, cp, m, c, H, i) with
    | inl r => rfl
    | inr y =>
      obtain ⟨y1, y2, y3, y4, y5, y6⟩ := y
      exact ih y1 y2 y3 y4 y5 y6
/-! a rule: clauses; each a floor, and what is written of its test -/
abbrev Cl : Type := Nat × Option (List (Nat × Nat))
/-- a clause: fault, place, made, the clause -/
def rcl (t : Nat → Int32) (n k m i : Nat) : Nat × Nat × Nat × Cl :=
  if wat t n (mm_sb.getD 3 []) (sk t n i) = true then
    (if 12 ≤ k then (1 + 8 * sk t n i + 4, 0, 0, (0, none))
    else if nmf t n (sk t n i + 2) 0 9 = 0 then
      (if wat t n (mm_sb.getD 4 []) (sk t n (nmp t n (sk t n i + 2))) = true then
        (if (run t n (n + 1) (true, false, m, [], [], sk t n (nmp t n (sk t n i + 2)) + 2)).1 = 0 then (0, (run t n (n + 1) (true, false, m, [], [], sk t n (nmp t n (sk t n i + 2)) + 2)).2.1, (run t n (n + 1) (true, false, m, [], [], sk t n (nmp t n (sk t n i + 2)) + 2)).2.2.1, (nmv t n (sk t n i + 2), some (run t n (n + 1) (true, false, m, [], [], sk t n (nmp t n (sk t n i + 2)) + 2)).2.2.2))
          else ((run t n (n + 1) (true, false, m, [], [], sk t n (nmp t n (sk t n i + 2)) + 2)).1, 0, 0, (0, none)))
        else (0, sk t n (nmp t n (sk t n i + 2)), m, (nmv t n (sk t n i + 2), none)))
    else (nmf t n (sk t n i + 2) 0 9, 0, 0, (0, none)))
  else (1 + 8 * sk t n i, 0, 0, (0, none))
/-- as the class writes it -/
def ccl (q : Cl) : List (Nat × Nat) := match q.2 with
  | none => [(0, q.1)]
  | some w => w ++ [(1, q.1)]
def ccode (L : List Cl) : List (Nat × Nat) := L.flatMap ccl
theorem ccode_app {L : List Cl} {q : Cl} : ccode (L ++ [q]) = ccode L ++ ccl q := by
  unfold ccode
  rw [List.flatMap_append]
  simp
def rall (t : Nat → Int32) (n : Nat) : Nat → Nat → Nat → Nat → List Cl → Nat × List Cl
  | 0, _, _, _, L => (1, L)
  | f + 1, k, m, i, L => if (rcl t n k m i).1 = 0 then
      (if sk t n (rcl t n k m i).2.1 < n then (if t (sk t n (rcl t n k m i).2.1) = 59 then rall t n f (k + 1) (rcl t n k m i).2.2.1 (sk t n (rcl t n k m i).2.1 + 1) (L ++ [(rcl t n k m i).2.2.2]) else (1 + 8 * sk t n (rcl t n k m i).2.1, L)) else (0, L ++ [(rcl t n k m i).2.2.2]))
    else ((rcl t n k m i).1, L)
/-- the tape as a rule -/
def ru0 (t : Nat → Int32) (n : Nat) : Nat × List Cl := rall t n 13 0 0 0 []
end
noncomputable section
/-! the class reads a rule's clauses -/
/-- a test's code is no longer than its text -/
theorem run_len {t : Nat → Int32} {n m i : Nat} (hl : n ≤ 400) (hm : m ≤ 60) (hi : i ≤ n) (h : (run t n (n + 1) (true, false, m, [], [], i)).1 = 0) : i + (run t n (n + 1) (true, false, m, [], [], i)).2.2.2.length ≤ (run t n (n + 1) (true, false, m, [], [], i)).2.1 ∧ (run t n (n + 1) (true, false, m, [], [], i)).2.1 ≤ n ∧ (run t n (n + 1) (true, false, m, [], [], i)).2.2.1 ≤ 60 := by
  have hlen : (List.replicate i ((0, 0) : Nat × Nat)).length = i := List.length_replicate
  obtain ⟨S, hS1, hS2, hS3⟩ : ∃ S : fS, S.1 1 1 = o3 n ∧ S.1 2 = t ∧ RC S m (List.replicate i (0, 0)) [] := by
    refine ⟨(fun a k => if a = 1 then o3 n else if a = 2 then t k else if a = 41 then enc ((List.replicate i ((0, 0) : Nat × Nat)).getD k (0, 0)) else if a = 40 then o3 i else if k = 3 then o3 m else 0, fun _ _ => 0), ?_, ?_, ?_, ?_, ?_, ?_, fun k hk => absurd hk (Nat.not_lt_zero _), ?_, fun k hk => ?_⟩
    · simp
    · funext k
      simp
    · simp
    · first | (simp; done) | (simp; rfl)
    · first | (simp; done) | (simp; rfl)
    · first | (simp; done) | (simp; rfl)
    · simp
    · simp
  obtain ⟨S', i', s', -, -, e3⟩ := cr_run (f := 0) hl (K := fun S => some (0, S)) (n + 1) (true, false, m, List.replicate i (0, 0), [], i) S 0 0 0 (n + 2) hS1 hS2 hS3 ⟨hm, fun y hy => absurd hy List.not_mem_nil, Nat.zero_le _, by show (List.replicate i ((0, 0) : Nat × Nat)).length + 0 ≤ i; omega, hi, trivial⟩ (Or.inl rfl) (by show n < i + (n + 1); omega) (by omega) (by omega)
  have hp := run_pre (t := t) (n := n) (c0 := List.replicate i (0, 0)) (n + 1) true false m [] [] i
  rw [List.append_nil] at hp
  rw [hp] at e3
  unfold pre at e3
  rw [if_pos h] at e3
  obtain ⟨a1, a2, a3, a4, -⟩ := e3 h
  have a4 : (List.replicate i ((0, 0) : Nat × Nat) ++ (run t n (n + 1) (true, false, m, [], [], i)).2.2.2).length ≤ (run t n (n + 1) (true, false, m, [], [], i)).2.1 := a4
  rw [List.length_append, hlen] at a4
  exact ⟨a4, a1, a3⟩
/-- made, and written -/
def RM (S : fS) (m : Nat) (c : List (Nat × Nat)) : Prop := S.1 38 3 = o3 m ∧ S.1 40 2 = o3 c.length ∧ (∀ k, k < c.length → S.1 41 k = enc (c.getD k (0, 0)))
theorem RM_of {S : fS} {m : Nat} {c : List (Nat × Nat)} {H : List Nat} (h : RC S m c H) : RM S m c := ⟨h.1, h.2.2.2.2.2.1, h.2.2.2.2.2.2⟩
section CL
variable {S : fS} {m n : Nat} {c : List (Nat × Nat)} {i s f : Int32}
theorem cl_write {a v : Nat} (hR : RM S m c) (hc : c.length < 400) (ha : a < 32) (hv : v < 100000) : ∃ S', f_X4_write 40 (o3 a) (o3 v) (tS S i s f) = some (tS S' i s f) ∧ RM S' m (c ++ [(a, v)]) ∧ eQ S S' := by
  obtain ⟨r1, r6, r7⟩ := hR
  unfold f_X4_write
  rw [tS_ne (by omega), r6, if_neg (show ¬ (400 : Int32) ≤ o3 _ from fun q => by have := (o3_le (a := 400) (by omega) (by omega)).mp q; omega), enc_eq ha hv, sI_o (by omega) (by omega), bd_some, tS_pI (by omega), bd_some, tS_ne (by omega), pI_ne (by omega), r6, tS_pI (by omega), o3_s]
  refine ⟨_, rfl, ⟨?_, ?_, fun k hk => ?_⟩, (eQ_pI (by unfold wQ; omega)).tr (eQ_pI (by unfold wQ; omega))⟩
  · rw [pI_ne (by omega), pI_ne (by omega)]; exact r1
  · rw [pI_eq, ln_app]
  · rw [ln_app] at hk
    rw [pI_ne (by omega), gd_app]
    by_cases hq : k = c.length
    · rw [if_pos hq, hq]; exact pI_eq
    · rw [if_neg hq, pI_ne (by omega)]; exact r7 k (by omega)
end CL
section CL2
variable {S : fS} {m n : Nat} {c : List (Nat × Nat)} {s f : Int32}
theorem cl_test (hn : S.1 1 1 = o3 n) (hl : n ≤ 400) (hR : RM S m c) (hm : m ≤ 60) {i : Nat} (hci : c.length ≤ i) (hi : i ≤ n) : ∃ S' i' s', f_X5_readTest (tS S (o3 i) s f) = some (if (run (S.1 2) n (n + 1) (true, false, m, [], [], i)).1 = 0 then (1, tS S' (o3 (run (S.1 2) n (n + 1) (true, false, m, [], [], i)).2.1) s' f) else (0, tS S' i' s' (o3 (run (S.1 2) n (n + 1) (true, false, m, [], [], i)).1))) ∧ eQ S S' ∧ ((run (S.1 2) n (n + 1) (true, false, m, [], [], i)).1 = 0 → RM S' (run (S.1 2) n (n + 1) (true, false, m, [], [], i)).2.2.1 (c ++ (run (S.1 2) n (n + 1) (true, false, m, [], [], i)).2.2.2)) := by
  obtain ⟨r1, r2, r3⟩ := hR
  unfold f_X5_readTest
  rw [bd_some, bd_some, bd_some, tS_pI (by omega), tS_pI (by omega), tS_pI (by omega)]
  have hE : eQ S (pI (pI (pI S 38 4 0) 38 5 0) 38 6 0) := ((eQ_pI (by unfold wQ; omega)).tr (eQ_pI (by unfold wQ; omega))).tr (eQ_pI (by unfold wQ; omega))
  have hRC : RC (pI (pI (pI S 38 4 0) 38 5 0) 38 6 0) m c [] := by
    refine ⟨?_, ?_, ?_, ?_, fun k hk => absurd hk (Nat.not_lt_zero _), ?_, fun k hk => ?_⟩
    · rw [pI_ne (by omega), pI_ne (by omega), pI_ne (by omega)]; exact r1
    · rw [pI_ne (by omega), pI_ne (by omega), pI_eq]; rfl
    · rw [pI_ne (by omega), pI_eq]; rfl
    · rw [pI_eq]; rfl
    · rw [pI_ne (by omega), pI_ne (by omega), pI_ne (by omega)]; exact r2
    · rw [pI_ne (by omega), pI_ne (by omega), pI_ne (by omega)]; exact r3 k hk
  generalize pI (pI (pI S 38 4 0) 38 5 0) 38 6 0 = X at hE hRC
  have ht : X.1 2 = S.1 2 := funext fun k => hE.1 2 k (by unfold wQ; omega)
  obtain ⟨S', i', s', e1, e2, e3⟩ := cr_run (f := f) hl (K := fun S394 => some ((0 : Int32), S394)) (t := S.1 2) (n + 1) (true, false, m, c, [], i) X s 0 0 FU (by rw [hE.1 1 1 (by unfold wQ; omega)]; exact hn) ht hRC ⟨hm, fun y hy => absurd hy List.not_mem_nil, Nat.zero_le _, by show c.length + 0 ≤ i; omega, hi, trivial⟩ (Or.inl rfl) (by show n < i + (n + 1); omega) (FU_lt (by omega)) (by omega)
  have hp := run_pre (t := S.1 2) (n := n) (c0 := c) (n + 1) true false m [] [] i
  rw [List.append_nil] at hp
  rw [hp] at e1 e3
  refine ⟨S', i', s', ?_, hE.tr e2, fun q => ?_⟩
  · refine Eq.trans e1 ?_
    unfold pre
    by_cases hz : (run (S.1 2) n (n + 1) (true, false, m, [], [], i)).1 = 0
    · rw [if_pos hz, if_pos hz]
    · rw [if_neg hz]
  · unfold pre at e3
    rw [if_pos q] at e3
    obtain ⟨-, -, -, -, H', a5⟩ := e3 q
    exact RM_of a5
end CL2
end
noncomputable section
section CL3
variable {S : fS} {m n : Nat} {c : List (Nat × Nat)} {s f : Int32}
theorem cl_clause (hn : S.1 1 1 = o3 n) (hl : n ≤ 400) (hR : RM S m c) (hm : m ≤ 60) {k i : Nat} (hk : k ≤ 12) (hci : c.length ≤ i) (hi : i ≤ n) : ∃ S' i' s', f_X5_readClause (o3 k) (tS S (o3 i) s f) = some (if (rcl (S.1 2) n k m i).1 = 0 then (1, tS S' (o3 (rcl (S.1 2) n k m i).2.1) s' f) else (0, tS S' i' s' (o3 (rcl (S.1 2) n k m i).1))) ∧ eQ S S' ∧ ((rcl (S.1 2) n k m i).1 = 0 → RM S' (rcl (S.1 2) n k m i).2.2.1 (c ++ ccl (rcl (S.1 2) n k m i).2.2.2) ∧ (c ++ ccl (rcl (S.1 2) n k m i).2.2.2).length ≤ (rcl (S.1 2) n k m i).2.1 ∧ (rcl (S.1 2) n k m i).2.1 ≤ n ∧ (rcl (S.1 2) n k m i).2.2.1 ≤ 60 ∧ k < 12 ∧ i < (rcl (S.1 2) n k m i).2.1) := by
  have hj := sk_le (t := S.1 2) hi
  have hg := sk_ge (t := S.1 2) (n := n) (i := i)
  unfold f_X5_readClause rcl
  rw [ct_word hn hl (w := 3) (by decide) hi, bd_some]
  generalize sk (S.1 2) n i = j at hj hg
  by_cases w0 : wat (S.1 2) n (mm_sb.getD 3 []) j = true
  · rw [if_pos w0, if_pos w0]
    have hw : j + 2 ≤ n := wat_le hj w0
    dsimp only
    rw [if_neg (show ¬ (1 : Int32) = 0 by decide)]
    by_cases hk12 : 12 ≤ k
    · rw [if_neg (show ¬ o3 _ < (12 : Int32) from fun q => by have := (o3_lt (b := 12) (by omega) (by omega)).mp q; omega), if_pos hk12, ct_fail, bd_some, tS_3, tS_fa, show (1 : Int32) = o3 1 from rfl, show (8 : Int32) = o3 8 from rfl, show (4 : Int32) = o3 4 from rfl, o3_mul, o3_add, o3_add]
      refine ⟨S, o3 (j + (mm_sb.getD 3 []).length), o3 j, ?_, eQ.rf, fun q => absurd q (show ¬ (1 + 8 * j + 4 = 0) by omega)⟩
      rw [if_neg (show ¬ (1 + 8 * j + 4 = 0) by omega)]
      rfl
    · rw [if_pos (show o3 _ < (12 : Int32) from (o3_lt (b := 12) (by omega) (by omega)).mpr (by omega)), if_neg hk12, show j + (mm_sb.getD 3 []).length = j + 2 from rfl, ct_num hn hl hw, bd_some, ni_0, l1_20.2.2]
      have hp := nmp_le (t := S.1 2) hw
      by_cases h0 : nmf (S.1 2) n (j + 2) 0 9 = 0
      · have g := (nmf_0 h0).2.2
        have hpg := nmp_gt h0
        rw [if_pos h0, if_pos h0]
        dsimp only
        rw [if_pos (o3_0le (by omega)), ct_word hn hl (w := 4) (by decide) hp, bd_some]
        have hq := sk_le (t := S.1 2) hp
        have hqg := sk_ge (t := S.1 2) (n := n) (i := nmp (S.1 2) n (j + 2))
        generalize sk (S.1 2) n (nmp (S.1 2) n (j + 2)) = q at hq hqg
        by_cases w1 : wat (S.1 2) n (mm_sb.getD 4 []) q = true
        · have hw1 : q + 2 ≤ n := wat_le hq w1
          rw [if_pos w1, if_pos w1]
          dsimp only
          rw [if_neg (show ¬ (1 : Int32) = 0 by decide), show q + (mm_sb.getD 4 []).length = q + 2 from rfl]
          obtain ⟨S1, i1, s1, e1, e2, e3⟩ := cl_test (s := o3 q) (f := f) hn hl hR hm (i := q + 2) (by omega) hw1
          rw [e1, bd_some]
          by_cases hr : (run (S.1 2) n (n + 1) (true, false, m, [], [], q + 2)).1 = 0
          · obtain ⟨l1, l2, l3⟩ := run_len hl hm hw1 hr
            rw [if_pos hr, if_pos hr]
            dsimp only
            rw [if_neg (show ¬ (1 : Int32) = 0 by decide), if_neg (show ¬ (1 : Int32) = 0 by decide)]
            have hlen1 : (c ++ (run (S.1 2) n (n + 1) (true, false, m, [], [], q + 2)).2.2.2).length = c.length + (run (S.1 2) n (n + 1) (true, false, m, [], [], q + 2)).2.2.2.length := List.length_append
            obtain ⟨S2, g1, g2, g3⟩ := cl_write (a := 1) (v := nmv (S.1 2) n (j + 2)) (i := o3 (run (S.1 2) n (n + 1) (true, false, m, [], [], q + 2)).2.1) (s := s1) (f := f) (e3 hr) (by omega) (by omega) (by omega)
            rw [show (1 : Int32) = o3 1 from rfl, g1, bd_some]
            refine ⟨S2, 0, s1, rfl, e2.tr g3, fun _ => ⟨?_, ?_, l2, l3, by omega, by show i < (run (S.1 2) n (n + 1) (true, false, m, [], [], q + 2)).2.1; omega⟩⟩
            · rw [List.append_assoc] at g2
              exact g2
            · show (c ++ ((run (S.1 2) n (n + 1) (true, false, m, [], [], q + 2)).2.2.2 ++ [(1, _)])).length ≤ (run (S.1 2) n (n + 1) (true, false, m, [], [], q + 2)).2.1
              rw [List.length_append, ln_app]
              omega
          · rw [if_neg hr, if_neg hr]
            dsimp only
            rw [if_pos (show (0 : Int32) = 0 from rfl)]
            exact ⟨S1, i1, s1, by rw [if_neg hr], e2, fun q => absurd q hr⟩
        · rw [if_neg w1, if_neg w1]
          dsimp only
          rw [if_pos (show (0 : Int32) = 0 from rfl), if_pos (show (0 : Int32) = 0 from rfl)]
          obtain ⟨S2, g1, g2, g3⟩ := cl_write (a := 0) (v := nmv (S.1 2) n (j + 2)) (i := o3 q) (s := o3 (sk (S.1 2) n (j + 2))) (f := f) hR (by omega) (by omega) (by omega)
          rw [show (0 : Int32) = o3 0 from rfl, g1, bd_some]
          refine ⟨S2, 0, o3 (sk (S.1 2) n (j + 2)), rfl, g3, fun _ => ⟨g2, ?_, hq, hm, by omega, by show i < q; omega⟩⟩
          show (c ++ [(0, _)]).length ≤ q
          rw [ln_app]
          omega
      · rw [if_neg h0, if_neg h0]
        dsimp only
        rw [if_neg (show ¬ (0 : Int32) ≤ -1 by decide)]
        exact ⟨S, _, _, by rw [if_neg h0], eQ.rf, fun q => absurd q h0⟩
  · rw [if_neg w0, if_neg w0]
    dsimp only
    rw [if_pos (show (0 : Int32) = 0 from rfl), ct_fail, bd_some, tS_2, tS_fa, show (1 : Int32) = o3 1 from rfl, show (8 : Int32) = o3 8 from rfl, show (0 : Int32) = o3 0 from rfl, o3_mul, o3_add, o3_add]
    refine ⟨S, o3 j, s, ?_, eQ.rf, fun q => absurd q (show ¬ (1 + 8 * j = 0) by omega)⟩
    rw [if_neg (show ¬ (1 + 8 * j = 0) by omega)]
    rfl
end CL3
end
noncomputable section
/-! the class reads a rule to its end -/
theorem rall_s {t : Nat → Int32} {n f k m i : Nat} {L : List Cl} : rall t n (f + 1) k m i L = if (rcl t n k m i).1 = 0 then
      (if sk t n (rcl t n k m i).2.1 < n then (if t (sk t n (rcl t n k m i).2.1) = 59 then rall t n f (k + 1) (rcl t n k m i).2.2.1 (sk t n (rcl t n k m i).2.1 + 1) (L ++ [(rcl t n k m i).2.2.2]) else (1 + 8 * sk t n (rcl t n k m i).2.1, L)) else (0, L ++ [(rcl t n k m i).2.2.2]))
    else ((rcl t n k m i).1, L) := rfl
/-- the code in the reader's rule -/
def cdC (S : fS) (r : Nat) (c : List (Nat × Nat)) : Prop := S.1 r 2 = o3 c.length ∧ c.length ≤ 400 ∧ (∀ k, k < c.length → S.1 (r + 1) k = enc (c.getD k (0, 0)))
theorem cl_readlp {n : Nat} (hl : n ≤ 400) {f : Int32} {K : fS → Option (Int32 × fS)} {t : Nat → Int32} : ∀ d k nn m L (S : fS) (i : Nat) (s : Int32), S.1 1 1 = o3 n → S.1 2 = t → RM S m (ccode L) → m ≤ 60 → (ccode L).length ≤ i → i ≤ n → k + d = 12 → d < nn → ∃ Y, lp_X5_read_22 K nn (o3 k) (tS S (o3 i) s f) = some (if (rall t n (d + 1) k m i L).1 = 0 then 1 else 0, Y) ∧ ((rall t n (d + 1) k m i L).1 = 0 → cdC Y 40 (ccode (rall t n (d + 1) k m i L).2)) ∧ (¬ (rall t n (d + 1) k m i L).1 = 0 → Y.1 1 4 = o3 (rall t n (d + 1) k m i L).1) := by
  intro d
  induction d with
  | zero =>
    intro k nn m L S i s hn ht hR hm hci hi hkd hnn
    subst ht
    obtain ⟨nn, rfl⟩ : ∃ m', nn = m' + 1 := ⟨nn - 1, by omega⟩
    rw [lp_X5_read_22.eq_2, if_neg (show ¬ (12 : Int32) < o3 _ from fun q => by have := (o3_lt (a := 12) (by omega) (by omega)).mp q; omega)]
    obtain ⟨S', i', s', e, e2, e3⟩ := cl_clause (s := s) (f := f) hn hl hR hm (k := k) (by omega) hci hi
    have hz : ¬ (rcl (S.1 2) n k m i).1 = 0 := fun q => by have := (e3 q).2.2.2.2.1; omega
    rw [e, bd_some, if_neg hz, rall_s, if_neg hz]
    dsimp only
    rw [if_pos rfl, if_neg hz]
    exact ⟨_, rfl, fun q => absurd q hz, fun _ => rfl⟩
  | succ d ih =>
    intro k nn m L S i s hn ht hR hm hci hi hkd hnn
    subst ht
    obtain ⟨nn, rfl⟩ : ∃ m', nn = m' + 1 := ⟨nn - 1, by omega⟩
    rw [lp_X5_read_22.eq_2, if_neg (show ¬ (12 : Int32) < o3 _ from fun q => by have := (o3_lt (a := 12) (by omega) (by omega)).mp q; omega)]
    obtain ⟨S', i', s', e, e2, e3⟩ := cl_clause (s := s) (f := f) hn hl hR hm (k := k) (by omega) hci hi
    rw [rall_s]
    by_cases hz : (rcl (S.1 2) n k m i).1 = 0
    · obtain ⟨a1, a2, a3, a4, a5, a6⟩ := e3 hz
      rw [← ccode_app] at a1 a2
      have hn' : S'.1 1 1 = o3 n := by rw [e2.1 1 1 (by unfold wQ; omega)]; exact hn
      have ht' : S'.1 2 = S.1 2 := funext fun j => e2.1 2 j (by unfold wQ; omega)
      have hsk := sk_le (t := S.1 2) a3
      have hsg := sk_ge (t := S.1 2) (n := n) (i := (rcl (S.1 2) n k m i).2.1)
      rw [e, bd_some, if_pos hz, if_pos hz]
      dsimp only
      rw [if_neg (show ¬ (1 : Int32) = 0 by decide), ct_end hn' hl a3, bd_some, ht']
      by_cases h1 : sk (S.1 2) n (rcl (S.1 2) n k m i).2.1 < n
      · rw [if_pos h1, if_pos h1]
        dsimp only
        rw [if_pos rfl, ct_sign hn' hl (by decide) hsk, bd_some, ht', sk_id]
        by_cases h2 : S.1 2 (sk (S.1 2) n (rcl (S.1 2) n k m i).2.1) = 59
        · have hc : sk (S.1 2) n (rcl (S.1 2) n k m i).2.1 < n ∧ S.1 2 (sk (S.1 2) n (rcl (S.1 2) n k m i).2.1) = 59 := ⟨h1, h2⟩
          rw [if_pos hc, if_pos h2]
          dsimp only
          rw [if_neg (show ¬ (1 : Int32) = 0 by decide), o3_s]
          exact ih (k + 1) nn _ _ S' _ _ hn' ht' a1 a4 (by omega) (by omega) (by omega) (by omega)
        · have hc : ¬ (sk (S.1 2) n (rcl (S.1 2) n k m i).2.1 < n ∧ S.1 2 (sk (S.1 2) n (rcl (S.1 2) n k m i).2.1) = 59) := fun q => h2 q.2
          rw [if_neg hc, if_neg h2]
          dsimp only
          rw [if_pos rfl, ct_fail, bd_some, tS_2]
          refine ⟨pI (tS S' (o3 (sk (S.1 2) n (rcl (S.1 2) n k m i).2.1)) s' f) 1 4 (1 + 8 * o3 (sk (S.1 2) n (rcl (S.1 2) n k m i).2.1) + 0), ?_, fun q => absurd q (by show ¬ (1 + 8 * _ = 0); omega), ?_⟩
          · rw [if_neg (by show ¬ (1 + 8 * _ = 0); omega)]; rfl
          · intro _
            show 1 + 8 * o3 (sk (S.1 2) n (rcl (S.1 2) n k m i).2.1) + 0 = _
            rw [show (1 : Int32) = o3 1 from rfl, show (8 : Int32) = o3 8 from rfl, show (0 : Int32) = o3 0 from rfl, o3_mul, o3_add, o3_add]
            rfl
      · rw [if_neg h1, if_neg h1]
        dsimp only
        rw [if_neg (show ¬ (1 : Int32) = 0 by decide)]
        refine ⟨_, rfl, fun _ => ⟨?_, by show (ccode _).length ≤ 400; omega, fun j hj => ?_⟩, fun q => absurd rfl q⟩
        · rw [tS_ne (by omega)]; exact a1.2.1
        · rw [tS_ne (by omega)]; exact a1.2.2 j hj
    · rw [e, bd_some, if_neg hz, if_neg hz]
      dsimp only
      rw [if_pos rfl, if_neg hz]
      exact ⟨_, rfl, fun q => absurd q hz, fun _ => rfl⟩
theorem c_rread {S : fS} {n : Nat} (hn : S.1 1 1 = o3 n) (hl : n ≤ 400) : ∃ Y, f_X5_read S = some (if (ru0 (S.1 2) n).1 = 0 then 1 else 0, Y) ∧ ((ru0 (S.1 2) n).1 = 0 → cdC Y 40 (ccode (ru0 (S.1 2) n).2)) ∧ (¬ (ru0 (S.1 2) n).1 = 0 → Y.1 1 4 = o3 (ru0 (S.1 2) n).1) := by
  unfold f_X5_read
  rw [bd_some, bd_some]
  unfold f_X7_rewind
  rw [bd_some, bd_some, bd_some, bd_some]
  exact cl_readlp hl (f := 0) 12 0 FU 0 [] (pI (pI S 40 2 0) 38 3 0) 0 0 (by rw [pI_ne (by omega), pI_ne (by omega)]; exact hn) (funext fun k => by rw [pI_ne (by omega), pI_ne (by omega)]) ⟨by rw [pI_eq]; rfl, by rw [pI_ne (by omega), pI_eq]; rfl, fun k hk => absurd hk (Nat.not_lt_zero _)⟩ (by omega) (Nat.zero_le _) (by omega) (by omega) (FU_lt (by omega))
end
noncomputable section
/-! the class's rule() -/
def wU (a k : Nat) : Prop := (a = 1 ∧ 1 ≤ k ∧ k ≤ 4) ∨ (38 ≤ a ∧ a ≤ 42)
theorem gA23_o {r : Nat} (h : r < 6) : gA23 (o3 r) = some (127 + 3 * r) := by
  unfold gA23
  rw [if_neg (ix_ok h (by omega)), o3_nat (by omega)]
theorem c_rule {S : fS} {n r : Nat} (hn : S.1 1 1 = o3 n) (hl : n ≤ 400) (hr : S.1 0 10 = o3 r) (h6 : r ≤ 6) : ∃ Y, f_X10_rule S = some (if r = 6 then -1 else if (ru0 (S.1 2) n).1 = 0 then o3 r else -2 - o3 (ru0 (S.1 2) n).1, Y) ∧ (r = 6 → Y = S) ∧ (r < 6 → Y.1 1 1 = 0 ∧ (∀ a k, ¬ wU a k → ¬ (a = 0 ∧ k = 10) → ¬ (a = 127 + 3 * r ∨ a = 128 + 3 * r) → Y.1 a k = S.1 a k) ∧ Y.2 = S.2 ∧ (¬ (ru0 (S.1 2) n).1 = 0 → ∀ a k, ¬ wU a k → Y.1 a k = S.1 a k) ∧ ((ru0 (S.1 2) n).1 = 0 → Y.1 0 10 = o3 (r + 1) ∧ cdC Y (127 + 3 * r) (ccode (ru0 (S.1 2) n).2))) := by
  unfold f_X10_rule
  rw [hr]
  by_cases hr6 : r = 6
  · rw [if_neg (show ¬ o3 _ < (6 : Int32) from fun q => by have := (o3_lt (b := 6) (by omega) (by omega)).mp q; omega), if_pos hr6]
    exact ⟨S, rfl, fun _ => rfl, fun q => by omega⟩
  · rw [if_pos (show o3 _ < (6 : Int32) from (o3_lt (b := 6) (by omega) (by omega)).mpr (by omega)), if_neg hr6]
    obtain ⟨Y1, e1, y1, y2⟩ := c_rread hn hl
    have hF := fr_f_X5_read e1
    rw [e1, bd_some, bd_some]
    dsimp only
    have hF1 : ∀ a k, ¬ wU a k → (pI Y1 1 1 0).1 a k = S.1 a k := fun a k h => by
      have hk : ¬ (a = 1 ∧ k = 1) := fun q => h (Or.inl (by omega))
      rw [pI_ne hk]
      refine hF.1 a k (fun q => h ?_)
      unfold w1_f_X5_read at q
      unfold wU
      omega
    have hF2 : (pI Y1 1 1 0).2 = S.2 := by
      funext a
      funext k
      refine hF.2 a k (fun q => ?_)
      unfold w2_f_X5_read at q
      exact q
    by_cases hz : (ru0 (S.1 2) n).1 = 0
    · obtain ⟨d1, d2, d3⟩ := y1 hz
      rw [if_pos hz, if_pos hz, if_neg (show ¬ (1 : Int32) = 0 by decide)]
      generalize hX : pI Y1 1 1 0 = X at hF1 hF2
      have hX1 : X.1 1 1 = 0 := by rw [← hX, pI_eq]
      have xe : ∀ a k, a ≠ 1 → X.1 a k = Y1.1 a k := fun a k h => by rw [← hX, pI_ne (by omega)]
      rw [hF1 0 10 (by unfold wU; omega), hr, gA23_o (by omega), bd_some]
      unfold f_X4_copyFrom
      rw [bd_some, bd_some, bd_some, bd_some, cI_ne (x := 40) (by omega), pI_ne (a := 127 + 3 * r) (b := 0) (j := 10) (by omega), cI_ne (x := 0) (by omega), hF1 0 10 (by unfold wU; omega), hr, o3_s, pI_eq, show (1 : Int32) = o3 1 from rfl, o3_sub (by omega), show r + 1 - 1 = r by omega]
      refine ⟨_, rfl, fun q => absurd q hr6, fun _ => ⟨?_, fun a k h1 h2 h3 => ?_, hF2, fun q => absurd hz q, fun _ => ⟨pI_eq, ?_, d2, fun k hk => ?_⟩⟩⟩
      · rw [pI_ne (by omega), pI_ne (by omega), cI_ne (by omega)]; exact hX1
      · rw [pI_ne h2, pI_ne (by omega), cI_ne (by omega)]; exact hF1 a k h1
      · rw [pI_ne (by omega), pI_eq, xe 40 2 (by omega)]; exact d1
      · rw [pI_ne (by omega), pI_ne (by omega), cI_eq (by omega), xe (40 + 1) k (by omega)]; exact d3 k hk
    · rw [if_neg hz, if_neg hz, if_pos (show (0 : Int32) = 0 from rfl), pI_ne (by omega), y2 hz]
      exact ⟨pI Y1 1 1 0, rfl, fun q => absurd q hr6, fun _ => ⟨pI_eq, fun a k h1 _ _ => hF1 a k h1, hF2, fun _ => hF1, fun q => absurd q hz⟩⟩
end
noncomputable section
/-! a sign held, or written at once: the same to what stands behind a value -/
theorem brk_c {s : Nat} {H : List Nat} (h : s ≠ 16) : brk (s :: H) = brk H := by
  show brk H + _ = _
  rw [if_neg h]
  rfl
theorem stO_c {b s : Nat} {H : List Nat} (h : b ≤ bnd s) : stO b (s :: H) = (s, 0) :: stO b H := by
  show (if b ≤ bnd s then _ else _) = _
  rw [if_pos h]
theorem stR_c {b s : Nat} {H : List Nat} (h : b ≤ bnd s) : stR b (s :: H) = stR b H := by
  show (if b ≤ bnd s then _ else _) = _
  rw [if_pos h]
theorem clo_c {t : Nat → Int32} {n f i s : Nat} {H : List Nat} (h : s ≠ 16) (h1 : 1 ≤ bnd s) : (clo t n f i (s :: H)).2.1 = (clo t n f i H).2.1 ∧ (((clo t n f i (s :: H)).1 = (s, 0) :: (clo t n f i H).1 ∧ (clo t n f i (s :: H)).2.2 = (clo t n f i H).2.2) ∨ ((clo t n f i (s :: H)).1 = [] ∧ (clo t n f i H).1 = [] ∧ (clo t n f i (s :: H)).2.2 = s :: (clo t n f i H).2.2)) := by
  cases f with
  | zero => exact ⟨rfl, Or.inr ⟨rfl, rfl, rfl⟩⟩
  | succ f =>
    rw [clo_s, clo_s, brk_c h]
    by_cases hb : 0 < brk H
    · rw [if_pos hb, if_pos hb]
      by_cases hc : sk t n i < n ∧ t (sk t n i) = 93
      · rw [if_pos hc, if_pos hc, stO_c h1, stR_c h1]
        exact ⟨rfl, Or.inl ⟨rfl, rfl⟩⟩
      · rw [if_neg hc, if_neg hc]
        exact ⟨rfl, Or.inr ⟨rfl, rfl, rfl⟩⟩
    · rw [if_neg hb, if_neg hb]
      exact ⟨rfl, Or.inr ⟨rfl, rfl, rfl⟩⟩
theorem bnd_jn : ∀ x, x = 5 ∨ x = 6 ∨ x = 0 → bnd x ≤ 2 := by
  intro x h
  rcases h with rfl | rfl | rfl <;> decide
theorem jn_or (t : Nat → Int32) (n j : Nat) : jn t n j = 5 ∨ jn t n j = 6 ∨ jn t n j = 0 := by
  unfold jn
  split
  · exact Or.inl rfl
  · split
    · exact Or.inr (Or.inl rfl)
    · exact Or.inr (Or.inr rfl)
theorem aft_hold {t : Nat → Int32} {n m i s : Nat} {cp : Bool} {c : List (Nat × Nat)} {H : List Nat} (h : s ≠ 16) (h4 : 4 ≤ bnd s) (hr : rk t n (sk t n i) = 0 ∨ bnd (rk t n (sk t n i)) ≤ bnd s) : aft t n cp m c (s :: H) i = aft t n cp m (c ++ [(s, 0)]) H i := by
  unfold aft
  by_cases k1 : rk t n (sk t n i) = 0
  · rw [if_pos k1, if_pos k1]
    by_cases k2 : cp = true
    · rw [if_pos k2, if_pos k2, brk_c h]
      obtain ⟨e1, e2⟩ := clo_c (t := t) (n := n) (f := brk H + 1) (i := sk t n i) (H := H) h (by omega)
      generalize clo t n (brk H + 1) (sk t n i) (s :: H) = Q at e1 e2
      generalize clo t n (brk H + 1) (sk t n i) H = P at e1 e2
      rw [e1]
      have hj : bnd (jn t n (sk t n P.2.1)) ≤ 2 := bnd_jn _ (jn_or t n _)
      have hk : brk Q.2.2 = brk P.2.2 := by
        rcases e2 with ⟨_, q⟩ | ⟨_, _, q⟩
        · rw [q]
        · rw [q, brk_c h]
      have hO : ∀ b, b ≤ 2 → 0 < b ∨ True → c ++ Q.1 ++ stO b Q.2.2 = c ++ [(s, 0)] ++ P.1 ++ stO b P.2.2 ∧ stR b Q.2.2 = stR b P.2.2 := by
        intro b hb _
        rcases e2 with ⟨p, q⟩ | ⟨p, p', q⟩
        · rw [p, q]
          refine ⟨?_, rfl⟩
          rw [List.append_assoc c [(s, 0)] P.1]
          rfl
        · rw [p, p', q, stO_c (by omega), stR_c (by omega), List.append_nil, List.append_nil, List.append_assoc]
          exact ⟨rfl, rfl⟩
      rw [hk, (hO 1 (by omega) (Or.inr trivial)).1, (hO _ hj (Or.inr trivial)).1, (hO _ hj (Or.inr trivial)).2]
    · rw [if_neg k2, if_neg k2, stO_c h4, stR_c h4, List.append_assoc]
      rfl
  · rw [if_neg k1, if_neg k1]
    have hb : bnd (rk t n (sk t n i)) ≤ bnd s := by
      rcases hr with q | q
      · exact absurd q k1
      · exact q
    rw [stO_c hb, stR_c hb, List.append_assoc]
    rfl
end
noncomputable section
/-! the reference: a word of the rules, a value -/
section MV
variable {S : fS} {n : Nat} {w u : Int32}
theorem mv_name (hn : S.1 145 1 = o3 n) (hl : n ≤ 400) {j : Nat} (hj : j ≤ n) (hs : sk (S.1 146) n j = j) : f_X11_wordHere (mS S (o3 j) w u) = some (if nmI (S.1 146) n j < 8 then o3 (nmI (S.1 146) n j) else -1, mS S (o3 j) w u) := by
  unfold f_X11_wordHere nmI
  rw [mr_word hn hl 7237495 6 (by decide) (by decide) hj, bd_some, hs]
  by_cases h0 : wat (S.1 146) n (mm_sb.getD 6 []) j = true
  · simp only [if_pos h0]; rw [if_neg (by decide), if_pos (by omega)]; rfl
  simp only [if_neg h0]
  rw [if_pos trivial, mr_word hn hl 499967946343 7 (by decide) (by decide) hj, bd_some, hs]
  by_cases h1 : wat (S.1 146) n (mm_sb.getD 7 []) j = true
  · simp only [if_pos h1]; rw [if_neg (by decide), if_pos (by omega)]; rfl
  simp only [if_neg h1]
  rw [if_pos trivial, mr_word hn hl 439905906546 8 (by decide) (by decide) hj, bd_some, hs]
  by_cases h2 : wat (S.1 146) n (mm_sb.getD 8 []) j = true
  · simp only [if_pos h2]; rw [if_neg (by decide), if_pos (by omega)]; rfl
  simp only [if_neg h2]
  rw [if_pos trivial, mr_word hn hl 6383461 9 (by decide) (by decide) hj, bd_some, hs]
  by_cases h3 : wat (S.1 146) n (mm_sb.getD 9 []) j = true
  · simp only [if_pos h3]; rw [if_neg (by decide), if_pos (by omega)]; rfl
  simp only [if_neg h3]
  rw [if_pos trivial, mr_word hn hl 1751478885 10 (by decide) (by decide) hj, bd_some, hs]
  by_cases h4 : wat (S.1 146) n (mm_sb.getD 10 []) j = true
  · simp only [if_pos h4]; rw [if_neg (by decide), if_pos (by omega)]; rfl
  simp only [if_neg h4]
  rw [if_pos trivial, mr_word hn hl 1918989413 11 (by decide) (by decide) hj, bd_some, hs]
  by_cases h5 : wat (S.1 146) n (mm_sb.getD 11 []) j = true
  · simp only [if_pos h5]; rw [if_neg (by decide), if_pos (by omega)]; rfl
  simp only [if_neg h5]
  rw [if_pos trivial, mr_word hn hl 122511331521396 12 (by decide) (by decide) hj, bd_some, hs]
  by_cases h6 : wat (S.1 146) n (mm_sb.getD 12 []) j = true
  · simp only [if_pos h6]; rw [if_neg (by decide), if_pos (by omega)]; rfl
  simp only [if_neg h6]
  rw [if_pos trivial, mr_word hn hl 8750341718045717364 13 (by decide) (by decide) hj, bd_some, hs]
  by_cases h7 : wat (S.1 146) n (mm_sb.getD 13 []) j = true
  · simp only [if_pos h7]; rw [if_neg (by decide), if_pos (by omega)]; rfl
  simp only [if_neg h7]
  rw [if_pos trivial, if_neg (by omega)]
end MV
end
noncomputable section
/-! the reference: what a rule's text has written so far -/
def mp : Nat → Nat
  | 2 => 0
  | 3 => 1
  | 7 => 2
  | 8 => 3
  | 9 => 4
  | 10 => 5
  | 11 => 6
  | 12 => 7
  | 13 => 8
  | 14 => 9
  | 15 => 10
  | 4 => 11
  | 5 => 12
  | 6 => 13
  | _ => 14
def sgM (q : Nat × Nat) : Int32 := o3 (mp q.1 + 16 * q.2)
/-- text, made, written -/
def RQ (S : fS) (x m : Nat) (c : List (Nat × Nat)) : Prop := S.1 145 16 = o3 x ∧ S.1 145 17 = o3 m ∧ S.1 148 x = o3 c.length ∧ ∀ k, k < c.length → S.1 147 (400 * x + k) = sgM (c.getD k (0, 0))
def wMr (x a k : Nat) : Prop := (a = 145 ∧ (k = 17 ∨ k = 18 ∨ k = 21)) ∨ (a = 148 ∧ k = x) ∨ (a = 147 ∧ 400 * x ≤ k ∧ k < 400 * x + 400) ∨ a = 154
def eMr (x : Nat) (S T : fS) : Prop := (∀ a k, ¬ wMr x a k → T.1 a k = S.1 a k) ∧ T.2 = S.2
theorem eMr.rf {x : Nat} {S : fS} : eMr x S S := ⟨fun _ _ _ => rfl, rfl⟩
theorem eMr.tr {x : Nat} {S T U : fS} (h : eMr x S T) (g : eMr x T U) : eMr x S U := ⟨fun a k n => (g.1 a k n).trans (h.1 a k n), g.2.trans h.2⟩
theorem eMr_pI {x : Nat} {S : fS} {a k : Nat} {y : Int32} (h : wMr x a k) : eMr x S (pI S a k y) := ⟨fun b j n => by
  rw [pI_get]
  by_cases q : b = a ∧ j = k
  · exact absurd (q.1 ▸ q.2 ▸ h) n
  · rw [if_neg q], rfl⟩
theorem gd_r {α : Type} {c : List α} {q d : α} : (c ++ [q]).getD c.length d = q := by
  induction c with
  | nil => rfl
  | cons a c ih => exact ih
theorem gd_l {α : Type} {c e : List α} {d : α} {k : Nat} (h : k < c.length) : (c ++ e).getD k d = c.getD k d := by
  induction c generalizing k with
  | nil => exact absurd h (Nat.not_lt_zero _)
  | cons a c ih =>
    cases k with
    | zero => rfl
    | succ k => exact ih (Nat.lt_of_succ_lt_succ h)
theorem RQ_c {S : fS} {x m : Nat} {c : List (Nat × Nat)} (hR : RQ S x m c) {q : Nat × Nat} : RQ (pI (pI S 147 (400 * x + c.length) (sgM q)) 148 x (o3 (c.length + 1))) x m (c ++ [q]) := by
  obtain ⟨r1, r2, r3, r4⟩ := hR
  refine ⟨?_, ?_, ?_, fun k hk => ?_⟩
  · rw [pI_ne (by omega), pI_ne (by omega)]; exact r1
  · rw [pI_ne (by omega), pI_ne (by omega)]; exact r2
  · rw [pI_eq, List.length_append]; rfl
  · rw [List.length_append] at hk
    have hk' : k < c.length + 1 := hk
    rw [pI_ne (by omega)]
    by_cases e : k = c.length
    · subst e
      rw [pI_eq, gd_r]
    · rw [pI_ne (by omega), gd_l (by omega)]
      exact r4 k (by omega)
theorem RQ_17 {S : fS} {x m m' : Nat} {c : List (Nat × Nat)} (hR : RQ S x m c) : RQ (pI S 145 17 (o3 m')) x m' c := by
  obtain ⟨r1, r2, r3, r4⟩ := hR
  refine ⟨?_, ?_, ?_, fun k hk => ?_⟩
  · rw [pI_ne (by omega)]; exact r1
  · rw [pI_eq]
  · rw [pI_ne (by omega)]; exact r3
  · rw [pI_ne (by omega)]; exact r4 k hk
section MP
variable {S : fS} {x m : Nat} {c : List (Nat × Nat)} {i w u : Int32}
theorem mp_puts (hR : RQ S x m c) (hx : x < 6) (hc : c.length < 400) {s v : Nat} {a b : Int32} (ha : a = o3 (mp s)) (hb : b = o3 v) : ∃ T, f_X11_puts a b (mS S i w u) = some (mS T i w u) ∧ RQ T x m (c ++ [(s, v)]) ∧ eMr x S T := by
  refine ⟨pI (pI S 147 (400 * x + c.length) (sgM (s, v))) 148 x (o3 (c.length + 1)), ?_, RQ_c hR, (eMr_pI (by unfold wMr; omega)).tr (eMr_pI (by unfold wMr; omega))⟩
  obtain ⟨r1, r2, r3, r4⟩ := hR
  unfold f_X11_puts
  rw [mS_ne (by omega), r1, gI_o (by omega) (by omega), bd_some, mS_ne (by omega), r3, ha, hb, show (400 : Int32) = o3 400 from rfl, show (16 : Int32) = o3 16 from rfl, o3_mul, o3_mul, o3_add, o3_add, sI_o (by omega) (by omega), bd_some, mS_p (by omega), mS_ne (by omega), pI_ne (by omega), r1, gI_o (by omega) (by omega), bd_some, mS_ne (by omega), pI_ne (by omega), r3, o3_s, sI_o (by omega) (by omega), bd_some, mS_p (by omega)]
  rfl
theorem mp_makes (hR : RQ S x m c) (hm : m ≤ 60) {j : Nat} : f_X11_makes (o3 j) (mS S i 0 u) = some (if 60 ≤ m then (0, mS S i (o3 (1 + 8 * j + 3)) u) else (1, mS (pI S 145 17 (o3 (m + 1))) i 0 u)) := by
  unfold f_X11_makes
  rw [mS_ne (by omega), hR.2.1]
  by_cases h : 60 ≤ m
  · have e : m = 60 := by omega
    rw [if_pos (show o3 m = (60 : Int32) by rw [e]; rfl), if_pos h, mt_fails mS_14, bd_some, mS_wr, show (8 : Int32) = o3 8 from rfl, show (1 : Int32) = o3 1 from rfl, show (3 : Int32) = o3 3 from rfl, o3_mul, o3_add, o3_add]
    rfl
  · rw [if_neg (show ¬ o3 m = (60 : Int32) from fun q => by have := (o3_inj (b := 60) (by omega) (by omega)).mp q; omega), if_neg h, bd_some, o3_s, mS_p (by omega)]
end MP
end
noncomputable section
theorem pI_row {S : fS} {a k b : Nat} {y : Int32} (h : b ≠ a) : (pI S a k y).1 b = S.1 b := by
  funext j
  exact pI_ne (fun q => h q.1)
section MV2
variable {S : fS} {x m n : Nat} {c : List (Nat × Nat)} {u : Int32}
theorem mv_value (hn : S.1 145 1 = o3 n) (hl : n ≤ 400) (hR : RQ S x m c) (hx : x < 6) (hm : m ≤ 60) {i : Nat} (hi : i ≤ n) (hc : vlF (S.1 146) n m (sk (S.1 146) n i) = 0 → c.length < 400) : ∃ T i' u', f_X11_value (mS S (o3 i) 0 u) = some (if vlF (S.1 146) n m (sk (S.1 146) n i) = 0 then (1, mS T (o3 (vlP (S.1 146) n (sk (S.1 146) n i))) 0 u') else (0, mS T i' (o3 (vlF (S.1 146) n m (sk (S.1 146) n i))) u')) ∧ eMr x S T ∧ (vlF (S.1 146) n m (sk (S.1 146) n i) = 0 → RQ T x (m + 1) (c ++ [vlC (S.1 146) n (sk (S.1 146) n i)])) := by
  have hj := sk_le (t := S.1 146) hi
  have hs := sk_id (t := S.1 146) (n := n) (i := i)
  unfold f_X11_value
  rw [mt_see hn hl hi, bd_some]
  dsimp only
  generalize sk (S.1 146) n i = j at hj hs hc
  rw [mS_13, mt_digit hl (mS_1.trans hn) (by omega), bd_some, mS_t]
  have hn1 : (pI S 145 17 (o3 (m + 1))).1 145 1 = o3 n := by rw [pI_ne (by omega)]; exact hn
  have ht1 : (pI S 145 17 (o3 (m + 1))).1 146 = S.1 146 := pI_row (by omega)
  have e17 : eMr x S (pI S 145 17 (o3 (m + 1))) := eMr_pI (by unfold wMr; omega)
  unfold vlF vlP vlC at *
  by_cases hd : 0 < dl (S.1 146) n j
  · simp only [if_pos hd] at hc ⊢
    rw [if_neg (by decide)]
    obtain ⟨u', e⟩ := mt_num (u := u) hn hl (lo := 0) (hi := 99999) hj
    rw [show (0 : Int32).toInt = 0 from rfl, show (99999 : Int32).toInt = 99999 from rfl] at e
    rw [e, bd_some]
    by_cases hf : nmf (S.1 146) n j 0 99999 = 0
    · simp only [if_pos hf] at hc ⊢
      rw [if_neg (by decide), mp_makes hR hm, bd_some]
      by_cases h6 : 60 ≤ m
      · simp only [if_pos h6] at hc ⊢
        rw [if_pos trivial]
        exact ⟨S, o3 (nmp (S.1 146) n j), o3 (nmv (S.1 146) n j), by rw [if_neg (show ¬ 1 + 8 * j + 3 = 0 by omega)], eMr.rf, fun q => by omega⟩
      · simp only [if_neg h6] at hc ⊢
        rw [if_neg (by decide), mS_15]
        obtain ⟨T, t1, t2, t3⟩ := mp_puts (i := o3 (nmp (S.1 146) n j)) (w := 0) (u := o3 (nmv (S.1 146) n j)) (RQ_17 (m' := m + 1) hR) hx (hc trivial) (s := 2) (v := nmv (S.1 146) n j) (a := 0) (b := o3 (nmv (S.1 146) n j)) rfl rfl
        rw [t1, bd_some]
        exact ⟨T, 0, o3 (nmv (S.1 146) n j), by rw [if_pos trivial], e17.tr t3, fun _ => t2⟩
    · simp only [if_neg hf]
      rw [if_pos trivial]
      exact ⟨S, o3 (nmp (S.1 146) n j), u', rfl, eMr.rf, fun q => absurd q hf⟩
  · simp only [if_neg hd] at hc ⊢
    rw [if_pos trivial, mv_name hn hl hj hs, bd_some]
    by_cases h8 : nmI (S.1 146) n j < 8
    · simp only [if_pos h8] at hc ⊢
      rw [if_pos (show (0 : Int32) ≤ o3 _ from (o3_le (a := 0) (by omega) (by omega)).mpr (by omega)), mp_makes hR hm, bd_some]
      by_cases h6 : 60 ≤ m
      · simp only [if_pos h6] at hc ⊢
        rw [if_pos trivial]
        exact ⟨S, o3 j, u, by rw [if_neg (show ¬ 1 + 8 * j + 3 = 0 by omega)], eMr.rf, fun q => by omega⟩
      · simp only [if_neg h6] at hc ⊢
        have hll : ll (S.1 146) n j = nmL (nmI (S.1 146) n j) := ((wat_ll _ _ (mw_L _ (by omega))).mp (nmI_wat h8)).1
        rw [if_neg (by decide), mt_pass hn1 hl hj, bd_some, ht1, hll]
        obtain ⟨T, t1, t2, t3⟩ := mp_puts (i := o3 (j + nmL (nmI (S.1 146) n j))) (w := 0) (u := u) (RQ_17 (m' := m + 1) hR) hx (hc trivial) (s := 3) (v := nmI (S.1 146) n j) (a := 1) (b := o3 (nmI (S.1 146) n j)) rfl rfl
        rw [t1, bd_some]
        exact ⟨T, 0, u, by rw [if_pos trivial], e17.tr t3, fun _ => t2⟩
    · simp only [if_neg h8]
      rw [if_neg (by decide), mt_fails mS_14, bd_some, mS_wr, show (8 : Int32) = o3 8 from rfl, show (1 : Int32) = o3 1 from rfl, o3_mul, o3_add]
      refine ⟨S, o3 j, u, ?_, eMr.rf, fun q => by omega⟩
      rw [show o3 (1 + 8 * j) + (0 : Int32) = o3 (1 + 8 * j) from Int32.add_zero _, if_neg (show ¬ 1 + 8 * j = 0 by omega)]
      rfl
end MV2
end
noncomputable section
/-! the reference: one turn of term() and of sum() -/
section MT1
variable {S : fS} {n : Nat} {w u : Int32}
theorem mt_term1 (hn : S.1 145 1 = o3 n) (hl : n ≤ 400) (hb : ∀ k, byt (S.1 146 k)) {K : fS → Option (Int32 × fS)} {nn i : Nat} (hi : i ≤ n) : lp_X11_term_9 K (nn + 1) (mS S (o3 i) w u) = if rk (S.1 146) n (sk (S.1 146) n i) = 9 ∨ rk (S.1 146) n (sk (S.1 146) n i) = 10 then ((f_X11_value (mS S (o3 (sk (S.1 146) n i + 1)) w u)).bind fun q => if q.1 = (0 : Int32) then some ((0 : Int32), q.2) else (f_X11_puts (if rk (S.1 146) n (sk (S.1 146) n i) = 9 then 4 else 5) 0 q.2).bind fun y => lp_X11_term_9 K nn y) else K (mS S (o3 (sk (S.1 146) n i)) w u) := by
  have hj := sk_le (t := S.1 146) hi
  have hs := sk_id (t := S.1 146) (n := n) (i := i)
  rw [lp_X11_term_9.eq_2, mt_see hn hl hi, bd_some]
  dsimp only
  generalize sk (S.1 146) n i = j at hj hs
  unfold rk
  by_cases h1 : j < n ∧ S.1 146 j = 42
  · have n1 : ¬ (j < n ∧ S.1 146 j = 43) := fun q => absurd (h1.2.symm.trans q.2) (by decide)
    have n2 : ¬ (j < n ∧ S.1 146 j = 45) := fun q => absurd (h1.2.symm.trans q.2) (by decide)
    rw [if_pos ((seen_eq hb (by decide) (by decide)).mpr h1), mS_13, gI_o (by omega) (by omega), bd_some, mS_t, if_pos h1.2, bd_some, mS_nx, o3_s, if_neg n1, if_neg n2, if_pos h1, if_pos (Or.inl rfl), if_pos rfl]
  · rw [if_neg (fun q => h1 ((seen_eq hb (by decide) (by decide)).mp q)), mt_see hn hl hj, bd_some, hs]
    dsimp only
    by_cases h2 : j < n ∧ S.1 146 j = 47
    · have n1 : ¬ (j < n ∧ S.1 146 j = 43) := fun q => absurd (h2.2.symm.trans q.2) (by decide)
      have n2 : ¬ (j < n ∧ S.1 146 j = 45) := fun q => absurd (h2.2.symm.trans q.2) (by decide)
      rw [if_pos ((seen_eq hb (by decide) (by decide)).mpr h2), mS_13, gI_o (by omega) (by omega), bd_some, mS_t, if_neg (fun q => h1 ⟨h2.1, q⟩), bd_some, mS_nx, o3_s, if_neg n1, if_neg n2, if_neg h1, if_pos h2, if_pos (Or.inr rfl), if_neg (by decide)]
    · rw [if_neg (fun q => h2 ((seen_eq hb (by decide) (by decide)).mp q)), if_neg h1, if_neg h2]
      rw [if_neg]
      by_cases n1 : j < n ∧ S.1 146 j = 43
      · rw [if_pos n1]; decide
      · rw [if_neg n1]
        by_cases n2 : j < n ∧ S.1 146 j = 45
        · rw [if_pos n2]; decide
        · rw [if_neg n2]; decide
end MT1
end
noncomputable section
section MS1
variable {S : fS} {n : Nat} {w u : Int32}
theorem mt_sum1 (hn : S.1 145 1 = o3 n) (hl : n ≤ 400) (hb : ∀ k, byt (S.1 146 k)) {K : fS → Option (Int32 × fS)} {nn i : Nat} (hi : i ≤ n) : lp_X11_sum_9 K (nn + 1) (mS S (o3 i) w u) = if rk (S.1 146) n (sk (S.1 146) n i) = 7 ∨ rk (S.1 146) n (sk (S.1 146) n i) = 8 then ((f_X11_term (mS S (o3 (sk (S.1 146) n i + 1)) w u)).bind fun q => if q.1 = (0 : Int32) then some ((0 : Int32), q.2) else (f_X11_puts (if rk (S.1 146) n (sk (S.1 146) n i) = 7 then 2 else 3) 0 q.2).bind fun y => lp_X11_sum_9 K nn y) else K (mS S (o3 (sk (S.1 146) n i)) w u) := by
  have hj := sk_le (t := S.1 146) hi
  have hs := sk_id (t := S.1 146) (n := n) (i := i)
  rw [lp_X11_sum_9.eq_2, mt_see hn hl hi, bd_some]
  dsimp only
  generalize sk (S.1 146) n i = j at hj hs
  unfold rk
  by_cases h1 : j < n ∧ S.1 146 j = 43
  · rw [if_pos ((seen_eq hb (by decide) (by decide)).mpr h1), mS_13, gI_o (by omega) (by omega), bd_some, mS_t, if_pos h1.2, bd_some, mS_nx, o3_s, if_pos h1, if_pos (Or.inl rfl), if_pos rfl]
  · rw [if_neg (fun q => h1 ((seen_eq hb (by decide) (by decide)).mp q)), mt_see hn hl hj, bd_some, hs]
    dsimp only
    by_cases h2 : j < n ∧ S.1 146 j = 45
    · rw [if_pos ((seen_eq hb (by decide) (by decide)).mpr h2), mS_13, gI_o (by omega) (by omega), bd_some, mS_t, if_neg (fun q => h1 ⟨h2.1, q⟩), bd_some, mS_nx, o3_s, if_neg h1, if_pos h2, if_pos (Or.inr rfl), if_neg (by decide)]
    · rw [if_neg (fun q => h2 ((seen_eq hb (by decide) (by decide)).mp q)), if_neg h1, if_neg h2]
      rw [if_neg]
      by_cases n1 : j < n ∧ S.1 146 j = 42
      · rw [if_pos n1]; decide
      · rw [if_neg n1]
        by_cases n2 : j < n ∧ S.1 146 j = 47
        · rw [if_pos n2]; decide
        · rw [if_neg n2]; decide
end MS1
end
noncomputable section
/-! the automaton without fuel -/
def jT (n : Nat) (x : TS) : Prop := elH x.2.2.2.2.1 ∧ dep x.2.2.2.2.1 ≤ 10 ∧ x.2.2.2.2.2 ≤ n
section RX
variable {t : Nat → Int32} {n : Nat}
theorem elH_pu {a b : Nat} {H : List Nat} (ha : 4 ≤ a ∧ a < 17) (h : elH H) : elH (a :: stR b H) := fun y hy => by
  rcases List.mem_cons.mp hy with rfl | hy
  · exact ha
  · exact h y (stR_mem H hy)
theorem dep_st {a b : Nat} {H : List Nat} (ha : a ≠ 4 ∧ a ≠ 16) (h : dep H ≤ 10) : dep (a :: stR b H) ≤ 10 := by
  rw [dep_pu ha]
  exact Nat.le_trans (stR_dep H) h
theorem aft_J {cp : Bool} {m i : Nat} {c : List (Nat × Nat)} {H : List Nat} {y : TS} (he : elH H) (hd : dep H ≤ 10) (hi : i ≤ n) (h : aft t n cp m c H i = .inr y) : jT n y ∧ i < y.2.2.2.2.2 := by
  have hj := sk_le (t := t) hi
  have hg := sk_ge (t := t) (n := n) (i := i)
  unfold aft at h
  generalize sk t n i = j at hj hg h
  by_cases hr : rk t n j = 0
  · rw [if_pos hr] at h
    by_cases hc : cp = true
    · rw [if_pos hc] at h
      obtain ⟨q1, q2, q3, q4, q5⟩ := clo_pr (n := n) (t := t) (brk H + 1) H j he (by omega) hj
      generalize clo t n (brk H + 1) j H = Q at h q1 q2 q3 q4 q5
      have hj2 := sk_le (t := t) q5
      have hg2 := sk_ge (t := t) (n := n) (i := Q.2.1)
      generalize sk t n Q.2.1 = e at h hj2 hg2
      by_cases hn : jn t n e = 0
      · rw [if_pos hn] at h
        split at h <;> exact nomatch h
      · rw [if_neg hn] at h
        obtain rfl := Sum.inr.inj h
        obtain ⟨k1, k2, k3⟩ := jn_cs hj2 hn
        exact ⟨⟨elH_pu (by omega) q1, dep_st (by omega) (by omega), k2⟩, by show i < e + jnL (jn t n e); omega⟩
    · rw [if_neg hc] at h
      by_cases hm : cm t n j = 0
      · rw [if_pos hm] at h; exact nomatch h
      · rw [if_neg hm] at h
        by_cases h6 : 60 ≤ m
        · rw [if_pos h6] at h; exact nomatch h
        · rw [if_neg h6] at h
          obtain rfl := Sum.inr.inj h
          obtain ⟨k1, k2, k3⟩ := cm_cs hm
          exact ⟨⟨elH_pu (by omega) he, dep_st (by omega) hd, k2⟩, by show i < j + cmL (cm t n j); omega⟩
  · rw [if_neg hr] at h
    obtain rfl := Sum.inr.inj h
    obtain ⟨k1, k2⟩ := rk_cs hr
    exact ⟨⟨elH_pu (by omega) he, dep_st (by omega) hd, by show j + 1 ≤ n; omega⟩, by show i < j + 1; omega⟩
theorem tval_J {cp : Bool} {m i : Nat} {c : List (Nat × Nat)} {H : List Nat} {y : TS} (he : elH H) (hd : dep H ≤ 10) (hi : i ≤ n) (h : tval t n cp m c H i = .inr y) : jT n y ∧ i < y.2.2.2.2.2 := by
  have hj := sk_le (t := t) hi
  have hg := sk_ge (t := t) (n := n) (i := i)
  unfold tval at h
  by_cases hv : vlF t n m (sk t n i) = 0
  · rw [if_pos hv] at h
    obtain ⟨v1, v2, v3⟩ := vl_gt hj sk_id hv
    obtain ⟨a, b⟩ := aft_J he hd v2 h
    exact ⟨a, by omega⟩
  · rw [if_neg hv] at h; exact nomatch h
theorem stp_J {x y : TS} (hx : jT n x) (h : stp t n x = .inr y) : jT n y ∧ x.2.2.2.2.2 < y.2.2.2.2.2 := by
  obtain ⟨due, cp, m, c, H, i⟩ := x
  obtain ⟨he, hd, hi⟩ := hx
  dsimp only at he hd hi ⊢
  unfold stp at h
  dsimp only at h
  by_cases hu : due = true
  · rw [if_pos hu] at h
    have hp := opn_pr (t := t) (n := n) (11 - dep H) i H hi hd
    generalize opn t n (11 - dep H) i H = Q at h hp
    by_cases hq : Q.1 = 0
    · rw [if_pos hq] at h
      obtain ⟨P, p1, p2, p3, p4, p5, p6⟩ := hp hq
      obtain ⟨a, b⟩ := tval_J (H := Q.2.2) (fun z hz => by
        rw [p1] at hz
        rcases List.mem_append.mp hz with hz | hz
        · have := p2 z hz; omega
        · exact he z hz) p3 p5 h
      exact ⟨a, by omega⟩
    · rw [if_neg hq] at h; exact nomatch h
  · rw [if_neg hu] at h
    exact tval_J he hd hi h
theorem run_F : ∀ F F' (x : TS), jT n x → n < x.2.2.2.2.2 + F → n < x.2.2.2.2.2 + F' → run t n F x = run t n F' x := by
  intro F
  induction F with
  | zero => intro F' x hx h; exact absurd hx.2.2 (by omega)
  | succ F ih =>
    intro F' x hx h h'
    obtain ⟨F', rfl⟩ : ∃ k, F' = k + 1 := ⟨F' - 1, by have := hx.2.2; omega⟩
    rw [run_s, run_s]
    cases hs : stp t n x with
    | inl r => rfl
    | inr y =>
      obtain ⟨a, b⟩ := stp_J hx hs
      exact ih F' y a (by omega) (by omega)
def RUN (t : Nat → Int32) (n : Nat) (x : TS) : TR := run t n (n + 1) x
def GO (t : Nat → Int32) (n : Nat) (y : TR ⊕ TS) : TR := match y with
  | .inl r => r
  | .inr y => RUN t n y
theorem RUN_s {x : TS} (hx : jT n x) : RUN t n x = GO t n (stp t n x) := by
  unfold RUN GO
  rw [run_s]
  cases hs : stp t n x with
  | inl r => rfl
  | inr y =>
    obtain ⟨a, b⟩ := stp_J hx hs
    exact run_F n (n + 1) y a (by omega) (by omega)
def AR (t : Nat → Int32) (n : Nat) (cp : Bool) (m : Nat) (c : List (Nat × Nat)) (H : List Nat) (i : Nat) : TR := GO t n (aft t n cp m c H i)
def VR (t : Nat → Int32) (n : Nat) (cp : Bool) (m : Nat) (c : List (Nat × Nat)) (H : List Nat) (i : Nat) : TR := GO t n (tval t n cp m c H i)
theorem RUN_V {cp : Bool} {m i : Nat} {c : List (Nat × Nat)} {H : List Nat} (he : elH H) (hd : dep H ≤ 10) (hi : i ≤ n) : RUN t n (false, cp, m, c, H, i) = VR t n cp m c H i := RUN_s (x := (false, cp, m, c, H, i)) ⟨he, hd, hi⟩
theorem VR_e {cp : Bool} {m i : Nat} {c : List (Nat × Nat)} {H : List Nat} : VR t n cp m c H i = if vlF t n m (sk t n i) = 0 then AR t n cp (m + 1) (c ++ [vlC t n (sk t n i)]) H (vlP t n (sk t n i)) else (vlF t n m (sk t n i), 0, 0, []) := by
  unfold VR tval
  by_cases h : vlF t n m (sk t n i) = 0
  · rw [if_pos h, if_pos h]; rfl
  · rw [if_neg h, if_neg h]; rfl
/-- what is held binds less tight than b -/
def tp (b : Nat) (H : List Nat) : Prop := stO b H = [] ∧ stR b H = H
theorem tp_c {b s : Nat} {H : List Nat} (h : bnd s < b) : tp b (s :: H) := by
  constructor
  · show (if b ≤ bnd s then _ else _) = _
    rw [if_neg (by omega)]
  · show (if b ≤ bnd s then _ else _) = _
    rw [if_neg (by omega)]
theorem tp_mo {b b' : Nat} {H : List Nat} (h : tp b H) (hb : b ≤ b') : tp b' H := by
  cases H with
  | nil => exact ⟨rfl, rfl⟩
  | cons s H =>
    refine tp_c (Nat.lt_of_not_le fun q => ?_)
    have := h.1
    rw [show stO b (s :: H) = if b ≤ bnd s then (s, 0) :: stO b H else [] from rfl, if_pos (by omega)] at this
    exact nomatch this
theorem AR_rk {cp : Bool} {m i r : Nat} {c : List (Nat × Nat)} {H : List Nat} (he : elH H) (hd : dep H ≤ 10) (hi : i ≤ n) (hr : rk t n (sk t n i) = r) (h0 : r ≠ 0) (ht : tp (bnd r) H) : AR t n cp m c H i = VR t n cp m c (r :: H) (sk t n i + 1) := by
  obtain ⟨k1, k2⟩ := rk_cs (t := t) (n := n) (j := sk t n i) (by omega)
  have e : aft t n cp m c H i = .inr (false, cp, m, c, r :: H, sk t n i + 1) := by
    unfold aft
    rw [if_neg (by omega), hr, ht.1, ht.2, List.append_nil]
  have el : elH (r :: H) := fun y hy => by
    rcases List.mem_cons.mp hy with rfl | hy
    · omega
    · exact he y hy
  unfold AR
  rw [e]
  exact RUN_V el (by rw [dep_pu (by omega)]; exact hd) (by omega)
theorem AR_hold {cp : Bool} {m i s : Nat} {c : List (Nat × Nat)} {H : List Nat} (h : s ≠ 16) (h4 : 4 ≤ bnd s) (hr : rk t n (sk t n i) = 0 ∨ bnd (rk t n (sk t n i)) ≤ bnd s) : AR t n cp m c (s :: H) i = AR t n cp m (c ++ [(s, 0)]) H i := by
  unfold AR
  rw [aft_hold h h4 hr]
end RX
/-! kinds: true a fact, false a number -/
def tyS (q : Nat × Nat) (τ : List Bool) : Option (List Bool) :=
  if q.1 = 2 ∨ q.1 = 3 then some (false :: τ)
  else if q.1 = 4 then (match τ with
    | true :: r => some (true :: r)
    | _ => none)
  else if q.1 = 5 ∨ q.1 = 6 then (match τ with
    | true :: true :: r => some (true :: r)
    | _ => none)
  else if 7 ≤ q.1 ∧ q.1 ≤ 10 then (match τ with
    | false :: false :: r => some (false :: r)
    | _ => none)
  else if 11 ≤ q.1 ∧ q.1 ≤ 15 then (match τ with
    | false :: false :: r => some (true :: r)
    | _ => none)
  else none
def tyc : List (Nat × Nat) → List Bool → Option (List Bool)
  | [], τ => some τ
  | q :: e, τ => (tyS q τ).bind (tyc e)
theorem tyc_app : ∀ (e f : List (Nat × Nat)) (τ : List Bool), tyc (e ++ f) τ = (tyc e τ).bind (tyc f) := by
  intro e
  induction e with
  | nil => intro f τ; rfl
  | cons q e ih =>
    intro f τ
    show (tyS q τ).bind (tyc (e ++ f)) = ((tyS q τ).bind (tyc e)).bind (tyc f)
    cases tyS q τ with
    | none => rfl
    | some σ => exact ih f σ
theorem tyS_v {q : Nat × Nat} {τ : List Bool} (h : q.1 = 2 ∨ q.1 = 3) : tyS q τ = some (false :: τ) := by
  unfold tyS
  rw [if_pos h]
theorem vlC_k {t : Nat → Int32} {n j : Nat} : (vlC t n j).1 = 2 ∨ (vlC t n j).1 = 3 := by
  unfold vlC
  split
  · exact Or.inl rfl
  · exact Or.inr rfl
theorem tyS_r {r v : Nat} {τ : List Bool} (h : 7 ≤ r ∧ r ≤ 10) : tyS (r, v) (false :: false :: τ) = some (false :: τ) := by
  unfold tyS
  rw [if_neg (show ¬ (r = 2 ∨ r = 3) by omega), if_neg (show ¬ r = 4 by omega), if_neg (show ¬ (r = 5 ∨ r = 6) by omega), if_pos h]
theorem tyS_c {r v : Nat} {τ : List Bool} (h : 11 ≤ r ∧ r ≤ 15) : tyS (r, v) (false :: false :: τ) = some (true :: τ) := by
  unfold tyS
  rw [if_neg (show ¬ (r = 2 ∨ r = 3) by omega), if_neg (show ¬ r = 4 by omega), if_neg (show ¬ (r = 5 ∨ r = 6) by omega), if_neg (show ¬ (7 ≤ r ∧ r ≤ 10) by omega), if_pos h]
def tyL (e : List (Nat × Nat)) : Prop := ∀ τ, tyc e (false :: τ) = some (false :: τ)
def tyV (e : List (Nat × Nat)) : Prop := ∀ τ, tyc e τ = some (false :: τ)
def tyB (e : List (Nat × Nat)) : Prop := ∀ τ, tyc e τ = some (true :: τ)
theorem tyL_c {q : Nat × Nat} {r : Nat} {e : List (Nat × Nat)} (hq : q.1 = 2 ∨ q.1 = 3) (hr : 7 ≤ r ∧ r ≤ 10) (he : tyL e) : tyL ([q] ++ [(r, 0)] ++ e) := fun τ => by
  show (tyS q (false :: τ)).bind (fun σ => (tyS (r, 0) σ).bind (tyc e)) = _
  rw [tyS_v hq, Option.bind_some, tyS_r hr, Option.bind_some]
  exact he τ
theorem tyV_c {q : Nat × Nat} {e : List (Nat × Nat)} (hq : q.1 = 2 ∨ q.1 = 3) (he : tyL e) : tyV ([q] ++ e) := fun τ => by
  show (tyS q τ).bind (tyc e) = _
  rw [tyS_v hq, Option.bind_some]
  exact he τ
theorem tyL_s {r : Nat} {e f : List (Nat × Nat)} (hr : 7 ≤ r ∧ r ≤ 10) (he : tyV e) (hf : tyL f) : tyL (e ++ [(r, 0)] ++ f) := fun τ => by
  rw [tyc_app, tyc_app, he, Option.bind_some]
  show ((tyS (r, 0) (false :: false :: τ)).bind (tyc [])).bind (tyc f) = _
  rw [tyS_r hr, Option.bind_some]
  exact hf τ
theorem tyV_s {e f : List (Nat × Nat)} (he : tyV e) (hf : tyL f) : tyV (e ++ f) := fun τ => by
  rw [tyc_app, he, Option.bind_some]
  exact hf τ
theorem tyB_c {r : Nat} {e f : List (Nat × Nat)} (hr : 11 ≤ r ∧ r ≤ 15) (he : tyV e) (hf : tyV f) : tyB (e ++ f ++ [(r, 0)]) := fun τ => by
  rw [tyc_app, tyc_app, he, Option.bind_some, hf, Option.bind_some]
  show (tyS (r, 0) (false :: false :: τ)).bind (tyc []) = _
  rw [tyS_c hr, Option.bind_some]
  rfl
end
noncomputable section
/-! the reference: term(), sum(), compare() against the automaton -/
/-- what a piece of the reader leaves: fault F or the place, made and written; and that the automaton goes on alike -/
def pce (t : Nat → Int32) (n x m : Nat) (c : List (Nat × Nat)) (i : Nat) (S T : fS) (F i' m' : Nat) (c' : List (Nat × Nat)) : Prop := eMr x S T ∧ (F = 0 → RQ T x m' c' ∧ i ≤ i' ∧ i' ≤ n ∧ sk t n i' = i' ∧ m' ≤ 60 ∧ c'.length + i ≤ c.length + i')
theorem eMr_1 {x : Nat} {S T : fS} (h : eMr x S T) : T.1 145 1 = S.1 145 1 := h.1 145 1 (by unfold wMr; omega)
theorem eMr_t {x : Nat} {S T : fS} (h : eMr x S T) : T.1 146 = S.1 146 := funext fun k => h.1 146 k (by unfold wMr; omega)
section MT2
variable {t : Nat → Int32} {n x : Nat}
theorem mx_termlp (hl : n ≤ 400) (hx : x < 6) (hb : ∀ k, byt (t k)) {K : fS → Option (Int32 × fS)} : ∀ d i m c (S : fS) (u : Int32) nn, n - i ≤ d → d < nn → S.1 145 1 = o3 n → S.1 146 = t → RQ S x m c → m ≤ 60 → c.length ≤ i → i ≤ n → ∃ F T i' m' c' w' u', lp_X11_term_9 K nn (mS S (o3 i) 0 u) = (if F = 0 then K (mS T (o3 i') 0 u') else some (0, mS T w' (o3 F) u')) ∧ pce t n x m c i S T F i' m' c' ∧ (F = 0 → ¬ (rk t n i' = 9 ∨ rk t n i' = 10) ∧ ∃ e, c' = c ++ e ∧ tyL e) ∧ ∀ cp H, elH H → dep H ≤ 10 → tp 6 H → AR t n cp m c H i = if F = 0 then AR t n cp m' c' H i' else (F, 0, 0, []) := by
  intro d
  induction d with
  | zero =>
    intro i m c S u nn hd hnn hn ht hR hm hc hi
    obtain ⟨nn, rfl⟩ : ∃ k, nn = k + 1 := ⟨nn - 1, by omega⟩
    subst ht
    have hj := sk_le (t := S.1 146) hi
    have hg := sk_ge (t := S.1 146) (n := n) (i := i)
    rw [mt_term1 hn hl hb hi]
    have hr : ¬ (rk (S.1 146) n (sk (S.1 146) n i) = 9 ∨ rk (S.1 146) n (sk (S.1 146) n i) = 10) := fun q => by
      obtain ⟨_, q2⟩ := rk_cs (t := S.1 146) (n := n) (j := sk (S.1 146) n i) (by omega)
      omega
    rw [if_neg hr]
    refine ⟨0, S, sk (S.1 146) n i, m, c, 0, u, rfl, ⟨eMr.rf, fun _ => ⟨hR, hg, hj, sk_id, hm, by omega⟩⟩, fun _ => ⟨hr, [], (List.append_nil c).symm, fun τ => rfl⟩, fun cp H _ _ _ => ?_⟩
    rw [if_pos rfl]
    unfold AR aft
    rw [sk_id]
  | succ d ih =>
    intro i m c S u nn hd hnn hn ht hR hm hc hi
    obtain ⟨nn, rfl⟩ : ∃ k, nn = k + 1 := ⟨nn - 1, by omega⟩
    subst ht
    have hj := sk_le (t := S.1 146) hi
    have hg := sk_ge (t := S.1 146) (n := n) (i := i)
    rw [mt_term1 hn hl hb hi]
    by_cases hr : rk (S.1 146) n (sk (S.1 146) n i) = 9 ∨ rk (S.1 146) n (sk (S.1 146) n i) = 10
    · rw [if_pos hr]
      obtain ⟨_, q2⟩ := rk_cs (t := S.1 146) (n := n) (j := sk (S.1 146) n i) (by omega)
      have hj2 := sk_le (t := S.1 146) (n := n) (i := sk (S.1 146) n i + 1) (by omega)
      have hg2 := sk_ge (t := S.1 146) (n := n) (i := sk (S.1 146) n i + 1)
      obtain ⟨T1, w1, u1, a1, a2, a3⟩ := mv_value (u := u) hn hl hR hx hm (i := sk (S.1 146) n i + 1) (by omega) (fun hv => by have := vl_gt hj2 sk_id hv; omega)
      rw [a1, bd_some]
      have key : ∀ cp H, elH H → dep H ≤ 10 → tp 6 H → AR (S.1 146) n cp m c H i = VR (S.1 146) n cp m c (rk (S.1 146) n (sk (S.1 146) n i) :: H) (sk (S.1 146) n i + 1) := fun cp H h1 h2 h3 => AR_rk h1 h2 hi rfl (by omega) (by rcases hr with e | e <;> rw [e] <;> exact h3)
      generalize hrk : rk (S.1 146) n (sk (S.1 146) n i) = r at hr key
      by_cases hv : vlF (S.1 146) n m (sk (S.1 146) n (sk (S.1 146) n i + 1)) = 0
      · obtain ⟨v1, v2, v3⟩ := vl_gt hj2 sk_id hv
        rw [if_pos hv]
        dsimp only
        rw [if_neg (show ¬ (1 : Int32) = 0 by decide)]
        obtain ⟨T2, b1, b2, b3⟩ := mp_puts (i := o3 (vlP (S.1 146) n (sk (S.1 146) n (sk (S.1 146) n i + 1)))) (w := 0) (u := u1) (a3 hv) hx (by rw [ln_app]; omega) (s := r) (v := 0) (a := if r = 9 then 4 else 5) (b := 0) (by rcases hr with e | e <;> subst e <;> rfl) rfl
        rw [b1, bd_some]
        have hE := a2.tr b3
        obtain ⟨F, T, i', m', c', w', u', c1, ⟨c2, c3⟩, c4, c5⟩ := ih (vlP (S.1 146) n (sk (S.1 146) n (sk (S.1 146) n i + 1))) (m + 1) (c ++ [vlC (S.1 146) n (sk (S.1 146) n (sk (S.1 146) n i + 1))] ++ [(r, 0)]) T2 u1 nn (by omega) (by omega) ((eMr_1 hE).trans hn) (eMr_t hE) b2 (by omega) (by rw [ln_app, ln_app]; omega) v2
        refine ⟨F, T, i', m', c', w', u', c1, ⟨hE.tr c2, fun q => ?_⟩, fun q => ⟨(c4 q).1, ?_⟩, fun cp H h1 h2 h3 => ?_⟩
        · obtain ⟨d1, d2, d3, d4, d5, d6⟩ := c3 q
          rw [ln_app, ln_app] at d6
          exact ⟨d1, by omega, d3, d4, d5, by omega⟩
        · obtain ⟨_, e, ee, et⟩ := c4 q
          exact ⟨_, by rw [ee]; simp only [List.append_assoc], tyL_c (vlC_k (t := S.1 146) (n := n) (j := sk (S.1 146) n (sk (S.1 146) n i + 1))) (show 7 ≤ r ∧ r ≤ 10 by omega) et⟩
        · rw [key cp H h1 h2 h3, VR_e, if_pos hv, AR_hold (by omega) (by rcases hr with e | e <;> subst e <;> decide) (Or.inr (by rcases hr with e | e <;> subst e <;> exact bnd_6 _)), c5 cp H h1 h2 h3]
      · rw [if_neg hv]
        dsimp only
        rw [if_pos rfl]
        refine ⟨_, T1, 0, 0, [], w1, u1, (if_neg hv).symm, ⟨a2, fun q => absurd q hv⟩, fun q => absurd q hv, fun cp H h1 h2 h3 => ?_⟩
        rw [key cp H h1 h2 h3, VR_e, if_neg hv, if_neg hv]
    · rw [if_neg hr]
      refine ⟨0, S, sk (S.1 146) n i, m, c, 0, u, rfl, ⟨eMr.rf, fun _ => ⟨hR, hg, hj, sk_id, hm, by omega⟩⟩, fun _ => ⟨hr, [], (List.append_nil c).symm, fun τ => rfl⟩, fun cp H _ _ _ => ?_⟩
      rw [if_pos rfl]
      unfold AR aft
      rw [sk_id]
theorem mx_term (hl : n ≤ 400) (hx : x < 6) (hb : ∀ k, byt (t k)) {S : fS} {m i : Nat} {c : List (Nat × Nat)} {u : Int32} (hn : S.1 145 1 = o3 n) (ht : S.1 146 = t) (hR : RQ S x m c) (hm : m ≤ 60) (hc : c.length ≤ i) (hi : i ≤ n) : ∃ F T i' m' c' w' u', f_X11_term (mS S (o3 i) 0 u) = some (if F = 0 then (1, mS T (o3 i') 0 u') else (0, mS T w' (o3 F) u')) ∧ pce t n x m c i S T F i' m' c' ∧ (F = 0 → i < i' ∧ ¬ (rk t n i' = 9 ∨ rk t n i' = 10) ∧ ∃ e, c' = c ++ e ∧ tyV e) ∧ ∀ cp H, elH H → dep H ≤ 10 → tp 6 H → VR t n cp m c H i = if F = 0 then AR t n cp m' c' H i' else (F, 0, 0, []) := by
  subst ht
  have hj := sk_le (t := S.1 146) hi
  have hg := sk_ge (t := S.1 146) (n := n) (i := i)
  obtain ⟨T1, w1, u1, a1, a2, a3⟩ := mv_value (u := u) hn hl hR hx hm hi (fun hv => by have := vl_gt hj sk_id hv; omega)
  unfold f_X11_term
  rw [a1, bd_some]
  by_cases hv : vlF (S.1 146) n m (sk (S.1 146) n i) = 0
  · obtain ⟨v1, v2, v3⟩ := vl_gt hj sk_id hv
    rw [if_pos hv]
    dsimp only
    rw [if_neg (show ¬ (1 : Int32) = 0 by decide)]
    obtain ⟨F, T, i', m', c', w', u', c1, ⟨c2, c3⟩, c4, c5⟩ := mx_termlp hl hx hb (K := fun S61 => some ((1 : Int32), S61)) n (vlP (S.1 146) n (sk (S.1 146) n i)) (m + 1) (c ++ [vlC (S.1 146) n (sk (S.1 146) n i)]) T1 u1 FU (by omega) (FU_lt (by omega)) ((eMr_1 a2).trans hn) (eMr_t a2) (a3 hv) (by omega) (by rw [ln_app]; omega) v2
    refine ⟨F, T, i', m', c', w', u', ?_, ⟨a2.tr c2, fun q => ?_⟩, fun q => ⟨?_, (c4 q).1, ?_⟩, fun cp H h1 h2 h3 => ?_⟩
    · rw [c1]
      by_cases hF : F = 0
      · rw [if_pos hF, if_pos hF]
      · rw [if_neg hF, if_neg hF]
    · obtain ⟨d1, d2, d3, d4, d5, d6⟩ := c3 q
      rw [ln_app] at d6
      exact ⟨d1, by omega, d3, d4, d5, by omega⟩
    · have := (c3 q).2.1
      omega
    · obtain ⟨_, e, ee, et⟩ := c4 q
      exact ⟨_, by rw [ee]; simp only [List.append_assoc], tyV_c (vlC_k (t := S.1 146) (n := n) (j := sk (S.1 146) n i)) et⟩
    · rw [VR_e, if_pos hv, c5 cp H h1 h2 h3]
  · rw [if_neg hv]
    dsimp only
    rw [if_pos rfl]
    refine ⟨_, T1, 0, 0, [], w1, u1, by rw [if_neg hv], ⟨a2, fun q => absurd q hv⟩, fun q => absurd q hv, fun cp H h1 h2 h3 => ?_⟩
    rw [VR_e, if_neg hv, if_neg hv]
theorem mx_sumlp (hl : n ≤ 400) (hx : x < 6) (hb : ∀ k, byt (t k)) {K : fS → Option (Int32 × fS)} : ∀ d i m c (S : fS) (u : Int32) nn, n - i ≤ d → d < nn → S.1 145 1 = o3 n → S.1 146 = t → RQ S x m c → m ≤ 60 → c.length ≤ i → i ≤ n → sk t n i = i → ¬ (rk t n i = 9 ∨ rk t n i = 10) → ∃ F T i' m' c' w' u', lp_X11_sum_9 K nn (mS S (o3 i) 0 u) = (if F = 0 then K (mS T (o3 i') 0 u') else some (0, mS T w' (o3 F) u')) ∧ pce t n x m c i S T F i' m' c' ∧ (F = 0 → rk t n i' = 0 ∧ ∃ e, c' = c ++ e ∧ tyL e) ∧ ∀ cp H, elH H → dep H ≤ 10 → tp 5 H → AR t n cp m c H i = if F = 0 then AR t n cp m' c' H i' else (F, 0, 0, []) := by
  intro d
  induction d with
  | zero =>
    intro i m c S u nn hd hnn hn ht hR hm hc hi hs hno
    obtain ⟨nn, rfl⟩ : ∃ k, nn = k + 1 := ⟨nn - 1, by omega⟩
    subst ht
    rw [mt_sum1 hn hl hb hi, hs]
    have hr : rk (S.1 146) n i = 0 := Decidable.byContradiction fun q => by
      obtain ⟨_, q2⟩ := rk_cs (t := S.1 146) (n := n) (j := i) q
      omega
    rw [if_neg (by omega)]
    refine ⟨0, S, i, m, c, 0, u, rfl, ⟨eMr.rf, fun _ => ⟨hR, Nat.le_refl _, hi, hs, hm, Nat.le_refl _⟩⟩, fun _ => ⟨hr, [], (List.append_nil c).symm, fun τ => rfl⟩, fun cp H _ _ _ => ?_⟩
    rw [if_pos rfl]
  | succ d ih =>
    intro i m c S u nn hd hnn hn ht hR hm hc hi hs hno
    obtain ⟨nn, rfl⟩ : ∃ k, nn = k + 1 := ⟨nn - 1, by omega⟩
    subst ht
    rw [mt_sum1 hn hl hb hi, hs]
    by_cases hr : rk (S.1 146) n i = 7 ∨ rk (S.1 146) n i = 8
    · rw [if_pos hr]
      obtain ⟨_, q2⟩ := rk_cs (t := S.1 146) (n := n) (j := i) (by omega)
      have hbr : bnd (rk (S.1 146) n i) = 5 := by rcases hr with e | e <;> rw [e] <;> rfl
      have key : ∀ cp H, elH H → dep H ≤ 10 → tp 5 H → AR (S.1 146) n cp m c H i = VR (S.1 146) n cp m c (rk (S.1 146) n i :: H) (i + 1) := fun cp H h1 h2 h3 => by
        have := AR_rk (t := S.1 146) (cp := cp) (m := m) (c := c) h1 h2 hi (by rw [hs]) (show rk (S.1 146) n i ≠ 0 by omega) (by rw [hbr]; exact h3)
        rw [this, hs]
      obtain ⟨F1, T1, i1, m1, c1, w1, u1, a1, ⟨a2, a3⟩, a4, a5⟩ := mx_term hl hx hb (u := u) hn rfl hR hm (show c.length ≤ i + 1 by omega) (by omega)
      rw [a1, bd_some]
      generalize hrk : rk (S.1 146) n i = r at hr key hbr
      have el : ∀ H, elH H → elH (r :: H) := fun H he y hy => by
        rcases List.mem_cons.mp hy with rfl | hy
        · omega
        · exact he y hy
      by_cases hF : F1 = 0
      · obtain ⟨d1, d2, d3, d4, d5, d6⟩ := a3 hF
        obtain ⟨e1, e2, e3, e4, e5⟩ := a4 hF
        rw [if_pos hF]
        dsimp only
        rw [if_neg (show ¬ (1 : Int32) = 0 by decide)]
        obtain ⟨T2, b1, b2, b3⟩ := mp_puts (i := o3 i1) (w := 0) (u := u1) d1 hx (by omega) (s := r) (v := 0) (a := if r = 7 then 2 else 3) (b := 0) (by rcases hr with e | e <;> subst e <;> rfl) rfl
        rw [b1, bd_some]
        have hE := a2.tr b3
        obtain ⟨F, T, i', m', c', w', u', g1, ⟨g2, g3⟩, g4, g5⟩ := ih i1 m1 (c1 ++ [(r, 0)]) T2 u1 nn (by omega) (by omega) ((eMr_1 hE).trans hn) (eMr_t hE) b2 (by omega) (by rw [ln_app]; omega) d3 d4 e2
        refine ⟨F, T, i', m', c', w', u', g1, ⟨hE.tr g2, fun q => ?_⟩, fun q => ⟨(g4 q).1, ?_⟩, fun cp H h1 h2 h3 => ?_⟩
        · obtain ⟨k1, k2, k3, k4, k5, k6⟩ := g3 q
          rw [ln_app] at k6
          exact ⟨k1, by omega, k3, k4, k5, by omega⟩
        · obtain ⟨_, e, ee, et⟩ := g4 q
          exact ⟨_, by rw [ee, e4]; simp only [List.append_assoc], tyL_s (show 7 ≤ r ∧ r ≤ 10 by omega) e5 et⟩
        · rw [key cp H h1 h2 h3, a5 cp (r :: H) (el H h1) (by rw [dep_pu (by omega)]; exact h2) (tp_c (by omega)), if_pos hF, AR_hold (by omega) (by omega) ?_, g5 cp H h1 h2 h3]
          rw [d4]
          by_cases z : rk (S.1 146) n i1 = 0
          · exact Or.inl z
          · obtain ⟨z1, _⟩ := rk_cs (t := S.1 146) (n := n) (j := i1) z
            have : rk (S.1 146) n i1 = 7 ∨ rk (S.1 146) n i1 = 8 := by omega
            exact Or.inr (by rw [hbr]; rcases this with e | e <;> rw [e] <;> decide)
      · rw [if_neg hF]
        dsimp only
        rw [if_pos rfl]
        refine ⟨F1, T1, 0, 0, [], w1, u1, (if_neg hF).symm, ⟨a2, fun q => absurd q hF⟩, fun q => absurd q hF, fun cp H h1 h2 h3 => ?_⟩
        rw [key cp H h1 h2 h3, a5 cp (r :: H) (el H h1) (by rw [dep_pu (by omega)]; exact h2) (tp_c (by omega)), if_neg hF, if_neg hF]
    · rw [if_neg hr]
      have h0 : rk (S.1 146) n i = 0 := Decidable.byContradiction fun q => by
        obtain ⟨q1, q2⟩ := rk_cs (t := S.1 146) (n := n) (j := i) q
        omega
      exact ⟨0, S, i, m, c, 0, u, rfl, ⟨eMr.rf, fun _ => ⟨hR, Nat.le_refl _, hi, hs, hm, Nat.le_refl _⟩⟩, fun _ => ⟨h0, [], (List.append_nil c).symm, fun τ => rfl⟩, fun cp H _ _ _ => by rw [if_pos rfl]⟩
theorem mx_sum (hl : n ≤ 400) (hx : x < 6) (hb : ∀ k, byt (t k)) {S : fS} {m i : Nat} {c : List (Nat × Nat)} {u : Int32} (hn : S.1 145 1 = o3 n) (ht : S.1 146 = t) (hR : RQ S x m c) (hm : m ≤ 60) (hc : c.length ≤ i) (hi : i ≤ n) : ∃ F T i' m' c' w' u', f_X11_sum (mS S (o3 i) 0 u) = some (if F = 0 then (1, mS T (o3 i') 0 u') else (0, mS T w' (o3 F) u')) ∧ pce t n x m c i S T F i' m' c' ∧ (F = 0 → i < i' ∧ rk t n i' = 0 ∧ ∃ e, c' = c ++ e ∧ tyV e) ∧ ∀ cp H, elH H → dep H ≤ 10 → tp 5 H → VR t n cp m c H i = if F = 0 then AR t n cp m' c' H i' else (F, 0, 0, []) := by
  obtain ⟨F1, T1, i1, m1, c1, w1, u1, a1, ⟨a2, a3⟩, a4, a5⟩ := mx_term hl hx hb (u := u) hn ht hR hm hc hi
  unfold f_X11_sum
  rw [a1, bd_some]
  by_cases hF : F1 = 0
  · obtain ⟨d1, d2, d3, d4, d5, d6⟩ := a3 hF
    obtain ⟨e1, e2, e3, e4, e5⟩ := a4 hF
    rw [if_pos hF]
    dsimp only
    rw [if_neg (show ¬ (1 : Int32) = 0 by decide)]
    obtain ⟨F, T, i', m', c', w', u', g1, ⟨g2, g3⟩, g4, g5⟩ := mx_sumlp hl hx hb (K := fun S61 => some ((1 : Int32), S61)) n i1 m1 c1 T1 u1 FU (by omega) (FU_lt (by omega)) ((eMr_1 a2).trans hn) ((eMr_t a2).trans ht) d1 d5 (by omega) d3 d4 e2
    refine ⟨F, T, i', m', c', w', u', ?_, ⟨a2.tr g2, fun q => ?_⟩, fun q => ⟨?_, (g4 q).1, ?_⟩, fun cp H h1 h2 h3 => ?_⟩
    · rw [g1]
      by_cases hG : F = 0
      · rw [if_pos hG, if_pos hG]
      · rw [if_neg hG, if_neg hG]
    · obtain ⟨k1, k2, k3, k4, k5, k6⟩ := g3 q
      exact ⟨k1, by omega, k3, k4, k5, by omega⟩
    · have := (g3 q).2.1
      omega
    · obtain ⟨_, e, ee, et⟩ := g4 q
      exact ⟨_, by rw [ee, e4]; simp only [List.append_assoc], tyV_s e5 et⟩
    · rw [a5 cp H h1 h2 (tp_mo h3 (by omega)), if_pos hF, g5 cp H h1 h2 h3]
  · rw [if_neg hF]
    dsimp only
    rw [if_pos rfl]
    refine ⟨F1, T1, 0, 0, [], w1, u1, by rw [if_neg hF], ⟨a2, fun q => absurd q hF⟩, fun q => absurd q hF, fun cp H h1 h2 h3 => ?_⟩
    rw [a5 cp H h1 h2 (tp_mo h3 (by omega)), if_neg hF, if_neg hF]
end MT2
end
noncomputable section
section MC
variable {t : Nat → Int32} {n x : Nat}
theorem mc_105 {p1 s0 p2 : Int32} {k : Nat} {X : fS} (h : (p1 = 60 ∧ s0 = 0 ∧ k = 11) ∨ (p1 = 60 ∧ s0 = 1 ∧ k = 12) ∨ (p1 = 61 ∧ s0 = 0 ∧ k = 13) ∨ (p1 = 62 ∧ s0 = 1 ∧ k = 14) ∨ (p1 = 62 ∧ s0 = 0 ∧ k = 15)) : j_X11_compare_105 p1 p2 s0 X = (f_X11_makes p2 X).bind fun q => if q.1 = (0 : Int32) then some ((0 : Int32), q.2) else j_X11_compare_152 (o3 (k - 11)) q.2 := by
  unfold j_X11_compare_105
  congr 1
  funext q
  by_cases hq : q.1 = (0 : Int32)
  · rw [if_pos hq, if_pos hq]
  rw [if_neg hq, if_neg hq]
  rcases h with ⟨rfl, rfl, rfl⟩ | ⟨rfl, rfl, rfl⟩ | ⟨rfl, rfl, rfl⟩ | ⟨rfl, rfl, rfl⟩ | ⟨rfl, rfl, rfl⟩
  · rw [if_pos (by decide), if_pos (by decide)]; rfl
  · rw [if_pos (by decide), if_neg (by decide)]; rfl
  · rw [if_neg (by decide), if_pos (by decide)]; rfl
  · rw [if_neg (by decide), if_neg (by decide), if_neg (by decide)]; rfl
  · rw [if_neg (by decide), if_neg (by decide), if_pos (by decide)]; rfl
theorem mc_44 {S : fS} {j : Nat} {u p1 : Int32} (hl : n ≤ 400) (hn : S.1 145 1 = o3 n) (h : j < n) (hp : S.1 146 j = p1) (h3 : p1 = 60 ∨ p1 = 61 ∨ p1 = 62) : j_X11_compare_44 p1 (o3 j) (mS S (o3 j) 0 u) = (f_X11_makes (o3 j) (mS S (o3 (j + cmL (cm (S.1 146) n j))) 0 u)).bind fun q => if q.1 = (0 : Int32) then some ((0 : Int32), q.2) else j_X11_compare_152 (o3 (cm (S.1 146) n j - 11)) q.2 := by
  unfold j_X11_compare_44 cm
  rw [bd_some, mS_nx, mS_13, o3_s]
  by_cases h1 : p1 = 61
  · rw [if_pos h1, if_pos ⟨h, hp.trans h1⟩]
    unfold j_X11_compare_89 j_X11_compare_90
    rw [if_pos rfl, mc_105 (k := 13) (by subst h1; decide)]
    rfl
  · rw [if_neg h1, mS_1, hn, mS_13, if_neg (show ¬ (j < n ∧ S.1 146 j = 61) from fun q => h1 (hp.symm.trans q.2))]
    by_cases h2 : j + 1 < n
    · rw [if_neg (show ¬ o3 n ≤ o3 (j + 1) from fun q => by have := (o3_le (by omega) (by omega)).mp q; omega), gI_o (by omega) (by omega), bd_some, mS_t]
      by_cases h4 : S.1 146 (j + 1) = 61
      · rw [if_pos h4]
        unfold j_X11_compare_90
        rw [if_neg (by decide), bd_some, mS_nx, mS_13, o3_s]
        rcases h3 with e | e | e
        · rw [if_pos ⟨h, hp.trans e⟩, if_pos ⟨h2, h4⟩, mc_105 (k := 12) (by subst e; decide)]; rfl
        · exact absurd e h1
        · rw [if_neg (show ¬ (j < n ∧ S.1 146 j = 60) from fun q => absurd (e.symm.trans (hp.symm.trans q.2)) (by decide)), if_pos ⟨h, hp.trans e⟩, if_pos ⟨h2, h4⟩, mc_105 (k := 14) (by subst e; decide)]; rfl
      · rw [if_neg h4]
        unfold j_X11_compare_89 j_X11_compare_90
        rw [if_pos rfl]
        rcases h3 with e | e | e
        · rw [if_pos ⟨h, hp.trans e⟩, if_neg (fun q => h4 q.2), mc_105 (k := 11) (by subst e; decide)]; rfl
        · exact absurd e h1
        · rw [if_neg (show ¬ (j < n ∧ S.1 146 j = 60) from fun q => absurd (e.symm.trans (hp.symm.trans q.2)) (by decide)), if_pos ⟨h, hp.trans e⟩, if_neg (fun q => h4 q.2), mc_105 (k := 15) (by subst e; decide)]; rfl
    · rw [if_pos (show o3 n ≤ o3 (j + 1) from (o3_le (by omega) (by omega)).mpr (by omega))]
      unfold j_X11_compare_89 j_X11_compare_90
      rw [if_pos rfl]
      rcases h3 with e | e | e
      · rw [if_pos ⟨h, hp.trans e⟩, if_neg (fun q => h2 q.1), mc_105 (k := 11) (by subst e; decide)]; rfl
      · exact absurd e h1
      · rw [if_neg (show ¬ (j < n ∧ S.1 146 j = 60) from fun q => absurd (e.symm.trans (hp.symm.trans q.2)) (by decide)), if_pos ⟨h, hp.trans e⟩, if_neg (fun q => h2 q.1), mc_105 (k := 15) (by subst e; decide)]; rfl
theorem mc_sgn {S : fS} {j : Nat} {u : Int32} (hl : n ≤ 400) (hn : S.1 145 1 = o3 n) (hb : ∀ k, byt (S.1 146 k)) {p1 : Int32} (hp1 : p1 = seen (S.1 146) n j) {Z : Option (Int32 × fS)} : (if p1 = (60 : Int32) then j_X11_compare_44 p1 (o3 j) (mS S (o3 j) 0 u) else if p1 = (61 : Int32) then j_X11_compare_44 p1 (o3 j) (mS S (o3 j) 0 u) else if p1 = (62 : Int32) then j_X11_compare_44 p1 (o3 j) (mS S (o3 j) 0 u) else Z) = if cm (S.1 146) n j = 0 then Z else (f_X11_makes (o3 j) (mS S (o3 (j + cmL (cm (S.1 146) n j))) 0 u)).bind fun q => if q.1 = (0 : Int32) then some ((0 : Int32), q.2) else j_X11_compare_152 (o3 (cm (S.1 146) n j - 11)) q.2 := by
  have key : ∀ a : Int32, a = 60 ∨ a = 61 ∨ a = 62 → p1 = a → (j_X11_compare_44 p1 (o3 j) (mS S (o3 j) 0 u) = if cm (S.1 146) n j = 0 then Z else (f_X11_makes (o3 j) (mS S (o3 (j + cmL (cm (S.1 146) n j))) 0 u)).bind fun q => if q.1 = (0 : Int32) then some ((0 : Int32), q.2) else j_X11_compare_152 (o3 (cm (S.1 146) n j - 11)) q.2) := by
    intro a ha e
    have hh : j < n ∧ S.1 146 j = a := (seen_eq hb (by rcases ha with rfl | rfl | rfl <;> decide) (by rcases ha with rfl | rfl | rfl <;> decide)).mp (hp1.symm.trans e)
    rw [if_neg, e]
    · exact mc_44 hl hn hh.1 hh.2 ha
    · unfold cm
      rcases ha with rfl | rfl | rfl
      · rw [if_neg (fun q => absurd (hh.2.symm.trans q.2) (by decide)), if_pos hh]; split <;> decide
      · rw [if_pos hh]; decide
      · rw [if_neg (fun q => absurd (hh.2.symm.trans q.2) (by decide)), if_neg (fun q => absurd (hh.2.symm.trans q.2) (by decide)), if_pos hh]; split <;> decide
  by_cases h0 : p1 = 60
  · rw [if_pos h0]; exact key 60 (by decide) h0
  rw [if_neg h0]
  by_cases h1 : p1 = 61
  · rw [if_pos h1]; exact key 61 (by decide) h1
  rw [if_neg h1]
  by_cases h2 : p1 = 62
  · rw [if_pos h2]; exact key 62 (by decide) h2
  rw [if_neg h2, if_pos]
  unfold cm
  rw [if_neg (fun q => h1 (hp1.trans ((seen_eq hb (by decide) (by decide)).mpr q))), if_neg (fun q => h0 (hp1.trans ((seen_eq hb (by decide) (by decide)).mpr q))), if_neg (fun q => h2 (hp1.trans ((seen_eq hb (by decide) (by decide)).mpr q)))]
theorem AR_cm {m i k : Nat} {c : List (Nat × Nat)} {H : List Nat} (he : elH H) (hd : dep H ≤ 10) (hi : i ≤ n) (hs : sk t n i = i) (hr : rk t n i = 0) (hk : cm t n i = k) (ht : tp 4 H) : AR t n false m c H i = if k = 0 then (1 + 8 * i, 0, 0, []) else if 60 ≤ m then (1 + 8 * i + 3, 0, 0, []) else VR t n true (m + 1) c (k :: H) (i + cmL k) := by
  unfold AR aft
  rw [hs, if_pos hr, if_neg (by decide), hk]
  by_cases h0 : k = 0
  · rw [if_pos h0, if_pos h0]; rfl
  rw [if_neg h0, if_neg h0]
  by_cases h6 : 60 ≤ m
  · rw [if_pos h6, if_pos h6]; rfl
  rw [if_neg h6, if_neg h6, ht.1, ht.2, List.append_nil]
  obtain ⟨k1, k2, k3⟩ := cm_cs (t := t) (n := n) (j := i) (by omega)
  rw [hk] at k1 k2 k3
  exact RUN_V (fun y hy => by
    rcases List.mem_cons.mp hy with rfl | hy
    · omega
    · exact he y hy) (by rw [dep_pu (by omega)]; exact hd) k2
theorem bnd_cm {k : Nat} (h : 11 ≤ k ∧ k ≤ 15) : bnd k = 4 := (show ∀ a, a < 16 → 11 ≤ a → bnd a = 4 by decide) _ (by omega) (by omega)
theorem mx_cmp (hl : n ≤ 400) (hx : x < 6) (hb : ∀ k, byt (t k)) {S : fS} {m i : Nat} {c : List (Nat × Nat)} {u : Int32} (hn : S.1 145 1 = o3 n) (ht : S.1 146 = t) (hR : RQ S x m c) (hm : m ≤ 60) (hc : c.length ≤ i) (hi : i ≤ n) : ∃ F T i' m' c' w' u', f_X11_compare (mS S (o3 i) 0 u) = some (if F = 0 then (1, mS T (o3 i') 0 u') else (0, mS T w' (o3 F) u')) ∧ pce t n x m c i S T F i' m' c' ∧ (F = 0 → i < i' ∧ rk t n i' = 0 ∧ ∃ e, c' = c ++ e ∧ tyB e) ∧ ∀ H, elH H → dep H ≤ 10 → tp 4 H → VR t n false m c H i = if F = 0 then AR t n true m' c' H i' else (F, 0, 0, []) := by
  obtain ⟨F1, T1, i1, m1, c1, w1, u1, a1, ⟨a2, a3⟩, a4, a5⟩ := mx_sum hl hx hb (u := u) hn ht hR hm hc hi
  unfold f_X11_compare
  rw [a1, bd_some]
  by_cases hF : F1 = 0
  · obtain ⟨d1, d2, d3, d4, d5, d6⟩ := a3 hF
    obtain ⟨e1, e2, x1, x2, x3⟩ := a4 hF
    have hn1 := (eMr_1 a2).trans hn
    have ht1 := (eMr_t a2).trans ht
    rw [if_pos hF]
    dsimp only
    rw [if_neg (show ¬ (1 : Int32) = 0 by decide), mt_see hn1 hl d3, bd_some, ht1, d4]
    dsimp only
    rw [mS_13, mc_sgn hl hn1 (by rw [ht1]; exact hb) (by rw [ht1])]
    rw [ht1]
    have key : ∀ H, elH H → dep H ≤ 10 → tp 4 H → VR t n false m c H i = if cm t n i1 = 0 then (1 + 8 * i1, 0, 0, []) else if 60 ≤ m1 then (1 + 8 * i1 + 3, 0, 0, []) else VR t n true (m1 + 1) c1 (cm t n i1 :: H) (i1 + cmL (cm t n i1)) := fun H h1 h2 h3 => by
      have := a5 false H h1 h2 (tp_mo h3 (by omega))
      rw [if_pos hF, AR_cm h1 h2 d3 d4 e2 rfl h3] at this
      exact this
    by_cases hk : cm t n i1 = 0
    · rw [if_pos hk, mt_fails mS_14, bd_some, mS_wr, show (8 : Int32) = o3 8 from rfl, show (1 : Int32) = o3 1 from rfl, show (0 : Int32) = o3 0 from rfl, o3_mul, o3_add, o3_add]
      refine ⟨1 + 8 * i1, T1, 0, 0, [], o3 i1, u1, ?_, ⟨a2, fun q => by omega⟩, fun q => by omega, fun H h1 h2 h3 => ?_⟩
      · rw [if_neg (by omega)]; rfl
      · rw [key H h1 h2 h3, if_pos hk, if_neg (by omega)]
    · obtain ⟨k1, k2, k3⟩ := cm_cs hk
      rw [if_neg hk, mp_makes d1 d5, bd_some]
      by_cases h6 : 60 ≤ m1
      · rw [if_pos h6]
        dsimp only
        rw [if_pos rfl]
        refine ⟨1 + 8 * i1 + 3, T1, 0, 0, [], o3 (i1 + cmL (cm t n i1)), u1, ?_, ⟨a2, fun q => by omega⟩, fun q => by omega, fun H h1 h2 h3 => ?_⟩
        · rw [if_neg (by omega)]
        · rw [key H h1 h2 h3, if_neg hk, if_pos h6, if_neg (by omega)]
      · rw [if_neg h6]
        dsimp only
        rw [if_neg (show ¬ (1 : Int32) = 0 by decide)]
        have e17 : eMr x T1 (pI T1 145 17 (o3 (m1 + 1))) := eMr_pI (by unfold wMr; omega)
        have hE := a2.tr e17
        obtain ⟨F2, T2, i2, m2, c2, w2, u2, b1, ⟨b2, b3⟩, b4, b5⟩ := mx_sum hl hx hb (u := u1) (i := i1 + cmL (cm t n i1)) ((eMr_1 hE).trans hn) ((eMr_t hE).trans ht) (RQ_17 (m' := m1 + 1) d1) (by omega) (by omega) k2
        unfold j_X11_compare_152
        rw [b1, bd_some]
        generalize hcm : cm t n i1 = k at *
        have hbk := bnd_cm k1
        have el : ∀ H, elH H → elH (k :: H) := fun H he y hy => by
          rcases List.mem_cons.mp hy with rfl | hy
          · omega
          · exact he y hy
        have key2 : ∀ H, elH H → dep H ≤ 10 → tp 4 H → VR t n false m c H i = if F2 = 0 then AR t n true m2 c2 (k :: H) i2 else (F2, 0, 0, []) := fun H h1 h2 h3 => by
          rw [key H h1 h2 h3, if_neg hk, if_neg h6, b5 true (k :: H) (el H h1) (by rw [dep_pu (by omega)]; exact h2) (tp_c (by omega))]
        by_cases hG : F2 = 0
        · obtain ⟨f1, f2, f3, f4, f5, f6⟩ := b3 hG
          obtain ⟨g1, g2, y1, y2, y3⟩ := b4 hG
          rw [if_pos hG]
          dsimp only
          rw [if_neg (show ¬ (1 : Int32) = 0 by decide)]
          obtain ⟨T3, p1, p2, p3⟩ := mp_puts (i := o3 i2) (w := 0) (u := u2) f1 hx (by omega) (s := k) (v := 0) (a := (6 : Int32) + o3 (k - 11)) (b := 0) (by
            have : k = 11 ∨ k = 12 ∨ k = 13 ∨ k = 14 ∨ k = 15 := by omega
            rcases this with rfl | rfl | rfl | rfl | rfl <;> rfl) rfl
          rw [p1, bd_some]
          refine ⟨0, T3, i2, m2, c2 ++ [(k, 0)], 0, u2, ?_, ⟨(hE.tr b2).tr p3, fun _ => ⟨p2, by omega, f3, f4, f5, by rw [ln_app]; omega⟩⟩, fun _ => ⟨by omega, g2, _, by rw [y2, x2]; simp only [List.append_assoc], tyB_c k1 x3 y3⟩, fun H h1 h2 h3 => ?_⟩
          · rw [if_pos rfl]
          · rw [key2 H h1 h2 h3, if_pos hG, if_pos rfl, AR_hold (by omega) (by omega) (Or.inl (by rw [f4]; exact g2))]
        · rw [if_neg hG]
          dsimp only
          rw [if_pos rfl]
          refine ⟨F2, T2, 0, 0, [], w2, u2, ?_, ⟨hE.tr b2, fun q => absurd q hG⟩, fun q => absurd q hG, fun H h1 h2 h3 => ?_⟩
          · rw [if_neg hG]
          · rw [key2 H h1 h2 h3, if_neg hG, if_neg hG]
  · rw [if_neg hF]
    dsimp only
    rw [if_pos rfl]
    refine ⟨F1, T1, 0, 0, [], w1, u1, by rw [if_neg hF], ⟨a2, fun q => absurd q hF⟩, fun q => absurd q hF, fun H h1 h2 h3 => ?_⟩
    rw [a5 false H h1 h2 (tp_mo h3 (by omega)), if_neg hF, if_neg hF]
end MC
end
noncomputable section
/-! the reference: what is held -/
def hm : Nat → Nat
  | 4 => 11
  | 5 => 12
  | 6 => 13
  | _ => 91
def fH (H : List Nat) : Prop := ∀ y ∈ H, y = 4 ∨ y = 5 ∨ y = 6 ∨ y = 16
def RH (S : fS) (H : List Nat) : Prop := S.1 145 21 = o3 H.length ∧ S.1 145 18 = o3 (dep H) ∧ ∀ k, k < H.length → S.1 154 k = o3 (hm (H.reverse.getD k 0))
theorem fH_el {H : List Nat} (h : fH H) : elH H := fun y hy => by have := h y hy; omega
theorem fH_st {b : Nat} {H : List Nat} (h : fH H) : fH (stR b H) := fun y hy => h y (stR_mem H hy)
theorem fH_tl {H : List Nat} (h : fH H) : fH H.tail := fun y hy => h y (List.mem_of_mem_tail hy)
theorem fH_c {s : Nat} {H : List Nat} (h : fH H) (hs : s = 4 ∨ s = 5 ∨ s = 6 ∨ s = 16) : fH (s :: H) := fun y hy => by
  rcases List.mem_cons.mp hy with rfl | hy
  · exact hs
  · exact h y hy
theorem RH_eq {S T : fS} {H : List Nat} (h : RH S H) (h1 : T.1 145 21 = S.1 145 21) (h2 : T.1 145 18 = S.1 145 18) (h3 : ∀ k, T.1 154 k = S.1 154 k) : RH T H := ⟨h1.trans h.1, h2.trans h.2.1, fun k hk => (h3 k).trans (h.2.2 k hk)⟩
theorem RQ_eq {S T : fS} {x m : Nat} {c : List (Nat × Nat)} (h : RQ S x m c) (h1 : T.1 145 16 = S.1 145 16) (h2 : T.1 145 17 = S.1 145 17) (h3 : ∀ k, T.1 148 k = S.1 148 k) (h4 : ∀ k, T.1 147 k = S.1 147 k) : RQ T x m c := ⟨h1.trans h.1, h2.trans h.2.1, (h3 x).trans h.2.2.1, fun k hk => (h4 _).trans (h.2.2.2 k hk)⟩
theorem RH_fr {w1 w2 : Nat → Nat → Prop} {S T : fS} {i w u i' w' u' : Int32} {H : List Nat} (h : RH S H) (hF : Fr w1 w2 (mS S i w u) (mS T i' w' u')) (h1 : ¬ w1 145 21) (h2 : ¬ w1 145 18) (h3 : ∀ k, ¬ w1 154 k) : RH T H := by
  refine RH_eq h ?_ ?_ (fun k => ?_)
  · have := hF.1 145 21 h1; rw [mS_ne (by omega), mS_ne (by omega)] at this; exact this
  · have := hF.1 145 18 h2; rw [mS_ne (by omega), mS_ne (by omega)] at this; exact this
  · have := hF.1 154 k (h3 k); rw [mS_ne (by omega), mS_ne (by omega)] at this; exact this
section MH
variable {t : Nat → Int32} {n x m : Nat} {c : List (Nat × Nat)} {u : Int32}
theorem RH_pu {S : fS} {H : List Nat} {s d : Nat} (h : RH S H) (hd : d = dep (s :: H)) : RH (pI (pI (pI S 145 18 (o3 d)) 154 H.length (o3 (hm s))) 145 21 (o3 (H.length + 1))) (s :: H) := by
  obtain ⟨r1, r2, r3⟩ := h
  refine ⟨?_, ?_, fun k hk => ?_⟩
  · rw [pI_eq]; rfl
  · rw [pI_ne (by omega), pI_ne (by omega), pI_eq, hd]
  · have hk : k < H.length + 1 := hk
    rw [pI_ne (by omega), List.reverse_cons]
    by_cases e : k = H.length
    · subst e
      rw [pI_eq, show (H.reverse ++ [s]).getD H.length 0 = s by
        have := gd_r (c := H.reverse) (q := s) (d := 0)
        rwa [List.length_reverse] at this]
    · rw [pI_ne (by omega), pI_ne (by omega), gd_l (by rw [List.length_reverse]; omega)]
      exact r3 k (by omega)
theorem mo_opens {S : fS} {H : List Nat} {j s : Nat} {v : Int32} (hR : RQ S x m c) (hH : RH S H) (hd : dep H ≤ 10) (hL : H.length < 400) (hs : s = 4 ∨ s = 16) (hv : v = o3 (hm s)) : ∃ T, f_X11_opens v (mS S (o3 j) 0 u) = some (if 10 ≤ dep H then (0, mS S (o3 j) (o3 (1 + 8 * j + 2)) u) else (1, mS T (o3 j) 0 u)) ∧ RQ T x m c ∧ RH T (s :: H) ∧ eMr x S T := by
  refine ⟨_, ?_, ?_, RH_pu (s := s) (d := dep H + 1) hH (by rcases hs with rfl | rfl <;> rfl), ((eMr_pI (by unfold wMr; omega)).tr (eMr_pI (by unfold wMr; omega))).tr (eMr_pI (by unfold wMr; omega))⟩
  · unfold f_X11_opens
    rw [mS_ne (by omega), hH.2.1]
    by_cases h : 10 ≤ dep H
    · rw [if_pos (show o3 (dep H) = (10 : Int32) by rw [show dep H = 10 by omega]; rfl), if_pos h, mS_13, mt_fails mS_14, bd_some, mS_wr, show (8 : Int32) = o3 8 from rfl, show (1 : Int32) = o3 1 from rfl, show (2 : Int32) = o3 2 from rfl, o3_mul, o3_add, o3_add]
      rfl
    · rw [if_neg (show ¬ o3 (dep H) = (10 : Int32) from fun q => by have := (o3_inj (b := 10) (by omega) (by omega)).mp q; omega), if_neg h, bd_some, o3_s, mS_p (by omega), mS_ne (by omega), pI_ne (by omega), hH.1, sI_o (by omega) (by omega), bd_some, mS_p (by omega), bd_some, mS_ne (by omega), pI_ne (by omega), pI_ne (by omega), hH.1, o3_s, mS_p (by omega), hv]
  · refine RQ_eq hR ?_ ?_ (fun k => ?_) (fun k => ?_) <;> rw [pI_ne (by omega), pI_ne (by omega), pI_ne (by omega)]
theorem mo_fact (hl : n ≤ 400) (hb : ∀ k, byt (t k)) {K : fS → Option (Int32 × fS)} : ∀ d i H (S : fS) nn, dep H + d = 10 → d + 1 < nn → S.1 145 1 = o3 n → S.1 146 = t → RQ S x m c → RH S H → H.length ≤ i → i ≤ n → ∃ T w', lp_X11_fact_2 K nn 1 (mS S (o3 i) 0 u) = (if (opn t n (d + 1) i H).1 = 0 then K (mS T (o3 (opn t n (d + 1) i H).2.1) 0 u) else some (0, mS T w' (o3 (opn t n (d + 1) i H).1) u)) ∧ eMr x S T ∧ ((opn t n (d + 1) i H).1 = 0 → RQ T x m c ∧ RH T (opn t n (d + 1) i H).2.2) := by
  intro d
  induction d with
  | zero =>
    intro i H S nn hd hnn hn ht hR hH hL hi
    obtain ⟨nn, rfl⟩ : ∃ k, nn = k + 2 := ⟨nn - 2, by omega⟩
    subst ht
    have hj := sk_le (t := S.1 146) hi
    have hg := sk_ge (t := S.1 146) (n := n) (i := i)
    rw [lp_X11_fact_2.eq_2, if_neg (by decide), mt_see hn hl hi, bd_some, opn_s]
    dsimp only
    generalize hsk : sk (S.1 146) n i = j at hj hg
    have hid : sk (S.1 146) n j = j := by rw [← hsk]; exact sk_id
    rw [mr_word hn hl 7237492 5 (by decide) (by decide) hj, bd_some, hid]
    dsimp only
    by_cases hw : wat (S.1 146) n (mm_sb.getD 5 []) j = true
    · obtain ⟨T, e1, e2, e3, e4⟩ := mo_opens (u := u) (j := j) hR hH (by omega) (by
        have := (wat_ll (t := S.1 146) (n := n) _ j (mw_L 5 (by decide))).mp hw
        have h2 := ll_le (t := S.1 146) (n := n) _ j rfl hj
        rw [this.1, show (mm_sb.getD 5 []).length = 3 from rfl] at h2
        omega) (s := 4) (Or.inl rfl) (v := 11) rfl
      rw [if_pos hw, if_neg (by decide), e1, bd_some, if_pos (show 10 ≤ dep H by omega), if_pos hw, if_pos (show 10 ≤ dep H by omega)]
      dsimp only
      rw [if_pos rfl]
      exact ⟨S, o3 j, by rw [if_neg (by omega)], eMr.rf, fun q => by omega⟩
    · rw [if_neg hw, if_pos (by decide), if_neg hw]
      by_cases h9 : j < n ∧ S.1 146 j = 91
      · obtain ⟨T, e1, e2, e3, e4⟩ := mo_opens (u := u) (j := j) hR hH (by omega) (by omega) (s := 16) (Or.inr rfl) (v := 91) rfl
        rw [if_pos ((seen_eq hb (by decide) (by decide)).mpr h9), if_pos h9, e1, bd_some, if_pos (show 10 ≤ dep H by omega), if_pos (show 10 ≤ dep H by omega)]
        dsimp only
        rw [if_pos rfl]
        exact ⟨S, o3 j, by rw [if_neg (by omega)], eMr.rf, fun q => by omega⟩
      · rw [if_neg (fun q => h9 ((seen_eq hb (by decide) (by decide)).mp q)), if_neg h9, lp_X11_fact_2.eq_2, if_pos (by decide)]
        exact ⟨S, 0, rfl, eMr.rf, fun _ => ⟨hR, hH⟩⟩
  | succ d ih =>
    intro i H S nn hd hnn hn ht hR hH hL hi
    obtain ⟨nn, rfl⟩ : ∃ k, nn = k + 2 := ⟨nn - 2, by omega⟩
    subst ht
    have hj := sk_le (t := S.1 146) hi
    have hg := sk_ge (t := S.1 146) (n := n) (i := i)
    rw [lp_X11_fact_2.eq_2, if_neg (by decide), mt_see hn hl hi, bd_some, opn_s]
    dsimp only
    generalize hsk : sk (S.1 146) n i = j at hj hg
    have hid : sk (S.1 146) n j = j := by rw [← hsk]; exact sk_id
    rw [mr_word hn hl 7237492 5 (by decide) (by decide) hj, bd_some, hid]
    dsimp only
    by_cases hw : wat (S.1 146) n (mm_sb.getD 5 []) j = true
    · have hl3 := (wat_ll (t := S.1 146) (n := n) _ j (mw_L 5 (by decide))).mp hw
      have h2 := ll_le (t := S.1 146) (n := n) _ j rfl hj
      rw [hl3.1, show (mm_sb.getD 5 []).length = 3 from rfl] at h2
      obtain ⟨T, e1, e2, e3, e4⟩ := mo_opens (u := u) (j := j) hR hH (by omega) (by omega) (s := 4) (Or.inl rfl) (v := 11) rfl
      rw [if_pos hw, if_neg (by decide), e1, bd_some, if_neg (show ¬ 10 ≤ dep H by omega), if_pos hw, if_neg (show ¬ 10 ≤ dep H by omega)]
      dsimp only
      rw [if_neg (by decide), mt_pass ((eMr_1 e4).trans hn) hl hj, bd_some, eMr_t e4, hl3.1, show (mm_sb.getD 5 []).length = 3 from rfl]
      obtain ⟨T2, w', g1, g2, g3⟩ := ih (j + 3) (4 :: H) T (nn + 1) (by rw [dep_4]; omega) (by omega) ((eMr_1 e4).trans hn) (eMr_t e4) e2 e3 (by show H.length + 1 ≤ j + 3; omega) (by omega)
      exact ⟨T2, w', g1, e4.tr g2, g3⟩
    · rw [if_neg hw, if_pos (by decide), if_neg hw]
      by_cases h9 : j < n ∧ S.1 146 j = 91
      · obtain ⟨T, e1, e2, e3, e4⟩ := mo_opens (u := u) (j := j) hR hH (by omega) (by omega) (s := 16) (Or.inr rfl) (v := 91) rfl
        rw [if_pos ((seen_eq hb (by decide) (by decide)).mpr h9), if_pos h9, e1, bd_some, if_neg (show ¬ 10 ≤ dep H by omega), if_neg (show ¬ 10 ≤ dep H by omega)]
        dsimp only
        rw [if_neg (by decide), bd_some, mS_13, mS_nx, o3_s]
        obtain ⟨T2, w', g1, g2, g3⟩ := ih (j + 1) (16 :: H) T (nn + 1) (by rw [dep_16]; omega) (by omega) ((eMr_1 e4).trans hn) (eMr_t e4) e2 e3 (by show H.length + 1 ≤ j + 1; omega) (by omega)
        exact ⟨T2, w', g1, e4.tr g2, g3⟩
      · rw [if_neg (fun q => h9 ((seen_eq hb (by decide) (by decide)).mp q)), if_neg h9, lp_X11_fact_2.eq_2, if_pos (by decide)]
        exact ⟨S, 0, rfl, eMr.rf, fun _ => ⟨hR, hH⟩⟩
end MH
end
noncomputable section
/-! the reference: settles(), isInside(), closes() -/
theorem st_st {b b' : Nat} (hb : b ≤ b') : ∀ H, stO b' H ++ stO b (stR b' H) = stO b H ∧ stR b (stR b' H) = stR b H := by
  intro H
  induction H with
  | nil => exact ⟨rfl, rfl⟩
  | cons s H ih =>
    by_cases h : b' ≤ bnd s
    · rw [stO_c h, stR_c h, stO_c (show b ≤ bnd s by omega), stR_c (show b ≤ bnd s by omega)]
      exact ⟨congrArg _ ih.1, ih.2⟩
    · have e1 : stO b' (s :: H) = [] := by show (if b' ≤ bnd s then _ else _) = _; rw [if_neg h]
      have e2 : stR b' (s :: H) = s :: H := by show (if b' ≤ bnd s then _ else _) = _; rw [if_neg h]
      rw [e1, e2]
      exact ⟨rfl, rfl⟩
section MS
variable {t : Nat → Int32} {n x m : Nat} {i u : Int32}
theorem ms_str {y : Nat} {S : fS} (h : y = 4 ∨ y = 5 ∨ y = 6 ∨ y = 16) : f_X11_strength (o3 (hm y)) S = some (o3 (bnd y)) := by
  rcases h with rfl | rfl | rfl | rfl <;> rfl
theorem RH_po {S : fS} {H : List Nat} {s : Nat} (h : RH S (s :: H)) : RH (pI (pI S 145 21 (o3 H.length)) 145 18 (o3 (dep H))) H := by
  obtain ⟨r1, r2, r3⟩ := h
  refine ⟨?_, ?_, fun k hk => ?_⟩
  · rw [pI_ne (by omega), pI_eq]
  · rw [pI_eq]
  · rw [pI_ne (by omega), pI_ne (by omega), r3 k (by show k < H.length + 1; omega), List.reverse_cons, gd_l (by rw [List.length_reverse]; exact hk)]
theorem RH_po' {S : fS} {H : List Nat} {s : Nat} (h : RH S (s :: H)) (hs : dep (s :: H) = dep H) : RH (pI S 145 21 (o3 H.length)) H := by
  have := RH_po h
  refine RH_eq this ?_ ?_ (fun k => ?_)
  · rw [pI_eq, pI_ne (by omega), pI_eq]
  · rw [pI_ne (by omega), pI_eq, h.2.1, hs]
  · rw [pI_ne (by omega), pI_ne (by omega), pI_ne (by omega)]
theorem RH_top {S : fS} {H : List Nat} {s : Nat} (h : RH S (s :: H)) : S.1 154 H.length = o3 (hm s) := by
  rw [h.2.2 H.length (by show _ < H.length + 1; omega), List.reverse_cons]
  have := gd_r (c := H.reverse) (q := s) (d := 0)
  rw [List.length_reverse] at this
  rw [this]
theorem ms_settles (hx : x < 6) {b : Nat} (hb : 1 ≤ b) (hb3 : b ≤ 3) {K : fS → Option fS} : ∀ (H : List Nat) (c : List (Nat × Nat)) (S : fS) nn, H.length < nn → RQ S x m c → RH S H → fH H → dep H ≤ 10 → c.length + H.length ≤ 400 → ∃ T, lp_X11_settles_0 (o3 b) K nn (mS S i 0 u) = K (mS T i 0 u) ∧ eMr x S T ∧ RQ T x m (c ++ stO b H) ∧ RH T (stR b H) := by
  intro H
  induction H with
  | nil =>
    intro c S nn hnn hR hH hf hd hc
    obtain ⟨nn, rfl⟩ : ∃ k, nn = k + 1 := ⟨nn - 1, by have : 0 < nn := hnn; omega⟩
    rw [lp_X11_settles_0.eq_2, mS_ne (by omega), hH.1, if_pos (by decide)]
    exact ⟨S, rfl, eMr.rf, by rw [show stO b [] = [] from rfl, List.append_nil]; exact hR, hH⟩
  | cons s H ih =>
    intro c S nn hnn hR hH hf hd hc
    obtain ⟨nn, rfl⟩ : ∃ k, nn = k + 1 := ⟨nn - 1, by have : H.length + 1 < nn := hnn; omega⟩
    have hnn : H.length + 1 < nn + 1 := hnn
    have hc : c.length + (H.length + 1) ≤ 400 := hc
    have hs := hf s List.mem_cons_self
    have hf' : fH H := fun y hy => hf y (List.mem_cons_of_mem _ hy)
    have hb6 := bnd_6 s
    rw [lp_X11_settles_0.eq_2, mS_ne (by omega), hH.1, show (s :: H).length = H.length + 1 from rfl]
    rw [if_neg (show ¬ o3 (H.length + 1) ≤ (0 : Int32) from fun q => by have := (o3_le (b := 0) (by omega) (by omega)).mp q; omega), show (1 : Int32) = o3 1 from rfl, o3_sub (by omega), show H.length + 1 - 1 = H.length by omega, gI_o (by omega) (by omega), bd_some, mS_ne (by omega), RH_top hH, ms_str hs, bd_some]
    by_cases hq : b ≤ bnd s
    · rw [if_neg (show ¬ o3 (bnd s) < o3 b from fun q => by have := (o3_lt (by omega) (by omega)).mp q; omega), bd_some, mS_p (by omega), mS_ne (by omega), pI_eq, gI_o (by omega) (by omega), bd_some, mS_ne (by omega), pI_ne (by omega), RH_top hH]
      have h16 : s ≠ 16 := fun q => by rw [q] at hq; have : bnd 16 = 0 := rfl; omega
      have hR1 : RQ (pI S 145 21 (o3 H.length)) x m c := by
        refine RQ_eq hR ?_ ?_ (fun k => ?_) (fun k => ?_) <;> rw [pI_ne (by omega)]
      obtain ⟨T1, e1, e2, e3⟩ := mp_puts (i := i) (w := 0) (u := u) hR1 hx (by omega) (s := s) (v := 0) (a := o3 (hm s)) (b := 0) (by rcases hs with rfl | rfl | rfl | rfl <;> first | rfl | exact absurd rfl h16) rfl
      have hF := fr_f_X11_puts e1
      have k21 : T1.1 145 21 = o3 H.length := by
        have := hF.1 145 21 (by unfold w1_f_X11_puts; omega)
        rw [mS_ne (by omega), mS_ne (by omega), pI_eq] at this
        exact this
      have k18 : T1.1 145 18 = o3 (dep (s :: H)) := by
        have := hF.1 145 18 (by unfold w1_f_X11_puts; omega)
        rw [mS_ne (by omega), mS_ne (by omega), pI_ne (by omega)] at this
        exact this.trans hH.2.1
      have k154 : ∀ k, T1.1 154 k = S.1 154 k := fun k => by
        have := hF.1 154 k (by unfold w1_f_X11_puts; omega)
        rw [mS_ne (by omega), mS_ne (by omega), pI_ne (by omega)] at this
        exact this
      have hH1 : RH T1 (s :: H) → True := fun _ => trivial
      have e0 : eMr x S (pI S 145 21 (o3 H.length)) := eMr_pI (by unfold wMr; omega)
      rw [e1, bd_some, mS_ne (by omega), k21, gI_o (by omega) (by omega), bd_some, mS_ne (by omega), k154, RH_top hH, stO_c hq, stR_c hq]
      by_cases h4 : s = 4
      · subst h4
        have hd4 : dep (4 :: H) = dep H + 1 := dep_4
        rw [if_pos (show o3 (hm 4) = (11 : Int32) from rfl), bd_some, mS_ne (by omega), k18, hd4, o3_sub (by omega), show dep H + 1 - 1 = dep H by omega, mS_p (by omega)]
        have hH2 : RH (pI T1 145 18 (o3 (dep H))) H := by
          refine RH_eq (RH_po hH) ?_ ?_ (fun k => ?_)
          · rw [pI_ne (by omega), pI_ne (by omega), pI_eq, k21]
          · rw [pI_eq, pI_eq]
          · rw [pI_ne (by omega), pI_ne (by omega), pI_ne (by omega), k154]
        have hR2 : RQ (pI T1 145 18 (o3 (dep H))) x m (c ++ [(4, 0)]) := by
          refine RQ_eq e2 ?_ ?_ (fun k => ?_) (fun k => ?_) <;> rw [pI_ne (by omega)]
        obtain ⟨T, g1, g2, g3, g4⟩ := ih (c ++ [(4, 0)]) _ nn (by omega) hR2 hH2 hf' (by omega) (by rw [ln_app]; omega)
        exact ⟨T, g1, ((e0.tr e3).tr (eMr_pI (by unfold wMr; omega))).tr g2, by rw [List.append_assoc] at g3; exact g3, g4⟩
      · have hde : dep (s :: H) = dep H := dep_pu ⟨h4, h16⟩
        rw [if_neg (show ¬ o3 (hm s) = (11 : Int32) by rcases hs with rfl | rfl | rfl | rfl <;> first | exact absurd rfl h4 | decide)]
        have hH2 : RH T1 H := by
          refine RH_eq (RH_po' hH hde) ?_ ?_ (fun k => ?_)
          · rw [pI_eq, k21]
          · rw [pI_ne (by omega), k18, hH.2.1]
          · rw [pI_ne (by omega), k154]
        obtain ⟨T, g1, g2, g3, g4⟩ := ih (c ++ [(s, 0)]) _ nn (by omega) e2 hH2 hf' (by omega) (by rw [ln_app]; omega)
        exact ⟨T, g1, (e0.tr e3).tr g2, by rw [List.append_assoc] at g3; exact g3, g4⟩
    · have e1 : stO b (s :: H) = [] := by show (if b ≤ bnd s then _ else _) = _; rw [if_neg hq]
      have e2 : stR b (s :: H) = s :: H := by show (if b ≤ bnd s then _ else _) = _; rw [if_neg hq]
      rw [if_pos (show o3 (bnd s) < o3 b from (o3_lt (by omega) (by omega)).mpr (by omega)), e1, e2, List.append_nil]
      exact ⟨S, rfl, eMr.rf, hR, hH⟩
theorem ms_set (hx : x < 6) {b : Nat} (hb : 1 ≤ b) (hb3 : b ≤ 3) {H : List Nat} {c : List (Nat × Nat)} {S : fS} (hR : RQ S x m c) (hH : RH S H) (hf : fH H) (hd : dep H ≤ 10) (hc : c.length + H.length ≤ 400) : ∃ T, f_X11_settles (o3 b) (mS S i 0 u) = some (mS T i 0 u) ∧ eMr x S T ∧ RQ T x m (c ++ stO b H) ∧ RH T (stR b H) := ms_settles hx hb hb3 (K := fun S25 => some S25) H c S FU (FU_lt (by omega)) hR hH hf hd hc
theorem tk_s : ∀ (H : List Nat) (d : Nat), d < H.length → brk (H.take (d + 1)) = brk (H.take d) + (if H.getD d 0 = 16 then 1 else 0) := by
  intro H
  induction H with
  | nil => intro d h; exact absurd h (Nat.not_lt_zero _)
  | cons s H ih =>
    intro d h
    cases d with
    | zero => show brk (List.take 0 H) + _ = _; rw [List.take_zero]; rfl
    | succ d =>
      have := ih d (Nat.lt_of_succ_lt_succ h)
      show brk (List.take (d + 1) H) + _ = brk (List.take d H) + _ + _
      rw [this]
      have : (s :: H).getD (d + 1) 0 = H.getD d 0 := rfl
      rw [this]
      omega
theorem gd_rev : ∀ (H : List Nat) (d : Nat), d < H.length → H.reverse.getD (H.length - 1 - d) 0 = H.getD d 0 := by
  intro H d h
  rw [List.getD_eq_getElem?_getD, List.getElem?_reverse (by omega), List.getD_eq_getElem?_getD, show H.length - 1 - (H.length - 1 - d) = d by omega]
theorem ms_in {S : fS} {H : List Nat} (hH : RH S H) (hL : H.length ≤ 400) (hf : fH H) {K : Unit → Option Int32} : ∀ d p nn, p + d = H.length → d < nn → lp_X11_isInside_2 S K nn (o3 p) = if 0 < brk (H.take d) then some 1 else K () := by
  intro d
  induction d with
  | zero =>
    intro p nn hp hnn
    obtain ⟨nn, rfl⟩ : ∃ k, nn = k + 1 := ⟨nn - 1, by omega⟩
    rw [lp_X11_isInside_2.eq_2, hH.1, if_pos ((o3_le (by omega) (by omega)).mpr (by omega)), List.take_zero, if_neg (by decide)]
  | succ d ih =>
    intro p nn hp hnn
    obtain ⟨nn, rfl⟩ : ∃ k, nn = k + 1 := ⟨nn - 1, by omega⟩
    rw [lp_X11_isInside_2.eq_2, hH.1, if_neg (fun q => by have := (o3_le (by omega) (by omega)).mp q; omega), gI_o (by omega) (by omega), bd_some, hH.2.2 p (by omega), tk_s H d (by omega), show p = H.length - 1 - d by omega, gd_rev H d (by omega)]
    have hy : H.getD d 0 ∈ H := by
      rw [List.getD_eq_getElem?_getD, List.getElem?_eq_getElem (by omega)]
      exact List.getElem_mem _
    have hy := hf _ hy
    by_cases h16 : H.getD d 0 = 16
    · rw [if_pos (by rw [h16]; rfl), if_pos h16, if_pos (by omega)]
    · rw [if_neg (by rcases hy with e | e | e | e <;> first | exact absurd e h16 | (rw [e]; decide)), if_neg h16, Nat.add_zero, o3_s, ih (H.length - 1 - d + 1) nn (by omega) (by omega)]
theorem ms_inside {S : fS} {H : List Nat} (hH : RH S H) (hL : H.length ≤ 400) (hf : fH H) : f_X11_isInside (mS S i 0 u) = some (if 0 < brk H then 1 else 0) := by
  unfold f_X11_isInside
  have hH' : RH (mS S i 0 u) H := RH_eq hH (mS_ne (by omega)) (mS_ne (by omega)) (fun k => mS_ne (by omega))
  have := ms_in hH' hL hf (K := fun _ => some 0) H.length 0 FU (by omega) (FU_lt (by omega))
  rw [show (0 : Int32) = o3 0 from rfl] at *
  rw [this, List.take_length]
  split <;> rfl
end MS
end
noncomputable section
/-! the reference: closes(), tested() -/
/-- words that join two facts -/
def cnt : List Nat → Nat
  | [] => 0
  | s :: H => cnt H + (if s = 5 ∨ s = 6 then 1 else 0)
theorem cnt_op : ∀ (P H : List Nat), (∀ x ∈ P, x = 4 ∨ x = 16) → cnt (P ++ H) = cnt H := by
  intro P
  induction P with
  | nil => intro H _; rfl
  | cons s P ih =>
    intro H h
    show cnt (P ++ H) + _ = _
    rw [ih H (fun x hx => h x (List.mem_cons_of_mem _ hx)), if_neg (by have := h s List.mem_cons_self; omega)]
    rfl
def rep (k : Nat) : List Bool := List.replicate k true
theorem rep_s {k : Nat} : rep (k + 1) = true :: rep k := rfl
theorem ty_st {b : Nat} (hb : 1 ≤ b) : ∀ H, fH H → tyc (stO b H) (rep (cnt H + 1)) = some (rep (cnt (stR b H) + 1)) := by
  intro H
  induction H with
  | nil => intro _; rfl
  | cons s H ih =>
    intro hf
    have hs := hf s List.mem_cons_self
    have ih := ih (fun y hy => hf y (List.mem_cons_of_mem _ hy))
    by_cases h : b ≤ bnd s
    · rw [stO_c h, stR_c h]
      show (tyS (s, 0) (rep (cnt H + _ + 1))).bind (tyc (stO b H)) = _
      rcases hs with rfl | rfl | rfl | rfl
      · exact ih
      · exact ih
      · exact ih
      · exact absurd h (by show ¬ b ≤ 0; omega)
    · have e1 : stO b (s :: H) = [] := by show (if b ≤ bnd s then _ else _) = _; rw [if_neg h]
      have e2 : stR b (s :: H) = s :: H := by show (if b ≤ bnd s then _ else _) = _; rw [if_neg h]
      rw [e1, e2]
      rfl
theorem ty_clo {t : Nat → Int32} {n : Nat} : ∀ f i H, fH H → tyc (clo t n f i H).1 (rep (cnt H + 1)) = some (rep (cnt (clo t n f i H).2.2 + 1)) := by
  intro f
  induction f with
  | zero => intro i H _; rfl
  | succ f ih =>
    intro i H hf
    rw [clo_s]
    by_cases hb : 0 < brk H
    · rw [if_pos hb]
      by_cases h9 : sk t n i < n ∧ t (sk t n i) = 93
      · rw [if_pos h9]
        obtain ⟨H', p1, p2, p3, p4, p5⟩ := st1_16 H (fH_el hf) hb
        dsimp only
        rw [tyc_app, ty_st (by omega) H hf, Option.bind_some, p1]
        have hf' : fH H' := fun y hy => by
          refine hf y (stR_mem (b := 1) H ?_)
          rw [p1]; exact List.mem_cons_of_mem _ hy
        exact ih _ H' hf'
      · rw [if_neg h9]; rfl
    · rw [if_neg hb]; rfl
section MT8
variable {t : Nat → Int32} {n x : Nat}
theorem fH_len {b : Nat} (H : List Nat) : (stO b H).length + (stR b H).length = H.length := stR_len H
theorem mb_closes (hl : n ≤ 400) (hx : x < 6) (hb : ∀ k, byt (t k)) {K : fS → Option fS} {m : Nat} {u : Int32} : ∀ d (H : List Nat) (c : List (Nat × Nat)) (S : fS) (i nn : Nat), brk H = d → d < nn → S.1 145 1 = o3 n → S.1 146 = t → RQ S x m (c ++ stO 3 H) → RH S (stR 3 H) → fH H → dep H ≤ 10 → c.length + H.length ≤ i → i ≤ n → ∃ T, lp_X11_closes_5 K nn (mS S (o3 i) 0 u) = K (mS T (o3 (sk t n (clo t n (d + 1) i H).2.1)) 0 u) ∧ eMr x S T ∧ RQ T x m (c ++ (clo t n (d + 1) i H).1 ++ stO 3 (clo t n (d + 1) i H).2.2) ∧ RH T (stR 3 (clo t n (d + 1) i H).2.2) ∧ fH (clo t n (d + 1) i H).2.2 := by
  intro d
  induction d with
  | zero =>
    intro H c S i nn hd hnn hn ht hR hH hf hD hc hi
    obtain ⟨nn, rfl⟩ : ∃ k, nn = k + 1 := ⟨nn - 1, by omega⟩
    subst ht
    have hlen := stR_len (b := 3) H
    rw [lp_X11_closes_5.eq_2, mt_see hn hl hi, bd_some, clo_s, if_neg (show ¬ 0 < brk H by omega)]
    dsimp only
    rw [List.append_nil]
    by_cases h9 : seen (S.1 146) n (sk (S.1 146) n i) = 93
    · rw [if_pos h9, ms_inside hH (by omega) (fH_st hf), bd_some, stR_brk (by omega), hd, if_neg (show ¬ 0 < 0 by omega), if_pos rfl]
      exact ⟨S, rfl, eMr.rf, hR, hH, hf⟩
    · rw [if_neg h9]
      exact ⟨S, rfl, eMr.rf, hR, hH, hf⟩
  | succ d ih =>
    intro H c S i nn hd hnn hn ht hR hH hf hD hc hi
    obtain ⟨nn, rfl⟩ : ∃ k, nn = k + 1 := ⟨nn - 1, by omega⟩
    subst ht
    have hlen := stR_len (b := 3) H
    have hlen1 := stR_len (b := 1) H
    have hj := sk_le (t := S.1 146) hi
    have hg := sk_ge (t := S.1 146) (n := n) (i := i)
    rw [lp_X11_closes_5.eq_2, mt_see hn hl hi, bd_some, clo_s, if_pos (show 0 < brk H by omega)]
    dsimp only
    by_cases h9 : sk (S.1 146) n i < n ∧ S.1 146 (sk (S.1 146) n i) = 93
    · obtain ⟨H', p1, p2, p3, p4, p5⟩ := st1_16 H (fH_el hf) (by omega)
      obtain ⟨s1, s2⟩ := st_st (b := 1) (b' := 3) (by omega) H
      rw [if_pos ((seen_eq hb (by decide) (by decide)).mpr h9), if_pos h9, ms_inside hH (by omega) (fH_st hf), bd_some, stR_brk (by omega), if_pos (show 0 < brk H by omega), if_neg (show ¬ (1 : Int32) = 0 by decide)]
      have hcl : (c ++ stO 3 H).length = c.length + (stO 3 H).length := List.length_append
      obtain ⟨T1, e1, e2, e3, e4⟩ := ms_set (i := o3 (sk (S.1 146) n i)) (u := u) hx (b := 1) (by omega) (by omega) hR hH (fH_st hf) (Nat.le_trans (stR_dep H) hD) (by omega)
      rw [s2, p1] at e4
      rw [List.append_assoc, s1] at e3
      have e1' : f_X11_settles 1 (mS S (o3 (sk (S.1 146) n i)) 0 u) = some (mS T1 (o3 (sk (S.1 146) n i)) 0 u) := e1
      have q21 : T1.1 145 21 = o3 (H'.length + 1) := e4.1
      have q18 : T1.1 145 18 = o3 (dep H' + 1) := e4.2.1
      rw [e1', bd_some, bd_some, mS_ne (by omega), q21, show (1 : Int32) = o3 1 from rfl, o3_sub (by omega), show H'.length + 1 - 1 = H'.length by omega, mS_p (by omega), bd_some, mS_ne (by omega), pI_ne (by omega), q18, o3_sub (by omega), show dep H' + 1 - 1 = dep H' by omega, mS_p (by omega), bd_some, mS_13, mS_nx, o3_add]
      have hH2 := RH_po e4
      have hf' : fH H' := fun y hy => by
        refine hf y (stR_mem (b := 1) H ?_)
        rw [p1]; exact List.mem_cons_of_mem _ hy
      have hR2 : RQ (pI (pI T1 145 21 (o3 H'.length)) 145 18 (o3 (dep H'))) x m (c ++ stO 1 H) := by
        refine RQ_eq e3 ?_ ?_ (fun k => ?_) (fun k => ?_) <;> rw [pI_ne (by omega), pI_ne (by omega)]
      have hE : eMr x S (pI (pI T1 145 21 (o3 H'.length)) 145 18 (o3 (dep H'))) := (e2.tr (eMr_pI (by unfold wMr; omega))).tr (eMr_pI (by unfold wMr; omega))
      have hcl2 : (c ++ stO 1 H).length = c.length + (stO 1 H).length := List.length_append
      obtain ⟨T2, g1, g2, g3, g4⟩ := ms_set (i := o3 (sk (S.1 146) n i + 1)) (u := u) hx (b := 3) (by omega) (by omega) hR2 hH2 hf' (by omega) (by omega)
      have g1' : f_X11_settles 3 (mS (pI (pI T1 145 21 (o3 H'.length)) 145 18 (o3 (dep H'))) (o3 (sk (S.1 146) n i + 1)) 0 u) = some (mS T2 (o3 (sk (S.1 146) n i + 1)) 0 u) := g1
      rw [g1', bd_some]
      have hE2 := hE.tr g2
      obtain ⟨T3, k1, k2, k3, k4, k5⟩ := ih H' (c ++ stO 1 H) T2 (sk (S.1 146) n i + 1) nn (by omega) (by omega) ((eMr_1 hE2).trans hn) (eMr_t hE2) g3 g4 hf' (by omega) (by omega) (by omega)
      rw [p1, show (16 :: H').tail = H' from rfl]
      refine ⟨T3, k1, hE2.tr k2, ?_, k4, k5⟩
      rw [← List.append_assoc]
      exact k3
    · rw [if_neg (fun q => h9 ((seen_eq hb (by decide) (by decide)).mp q)), if_neg h9]
      dsimp only
      rw [List.append_nil, sk_id]
      exact ⟨S, rfl, eMr.rf, hR, hH, hf⟩
theorem mb_close (hl : n ≤ 400) (hx : x < 6) (hb : ∀ k, byt (t k)) {m : Nat} {u : Int32} {H : List Nat} {c : List (Nat × Nat)} {S : fS} {i : Nat} (hn : S.1 145 1 = o3 n) (ht : S.1 146 = t) (hR : RQ S x m c) (hH : RH S H) (hf : fH H) (hD : dep H ≤ 10) (hc : c.length + H.length ≤ i) (hi : i ≤ n) : ∃ T, f_X11_closes (mS S (o3 i) 0 u) = some (mS T (o3 (sk t n (clo t n (brk H + 1) i H).2.1)) 0 u) ∧ eMr x S T ∧ RQ T x m (c ++ (clo t n (brk H + 1) i H).1 ++ stO 3 (clo t n (brk H + 1) i H).2.2) ∧ RH T (stR 3 (clo t n (brk H + 1) i H).2.2) ∧ fH (clo t n (brk H + 1) i H).2.2 := by
  unfold f_X11_closes
  obtain ⟨T1, e1, e2, e3, e4⟩ := ms_set (i := o3 i) (u := u) hx (b := 3) (by omega) (by omega) hR hH hf hD (by omega)
  have e1' : f_X11_settles 3 (mS S (o3 i) 0 u) = some (mS T1 (o3 i) 0 u) := e1
  rw [e1', bd_some]
  obtain ⟨T3, k1, k2, k3, k4, k5⟩ := mb_closes hl hx hb (K := fun S27 => some S27) (u := u) (brk H) H c T1 i FU rfl (FU_lt (by have := brk_dep H; omega)) ((eMr_1 e2).trans hn) ((eMr_t e2).trans ht) e3 e4 hf hD hc hi
  exact ⟨T3, k1, e2.tr k2, k3, k4, k5⟩
theorem RUN_due {cp : Bool} {m i : Nat} {c : List (Nat × Nat)} {H : List Nat} (he : elH H) (hd : dep H ≤ 10) (hi : i ≤ n) : RUN t n (true, cp, m, c, H, i) = if (opn t n (11 - dep H) i H).1 = 0 then VR t n false m c (opn t n (11 - dep H) i H).2.2 (opn t n (11 - dep H) i H).2.1 else ((opn t n (11 - dep H) i H).1, 0, 0, []) := by
  rw [RUN_s ⟨he, hd, hi⟩]
  unfold stp
  dsimp only
  rw [if_pos rfl]
  by_cases h : (opn t n (11 - dep H) i H).1 = 0
  · rw [if_pos h, if_pos h]; rfl
  · rw [if_neg h, if_neg h]; rfl
theorem mb_fact (hl : n ≤ 400) (hx : x < 6) (hb : ∀ k, byt (t k)) {S : fS} {m i : Nat} {c : List (Nat × Nat)} {H : List Nat} {u : Int32} (hn : S.1 145 1 = o3 n) (ht : S.1 146 = t) (hR : RQ S x m c) (hH : RH S H) (hf : fH H) (hD : dep H ≤ 10) (hm : m ≤ 60) (hc : c.length + H.length ≤ i) (hi : i ≤ n) : ∃ F T i' m' c' H' w' u', f_X11_fact (mS S (o3 i) 0 u) = some (if F = 0 then (1, mS T (o3 i') 0 u') else (0, mS T w' (o3 F) u')) ∧ eMr x S T ∧ (F = 0 → RQ T x m' c' ∧ RH T H' ∧ fH H' ∧ dep H' ≤ 10 ∧ i < i' ∧ i' ≤ n ∧ sk t n i' = i' ∧ m' ≤ 60 ∧ c'.length + H'.length ≤ i' ∧ rk t n i' = 0 ∧ cnt H' = cnt H ∧ ∃ e, c' = c ++ e ∧ tyB e) ∧ ∀ cp, RUN t n (true, cp, m, c, H, i) = if F = 0 then AR t n true m' c' H' i' else (F, 0, 0, []) := by
  unfold f_X11_fact
  obtain ⟨T1, w1, e1, e2, e3⟩ := mo_fact hl hb (K := fun S24 => (f_X11_compare S24).bind fun q26 => (bZ q26.1).bind fun z29 => some (z29, q26.2)) (u := u) (10 - dep H) i H S FU (by omega) (FU_lt (by omega)) hn ht hR hH (by omega) hi
  rw [show 10 - dep H + 1 = 11 - dep H by omega] at e1 e3
  rw [e1]
  have hr : ∀ cp, _ := fun cp => RUN_due (t := t) (cp := cp) (m := m) (c := c) (fH_el hf) hD hi
  have hpr := opn_pr (t := t) (n := n) (11 - dep H) i H hi hD
  generalize opn t n (11 - dep H) i H = Q at e3 hr hpr
  by_cases hq : Q.1 = 0
  · obtain ⟨P, p1, p2, p3, p4, p5, p6⟩ := hpr hq
    obtain ⟨k1, k2⟩ := e3 hq
    have hfq : fH Q.2.2 := fun y hy => by
      rw [p1] at hy
      rcases List.mem_append.mp hy with hy | hy
      · have := p2 y hy; omega
      · exact hf y hy
    have hlen : Q.2.2.length = P.length + H.length := by rw [p1, List.length_append]
    rw [if_pos hq]
    obtain ⟨F, T, i', m', c', w', u', a1, ⟨a2, a3⟩, a4, a5⟩ := mx_cmp hl hx hb (u := u) ((eMr_1 e2).trans hn) ((eMr_t e2).trans ht) k1 hm (show c.length ≤ Q.2.1 by omega) p5
    rw [a1, bd_some]
    have htp : tp 4 Q.2.2 := by
      cases hQ : Q.2.2 with
      | nil => exact ⟨rfl, rfl⟩
      | cons s G => exact tp_c (by
          have := hfq s (by rw [hQ]; exact List.mem_cons_self)
          rcases this with e | e | e | e <;> rw [e] <;> decide)
    have key : ∀ cp, RUN t n (true, cp, m, c, H, i) = if F = 0 then AR t n true m' c' Q.2.2 i' else (F, 0, 0, []) := fun cp => by
      rw [hr cp, if_pos hq, a5 Q.2.2 (fH_el hfq) p3 htp]
    by_cases hF : F = 0
    · obtain ⟨d1, d2, d3, d4, d5, d6⟩ := a3 hF
      obtain ⟨f1, f2, f3⟩ := a4 hF
      rw [if_pos hF]
      refine ⟨F, T, i', m', c', Q.2.2, w', u', by rw [if_pos hF]; rfl, e2.tr a2, fun _ => ⟨d1, ?_, hfq, p3, by omega, d3, d4, d5, by omega, f2, by rw [p1]; exact cnt_op P H p2, f3⟩, key⟩
      rw [if_pos hF] at a1
      exact RH_fr k2 (fr_f_X11_compare a1) (by unfold w1_f_X11_compare; omega) (by unfold w1_f_X11_compare; omega) (fun k => by unfold w1_f_X11_compare; omega)
    · rw [if_neg hF]
      exact ⟨F, T, i', m', c', Q.2.2, w', u', by rw [if_neg hF]; rfl, e2.tr a2, fun q => absurd q hF, key⟩
  · rw [if_neg hq]
    refine ⟨Q.1, T1, 0, 0, [], [], w1, u, by rw [if_neg hq], e2, fun q => absurd q hq, fun cp => ?_⟩
    rw [hr cp, if_neg hq, if_neg hq]
end MT8
end
noncomputable section
/-! the reference: tested() -/
section MT9
variable {t : Nat → Int32} {n x : Nat}
theorem RH_pu2 {S : fS} {H : List Nat} {s : Nat} (h : RH S H) (hd : dep (s :: H) = dep H) : RH (pI (pI S 154 H.length (o3 (hm s))) 145 21 (o3 (H.length + 1))) (s :: H) := by
  refine RH_eq (RH_pu h hd.symm) ?_ ?_ (fun k => ?_)
  · rw [pI_eq, pI_eq]
  · rw [pI_ne (by omega), pI_ne (by omega), pI_ne (by omega), pI_ne (by omega), pI_eq, h.2.1]
  · by_cases e : k = H.length
    · subst e
      rw [pI_ne (by omega), pI_eq, pI_ne (by omega), pI_eq]
    · rw [pI_ne (by omega), pI_ne (by omega), pI_ne (by omega), pI_ne (by omega), pI_ne (by omega)]
def tstK : fS → Option (Int32 × fS) := fun S128 => (f_X11_isInside  S128).bind fun q130 =>
  if q130 = (0 : Int32) then ((f_X11_settles (1 : Int32) S128).bind fun q134 =>
  some ((1 : Int32), q134)) else
  ((f_X11_see  S128).bind fun q137 =>
  (f_X11_fails (0 : Int32) (q137.2.1 145 13) q137.2).bind fun q140 =>
  (bZ q140.1).bind fun z143 => some (z143, q140.2))
/-- a joining word: settled, held, passed -/
theorem mb_push (hl : n ≤ 400) (hx : x < 6) {m : Nat} {u : Int32} {H : List Nat} {c : List (Nat × Nat)} {S : fS} {e s : Nat} (hn : S.1 145 1 = o3 n) (ht : S.1 146 = t) (hR : RQ S x m (c ++ stO 3 H)) (hH : RH S (stR 3 H)) (hf : fH H) (hD : dep H ≤ 10) (hc : c.length + H.length < 400) (hs : s = 5 ∨ s = 6) {sv : Int32} (hv : sv = o3 (hm s)) {β : Type} {G : fS → Option β} (he : e ≤ n) : ∃ T, ((f_X11_passWord (mS S (o3 e) 0 u)).bind fun q39 => (f_X11_strength sv q39).bind fun q42 => (f_X11_settles q42 q39).bind fun q45 => (sI q45 154 400 (q45.1 145 21) sv).bind fun S48 => (some (pI S48 145 21 ((S48.1 145 21) + (1 : Int32)))).bind G) = G (mS T (o3 (e + ll t n e)) 0 u) ∧ eMr x S T ∧ RQ T x m (c ++ stO (bnd s) H) ∧ RH T (s :: stR (bnd s) H) := by
  subst hv
  obtain ⟨s1, s2⟩ := st_st (b := bnd s) (b' := 3) (by rcases hs with rfl | rfl <;> decide) H
  have hlen := stR_len (b := 3) H
  have hlen1 := stR_len (b := bnd s) H
  have hcl : (c ++ stO 3 H).length = c.length + (stO 3 H).length := List.length_append
  rw [mt_pass hn hl he, bd_some, ms_str (by omega), bd_some, ht]
  obtain ⟨T1, e1, e2, e3, e4⟩ := ms_set (i := o3 (e + ll t n e)) (u := u) hx (b := bnd s) (by rcases hs with rfl | rfl <;> decide) (by rcases hs with rfl | rfl <;> decide) hR hH (fH_st hf) (Nat.le_trans (stR_dep H) hD) (by omega)
  rw [s2] at e4
  rw [List.append_assoc, s1] at e3
  rw [e1, bd_some, mS_ne (by omega), e4.1, sI_o (by omega) (by omega), bd_some, mS_p (by omega), bd_some, mS_ne (by omega), pI_ne (by omega), e4.1, o3_s, mS_p (by omega)]
  refine ⟨_, rfl, (e2.tr (eMr_pI (by unfold wMr; omega))).tr (eMr_pI (by unfold wMr; omega)), ?_, RH_pu2 e4 (dep_pu (by omega))⟩
  refine RQ_eq e3 ?_ ?_ (fun k => ?_) (fun k => ?_) <;> rw [pI_ne (by omega), pI_ne (by omega)]
theorem AR_true {m i : Nat} {c : List (Nat × Nat)} {H : List Nat} (hr : rk t n i = 0) (hs : sk t n i = i) : AR t n true m c H i = (if jn t n (sk t n (clo t n (brk H + 1) i H).2.1) = 0 then
        (if brk (clo t n (brk H + 1) i H).2.2 = 0 then (0, sk t n (clo t n (brk H + 1) i H).2.1, m, c ++ (clo t n (brk H + 1) i H).1 ++ stO 1 (clo t n (brk H + 1) i H).2.2)
          else (1 + 8 * sk t n (clo t n (brk H + 1) i H).2.1, 0, 0, []))
        else RUN t n (true, false, m, c ++ (clo t n (brk H + 1) i H).1 ++ stO (bnd (jn t n (sk t n (clo t n (brk H + 1) i H).2.1))) (clo t n (brk H + 1) i H).2.2, jn t n (sk t n (clo t n (brk H + 1) i H).2.1) :: stR (bnd (jn t n (sk t n (clo t n (brk H + 1) i H).2.1))) (clo t n (brk H + 1) i H).2.2, sk t n (clo t n (brk H + 1) i H).2.1 + jnL (jn t n (sk t n (clo t n (brk H + 1) i H).2.1)))) := by
  unfold AR aft
  rw [hs, if_pos hr, if_pos rfl]
  generalize clo t n (brk H + 1) i H = Q
  by_cases h1 : jn t n (sk t n Q.2.1) = 0
  · rw [if_pos h1, if_pos h1]
    by_cases h2 : brk Q.2.2 = 0
    · rw [if_pos h2, if_pos h2]; rfl
    · rw [if_neg h2, if_neg h2]; rfl
  · rw [if_neg h1, if_neg h1]; rfl
theorem cnt_0 : ∀ {H : List Nat}, fH H → brk H = 0 → cnt (stR 1 H) = 0 := by
  intro H
  induction H with
  | nil => intro _ _; rfl
  | cons s H ih =>
    intro hf hb
    have hs := hf s List.mem_cons_self
    have h16 : s ≠ 16 := fun q => by rw [q, brk_16] at hb; omega
    rw [brk_c h16] at hb
    rw [stR_c (by rcases hs with rfl | rfl | rfl | rfl <;> first | decide | exact absurd rfl h16)]
    exact ih (fun y hy => hf y (List.mem_cons_of_mem _ hy)) hb
def rOK (t : Nat → Int32) (n x i : Nat) (T : fS) (r : TR) : Prop := r.1 = 0 → RQ T x r.2.2.1 r.2.2.2 ∧ r.2.1 ≤ n ∧ i < r.2.1 ∧ sk t n r.2.1 = r.2.1 ∧ r.2.2.1 ≤ 60 ∧ r.2.2.2.length ≤ r.2.1
theorem mb_tst (hl : n ≤ 400) (hx : x < 6) (hb : ∀ k, byt (t k)) {c0 : List (Nat × Nat)} : ∀ d i m c H (S : fS) (u : Int32) (cp : Bool) nn, n - i ≤ d → d + 1 < nn → S.1 145 1 = o3 n → S.1 146 = t → RQ S x m c → RH S H → fH H → dep H ≤ 10 → m ≤ 60 → c.length + H.length ≤ i → i ≤ n → (∃ e0, c = c0 ++ e0 ∧ tyc e0 [] = some (rep (cnt H))) → ∃ T w' u', lp_X11_tested_12 tstK nn 1 (mS S (o3 i) 0 u) = some (if (RUN t n (true, cp, m, c, H, i)).1 = 0 then (1, mS T (o3 (RUN t n (true, cp, m, c, H, i)).2.1) 0 u') else (0, mS T w' (o3 (RUN t n (true, cp, m, c, H, i)).1) u')) ∧ eMr x S T ∧ rOK t n x i T (RUN t n (true, cp, m, c, H, i)) ∧ ((RUN t n (true, cp, m, c, H, i)).1 = 0 → ∃ e, (RUN t n (true, cp, m, c, H, i)).2.2.2 = c0 ++ e ∧ tyc e [] = some [true]) := by
  intro d
  induction d with
  | zero =>
    intro i m c H S u cp nn hd hnn hn ht hR hH hf hD hm hc hi hty
    obtain ⟨nn, rfl⟩ : ∃ k, nn = k + 1 := ⟨nn - 1, by omega⟩
    obtain ⟨F, T, i', m', c', H', w', u', a1, a2, a3, a4⟩ := mb_fact hl hx hb (u := u) hn ht hR hH hf hD hm hc hi
    rw [lp_X11_tested_12.eq_2, if_neg (by decide), a1, bd_some, a4 cp]
    by_cases hF : F = 0
    · obtain ⟨_, _, _, _, q1, q2, _⟩ := a3 hF
      omega
    · rw [if_neg hF, if_neg hF]
      dsimp only
      rw [if_pos rfl]
      exact ⟨T, w', u', by rw [if_neg hF], a2, fun q => absurd q hF, fun q => absurd q hF⟩
  | succ d ih =>
    intro i m c H S u cp nn hd hnn hn ht hR hH hf hD hm hc hi hty
    obtain ⟨nn, rfl⟩ : ∃ k, nn = k + 1 := ⟨nn - 1, by omega⟩
    obtain ⟨F, T, i', m', c', H', w', u', a1, a2, a3, a4⟩ := mb_fact hl hx hb (u := u) hn ht hR hH hf hD hm hc hi
    rw [lp_X11_tested_12.eq_2, if_neg (by decide), a1, bd_some, a4 cp]
    by_cases hF : F = 0
    · obtain ⟨b1, b2, b3, b4, b5, b6, b7, b8, b9, b10, b11, e9, b12, b13⟩ := a3 hF
      obtain ⟨e0, t1, t2⟩ := hty
      have hcl0 := ty_clo (t := t) (n := n) (brk H' + 1) i' H' b3
      rw [if_pos hF, if_pos hF]
      dsimp only
      rw [if_neg (show ¬ (1 : Int32) = 0 by decide)]
      obtain ⟨T2, e1, e2, e3, e4, e5⟩ := mb_close hl hx hb (u := u') ((eMr_1 a2).trans hn) ((eMr_t a2).trans ht) b1 b2 b3 b4 b9 b6
      have hpr := clo_pr (n := n) (t := t) (brk H' + 1) H' i' (fH_el b3) (by omega) b6
      rw [e1, bd_some, AR_true b10 b7]
      generalize clo t n (brk H' + 1) i' H' = Q at e3 e4 e5 hpr hcl0
      have hT : tyc (e0 ++ e9 ++ Q.1) [] = some (rep (cnt Q.2.2 + 1)) := by
        rw [tyc_app, tyc_app, t2, Option.bind_some, b13, Option.bind_some, ← b11, ← rep_s, hcl0]
      have hC : c' ++ Q.1 = c0 ++ (e0 ++ e9 ++ Q.1) := by rw [b12, t1]; simp only [List.append_assoc]
      obtain ⟨q1, q2, q3, q4, q5⟩ := hpr
      have hE := a2.tr e2
      have hn2 := (eMr_1 hE).trans hn
      have ht2 := (eMr_t hE).trans ht
      have hj := sk_le (t := t) q5
      have hg := sk_ge (t := t) (n := n) (i := Q.2.1)
      have hid := sk_id (t := t) (n := n) (i := Q.2.1)
      generalize sk t n Q.2.1 = e at hj hg hid
      have hcl : (c' ++ Q.1).length = c'.length + Q.1.length := List.length_append
      rw [mr_word hn2 hl 6385252 14 (by decide) (by decide) hj, bd_some, ht2, hid]
      dsimp only
      by_cases hw : wat t n (mm_sb.getD 14 []) e = true
      · have hjn : jn t n e = 5 := by unfold jn; rw [if_pos hw]
        obtain ⟨j1, j2, j3⟩ := jn_cs (t := t) hj (by omega)
        have hll : ll t n e = 3 := ((wat_ll (t := t) (n := n) _ e (mw_L 14 (by decide))).mp hw).1
        rw [hjn] at j2 ⊢
        have j2 : e + 3 ≤ n := j2
        rw [if_pos hw, if_neg (show ¬ (1 : Int32) = 0 by decide), if_neg (show ¬ (1 : Int32) = 0 by decide), mr_word hn2 hl 6385252 14 (by decide) (by decide) hj, bd_some, ht2, hid, if_pos hw]
        dsimp only
        rw [if_neg (show ¬ (1 : Int32) = 0 by decide), if_neg (show ¬ 5 = 0 by decide)]
        obtain ⟨T3, g1, g2, g3, g4⟩ := mb_push (u := u') (e := e) hl hx hn2 ht2 e3 e4 e5 (by omega) (by omega) (s := 5) (Or.inl rfl) (sv := 12) rfl (G := fun S51 => lp_X11_tested_12 tstK nn 1 S51) hj
        rw [g1, hll]
        have hE2 := hE.tr g2
        have hlen := stR_len (b := bnd 5) Q.2.2
        obtain ⟨T4, w4, u4, k1, k2, k3, k4⟩ := ih (e + 3) m' (c' ++ Q.1 ++ stO (bnd 5) Q.2.2) (5 :: stR (bnd 5) Q.2.2) T3 u' false nn (by omega) (by omega) ((eMr_1 hE2).trans hn) ((eMr_t hE2).trans ht) g3 g4 (fH_c (fH_st e5) (by decide)) (by rw [dep_pu (by decide)]; exact Nat.le_trans (stR_dep _) (by omega)) b8 (by rw [List.length_append, List.length_cons]; omega) j2 ⟨e0 ++ e9 ++ Q.1 ++ stO (bnd 5) Q.2.2, by rw [hC, List.append_assoc], by rw [tyc_app, hT, Option.bind_some, ty_st (by decide) Q.2.2 e5]; rfl⟩
        exact ⟨T4, w4, u4, k1, hE2.tr k2, fun q => by
          obtain ⟨z1, z2, z3, z4⟩ := k3 q
          exact ⟨z1, z2, Nat.lt_of_le_of_lt (show i ≤ e + 3 by omega) z3, z4⟩, k4⟩
      · rw [if_neg hw, if_pos rfl, mr_word hn2 hl 28530 15 (by decide) (by decide) hj, bd_some, ht2, hid]
        dsimp only
        by_cases hw2 : wat t n (mm_sb.getD 15 []) e = true
        · have hjn : jn t n e = 6 := by unfold jn; rw [if_neg hw, if_pos hw2]
          obtain ⟨j1, j2, j3⟩ := jn_cs (t := t) hj (by omega)
          have hll : ll t n e = 2 := ((wat_ll (t := t) (n := n) _ e (mw_L 15 (by decide))).mp hw2).1
          rw [hjn] at j2 ⊢
          have j2 : e + 2 ≤ n := j2
          rw [if_pos hw2, if_neg (show ¬ (1 : Int32) = 0 by decide), if_neg (show ¬ (1 : Int32) = 0 by decide), mr_word hn2 hl 6385252 14 (by decide) (by decide) hj, bd_some, ht2, hid, if_neg hw]
          dsimp only
          rw [if_pos rfl, if_neg (show ¬ 6 = 0 by decide)]
          obtain ⟨T3, g1, g2, g3, g4⟩ := mb_push (u := u') (e := e) hl hx hn2 ht2 e3 e4 e5 (by omega) (by omega) (s := 6) (Or.inr rfl) (sv := 13) rfl (G := fun S51 => lp_X11_tested_12 tstK nn 1 S51) hj
          rw [g1, hll]
          have hE2 := hE.tr g2
          have hlen := stR_len (b := bnd 6) Q.2.2
          obtain ⟨T4, w4, u4, k1, k2, k3, k4⟩ := ih (e + 2) m' (c' ++ Q.1 ++ stO (bnd 6) Q.2.2) (6 :: stR (bnd 6) Q.2.2) T3 u' false nn (by omega) (by omega) ((eMr_1 hE2).trans hn) ((eMr_t hE2).trans ht) g3 g4 (fH_c (fH_st e5) (by decide)) (by rw [dep_pu (by decide)]; exact Nat.le_trans (stR_dep _) (by omega)) b8 (by rw [List.length_append, List.length_cons]; omega) j2 ⟨e0 ++ e9 ++ Q.1 ++ stO (bnd 6) Q.2.2, by rw [hC, List.append_assoc], by rw [tyc_app, hT, Option.bind_some, ty_st (by decide) Q.2.2 e5]; rfl⟩
          exact ⟨T4, w4, u4, k1, hE2.tr k2, fun q => by
            obtain ⟨z1, z2, z3, z4⟩ := k3 q
            exact ⟨z1, z2, Nat.lt_of_le_of_lt (show i ≤ e + 2 by omega) z3, z4⟩, k4⟩
        · have hjn : jn t n e = 0 := by unfold jn; rw [if_neg hw, if_neg hw2]
          obtain ⟨nn, rfl⟩ : ∃ k, nn = k + 1 := ⟨nn - 1, by omega⟩
          rw [hjn, if_pos rfl, if_neg hw2, if_pos rfl, if_pos rfl, lp_X11_tested_12.eq_2, if_pos rfl]
          unfold tstK
          have hlen3 := stR_len (b := 3) Q.2.2
          rw [ms_inside e4 (by omega) (fH_st e5), bd_some, stR_brk (by omega)]
          by_cases hbk : brk Q.2.2 = 0
          · rw [if_neg (show ¬ 0 < brk Q.2.2 by omega), if_pos rfl, if_pos hbk]
            obtain ⟨s1, s2⟩ := st_st (b := 1) (b' := 3) (by decide) Q.2.2
            have hlen1 := stR_len (b := 1) Q.2.2
            obtain ⟨T3, g1, g2, g3, g4⟩ := ms_set (i := o3 e) (u := u') hx (b := 1) (by omega) (by omega) e3 e4 (fH_st e5) (Nat.le_trans (stR_dep _) (by omega)) (by rw [List.length_append]; omega)
            have g1' : f_X11_settles 1 (mS T2 (o3 e) 0 u') = some (mS T3 (o3 e) 0 u') := g1
            rw [List.append_assoc, s1] at g3
            rw [g1', bd_some]
            refine ⟨T3, 0, u', by rw [if_pos rfl], hE.tr g2, fun _ => ⟨g3, hj, by show i < e; omega, hid, b8, ?_⟩, fun _ => ⟨e0 ++ e9 ++ Q.1 ++ stO 1 Q.2.2, by show c' ++ Q.1 ++ _ = _; rw [hC, List.append_assoc], ?_⟩⟩
            rotate_left
            · rw [tyc_app, hT, Option.bind_some, ty_st (by decide) Q.2.2 e5, cnt_0 e5 hbk]
              rfl
            show (c' ++ Q.1 ++ stO 1 Q.2.2).length ≤ e
            rw [List.length_append]
            omega
          · rw [if_pos (show 0 < brk Q.2.2 by omega), if_neg (show ¬ (1 : Int32) = 0 by decide), if_neg hbk, mt_see hn2 hl hj, bd_some, ht2, hid]
            dsimp only
            rw [mS_13, mt_fails mS_14, bd_some, mS_wr, show (8 : Int32) = o3 8 from rfl, show (1 : Int32) = o3 1 from rfl, show (0 : Int32) = o3 0 from rfl, o3_mul, o3_add, o3_add]
            refine ⟨T2, o3 e, u', ?_, hE, fun q => absurd q (show ¬ 1 + 8 * e = 0 by omega), fun q => absurd q (show ¬ 1 + 8 * e = 0 by omega)⟩
            rw [if_neg (show ¬ 1 + 8 * e = 0 by omega)]
            rfl
    · rw [if_neg hF, if_neg hF]
      dsimp only
      rw [if_pos rfl]
      exact ⟨T, w', u', by rw [if_neg hF], a2, fun q => absurd q hF, fun q => absurd q hF⟩
end MT9
/-! what is written: steps that can be; values as many as made -/
def okSt (q : Nat × Nat) : Prop := q.1 ≤ 15 ∧ q.2 ≤ 99999 ∧ (q.1 = 3 → q.2 < 8)
def nv : List (Nat × Nat) → Nat
  | [] => 0
  | q :: c => nv c + (if q.1 = 2 ∨ q.1 = 3 then 1 else 0)
theorem nv_app : ∀ c e : List (Nat × Nat), nv (c ++ e) = nv c + nv e := by
  intro c
  induction c with
  | nil => intro e; show nv e = 0 + nv e; omega
  | cons q c ih =>
    intro e
    show nv (c ++ e) + _ = nv c + _ + nv e
    rw [ih e]
    omega
def okc (m0 m : Nat) (c : List (Nat × Nat)) : Prop := (∀ q ∈ c, okSt q) ∧ nv c + m0 ≤ m ∧ m ≤ 60
theorem stO_ok {b : Nat} (hb : 1 ≤ b) : ∀ H, elH H → (∀ q ∈ stO b H, okSt q) ∧ nv (stO b H) = 0 := by
  intro H
  induction H with
  | nil => intro _; exact ⟨fun q hq => absurd hq List.not_mem_nil, rfl⟩
  | cons s H ih =>
    intro he
    have hs := he s List.mem_cons_self
    have ih := ih (fun y hy => he y (List.mem_cons_of_mem _ hy))
    by_cases h : b ≤ bnd s
    · rw [stO_c h]
      have h16 : s ≠ 16 := fun q => by rw [q] at h; have : bnd 16 = 0 := rfl; omega
      refine ⟨fun q hq => ?_, ?_⟩
      · rcases List.mem_cons.mp hq with rfl | hq
        · exact ⟨by show s ≤ 15; omega, by show 0 ≤ 99999; omega, fun z => absurd z (by show ¬ s = 3; omega)⟩
        · exact ih.1 q hq
      · show nv (stO b H) + (if s = 2 ∨ s = 3 then 1 else 0) = 0
        rw [ih.2, if_neg (by omega)]
    · have e1 : stO b (s :: H) = [] := by show (if b ≤ bnd s then _ else _) = _; rw [if_neg h]
      rw [e1]
      exact ⟨fun q hq => absurd hq List.not_mem_nil, rfl⟩
theorem clo_ok {t : Nat → Int32} {n : Nat} : ∀ f i H, elH H → (∀ q ∈ (clo t n f i H).1, okSt q) ∧ nv (clo t n f i H).1 = 0 := by
  intro f
  induction f with
  | zero => intro i H _; exact ⟨fun q hq => absurd hq List.not_mem_nil, rfl⟩
  | succ f ih =>
    intro i H he
    rw [clo_s]
    by_cases hb : 0 < brk H
    · rw [if_pos hb]
      by_cases h9 : sk t n i < n ∧ t (sk t n i) = 93
      · rw [if_pos h9]
        obtain ⟨H', p1, p2, p3, p4, p5⟩ := st1_16 H he hb
        obtain ⟨a1, a2⟩ := stO_ok (b := 1) (by omega) H he
        obtain ⟨b1, b2⟩ := ih (sk t n i + 1) H' p4
        dsimp only
        rw [p1]
        refine ⟨fun q hq => ?_, ?_⟩
        · rcases List.mem_append.mp hq with hq | hq
          · exact a1 q hq
          · exact b1 q hq
        · rw [nv_app, a2]; show 0 + nv (clo t n f (sk t n i + 1) H').1 = 0; omega
      · rw [if_neg h9]; exact ⟨fun q hq => absurd hq List.not_mem_nil, rfl⟩
    · rw [if_neg hb]; exact ⟨fun q hq => absurd hq List.not_mem_nil, rfl⟩
theorem okc_app {m0 m m' : Nat} {c e : List (Nat × Nat)} (h : okc m0 m c) (he : (∀ q ∈ e, okSt q) ∧ nv e = 0) (hm : m ≤ m') (h6 : m' ≤ 60) : okc m0 m' (c ++ e) := by
  refine ⟨fun q hq => ?_, ?_, h6⟩
  · rcases List.mem_append.mp hq with hq | hq
    · exact h.1 q hq
    · exact he.1 q hq
  · rw [nv_app, he.2]; have := h.2.1; omega
def okX (m0 : Nat) (x : TR ⊕ TS) : Prop := match x with
  | .inl r => r.1 = 0 → okc m0 r.2.2.1 r.2.2.2
  | .inr y => okc m0 y.2.2.1 y.2.2.2.1
section OKC
variable {t : Nat → Int32} {n m0 : Nat}
theorem bnd_j1 : ∀ x, x = 5 ∨ x = 6 → 1 ≤ bnd x := by
  intro x h
  rcases h with rfl | rfl <;> decide
theorem aft_ok {cp : Bool} {m i : Nat} {c : List (Nat × Nat)} {H : List Nat} (he : elH H) (hi : i ≤ n) (hc : okc m0 m c) : okX m0 (aft t n cp m c H i) := by
  have hj := sk_le (t := t) hi
  unfold aft
  generalize sk t n i = j at hj
  by_cases hr : rk t n j = 0
  · rw [if_pos hr]
    by_cases hp : cp = true
    · rw [if_pos hp]
      obtain ⟨q1, q2, q3, q4, q5⟩ := clo_pr (n := n) (t := t) (brk H + 1) H j he (by omega) hj
      have ho := clo_ok (t := t) (n := n) (brk H + 1) j H he
      generalize clo t n (brk H + 1) j H = Q at q1 q2 q3 q4 q5 ho
      have h1 := okc_app hc ho (Nat.le_refl _) hc.2.2
      by_cases hn : jn t n (sk t n Q.2.1) = 0
      · rw [if_pos hn]
        split
        · exact fun _ => okc_app h1 (stO_ok (by omega) _ q1) (Nat.le_refl _) hc.2.2
        · exact fun q => absurd q (show ¬ 1 + 8 * sk t n Q.2.1 = 0 by omega)
      · rw [if_neg hn]
        have := jn_or t n (sk t n Q.2.1)
        exact okc_app h1 (stO_ok (bnd_j1 _ (by omega)) _ q1) (Nat.le_refl _) hc.2.2
    · rw [if_neg hp]
      by_cases hm : cm t n j = 0
      · rw [if_pos hm]; exact fun q => absurd q (show ¬ 1 + 8 * j = 0 by omega)
      · rw [if_neg hm]
        by_cases h6 : 60 ≤ m
        · rw [if_pos h6]; exact fun q => absurd q (show ¬ 1 + 8 * j + 3 = 0 by omega)
        · rw [if_neg h6]
          exact okc_app hc (stO_ok (by omega) _ he) (show m ≤ m + 1 by omega) (show m + 1 ≤ 60 by omega)
  · rw [if_neg hr]
    obtain ⟨k1, k2⟩ := rk_cs hr
    exact okc_app hc (stO_ok (by rcases k1 with e | e | e | e <;> rw [e] <;> decide) _ he) (Nat.le_refl _) hc.2.2
theorem tval_ok {cp : Bool} {m i : Nat} {c : List (Nat × Nat)} {H : List Nat} (he : elH H) (hi : i ≤ n) (hc : okc m0 m c) : okX m0 (tval t n cp m c H i) := by
  have hj := sk_le (t := t) hi
  unfold tval
  by_cases hv : vlF t n m (sk t n i) = 0
  · rw [if_pos hv]
    obtain ⟨v1, v2, v3⟩ := vl_gt hj sk_id hv
    refine aft_ok he v2 ⟨fun q hq => ?_, ?_, by omega⟩
    · rcases List.mem_append.mp hq with hq | hq
      · exact hc.1 q hq
      · rw [List.mem_singleton] at hq
        subst hq
        unfold vlF at hv
        unfold vlC
        by_cases hd : 0 < dl t n (sk t n i)
        · rw [if_pos hd] at hv ⊢
          by_cases hf : nmf t n (sk t n i) 0 99999 = 0
          · have := (nmf_0 hf).2.2.2
            exact ⟨by show 2 ≤ 15; omega, by show nmv _ _ _ ≤ 99999; omega, fun z => absurd z (by show ¬ 2 = 3; omega)⟩
          · rw [if_neg hf] at hv; exact absurd hv hf
        · rw [if_neg hd] at hv ⊢
          by_cases h8 : nmI t n (sk t n i) < 8
          · exact ⟨by show 3 ≤ 15; omega, by show nmI _ _ _ ≤ 99999; omega, fun _ => h8⟩
          · rw [if_neg h8] at hv; exact absurd hv (by omega)
    · rw [nv_app]
      have := hc.2.1
      have h1 : nv [vlC t n (sk t n i)] ≤ 1 := by
        show 0 + _ ≤ 1
        split <;> omega
      omega
  · rw [if_neg hv]; exact fun q => absurd q hv
theorem stp_ok {x : TS} (hx : jT n x) (hc : okc m0 x.2.2.1 x.2.2.2.1) : okX m0 (stp t n x) := by
  obtain ⟨due, cp, m, c, H, i⟩ := x
  obtain ⟨he, hd, hi⟩ := hx
  dsimp only at he hd hi hc
  unfold stp
  dsimp only
  by_cases hu : due = true
  · rw [if_pos hu]
    have hp := opn_pr (t := t) (n := n) (11 - dep H) i H hi hd
    generalize opn t n (11 - dep H) i H = Q at hp
    by_cases hq : Q.1 = 0
    · rw [if_pos hq]
      obtain ⟨P, p1, p2, p3, p4, p5, p6⟩ := hp hq
      exact tval_ok (H := Q.2.2) (fun z hz => by
        rw [p1] at hz
        rcases List.mem_append.mp hz with hz | hz
        · have := p2 z hz; omega
        · exact he z hz) p5 hc
    · rw [if_neg hq]; exact fun q => absurd q hq
  · rw [if_neg hu]
    exact tval_ok he hi hc
theorem run_ok : ∀ F (x : TS), jT n x → okc m0 x.2.2.1 x.2.2.2.1 → (run t n F x).1 = 0 → okc m0 (run t n F x).2.2.1 (run t n F x).2.2.2 := by
  intro F
  induction F with
  | zero => intro x _ _ h; exact absurd h (by show ¬ 1 = 0; omega)
  | succ F ih =>
    intro x hx hc
    have hs := stp_ok (t := t) hx hc
    rw [run_s]
    cases he : stp t n x with
    | inl r => rw [he] at hs; exact hs
    | inr y => rw [he] at hs; exact ih y (stp_J hx he).1 hs
end OKC
end
noncomputable section
/-! the reference: tested(), isToHere() -/
def mcl (q : Cl) : List (Nat × Nat) := match q.2 with
  | none => []
  | some w => w
def mcode (L : List Cl) : List (Nat × Nat) := L.flatMap mcl
theorem mcode_app {L : List Cl} {q : Cl} : mcode (L ++ [q]) = mcode L ++ mcl q := by
  unfold mcode
  rw [List.flatMap_append]
  simp
/-- a clause that can be: a floor's number; steps of a test that leaves one fact, values as many as the stack holds -/
def okCl (q : Cl) : Prop := q.1 ≤ 9 ∧ ∀ w, q.2 = some w → tyc w [] = some [true] ∧ (∀ z ∈ w, okSt z) ∧ nv w ≤ 60
/-- clauses of text x -/
def clM (S : fS) (x : Nat) (L : List Cl) : Prop := S.1 150 x = o3 L.length ∧ ∀ k, k < L.length → S.1 149 (36 * x + 3 * k) = o3 (L.getD k (0, none)).1 ∧ S.1 149 (36 * x + 3 * k + 1) = (if (L.getD k (0, none)).2.isSome then o3 (mcode (L.take k)).length else -1) ∧ S.1 149 (36 * x + 3 * k + 2) = o3 (mcode (L.take (k + 1))).length
def wM9 (x a k : Nat) : Prop := wMr x a k ∨ (a = 145 ∧ k = 19) ∨ (a = 150 ∧ k = x) ∨ (a = 149 ∧ 36 * x ≤ k ∧ k < 36 * x + 36)
def eM9 (x : Nat) (S T : fS) : Prop := (∀ a k, ¬ wM9 x a k → T.1 a k = S.1 a k) ∧ T.2 = S.2
theorem eM9.rf {x : Nat} {S : fS} : eM9 x S S := ⟨fun _ _ _ => rfl, rfl⟩
theorem eM9.tr {x : Nat} {S T U : fS} (h : eM9 x S T) (g : eM9 x T U) : eM9 x S U := ⟨fun a k n => (g.1 a k n).trans (h.1 a k n), g.2.trans h.2⟩
theorem eM9_pI {x : Nat} {S : fS} {a k : Nat} {y : Int32} (h : wM9 x a k) : eM9 x S (pI S a k y) := ⟨fun b j n => by
  rw [pI_get]
  by_cases q : b = a ∧ j = k
  · exact absurd (q.1 ▸ q.2 ▸ h) n
  · rw [if_neg q], rfl⟩
theorem eM9_of {x : Nat} {S T : fS} (h : eMr x S T) : eM9 x S T := ⟨fun a k n => h.1 a k (fun q => n (Or.inl q)), h.2⟩
theorem eM9_1 {x : Nat} {S T : fS} (h : eM9 x S T) : T.1 145 1 = S.1 145 1 := h.1 145 1 (by unfold wM9 wMr; omega)
theorem eM9_t {x : Nat} {S T : fS} (h : eM9 x S T) : T.1 146 = S.1 146 := funext fun k => h.1 146 k (by unfold wM9 wMr; omega)
theorem clM_eq {S T : fS} {x : Nat} {L : List Cl} (h : clM S x L) (h1 : T.1 150 x = S.1 150 x) (h2 : ∀ k, k < 3 * L.length → T.1 149 (36 * x + k) = S.1 149 (36 * x + k)) : clM T x L := by
  refine ⟨h1.trans h.1, fun k hk => ?_⟩
  obtain ⟨a, b, c⟩ := h.2 k hk
  refine ⟨(h2 (3 * k) (by omega)).trans a, ?_, ?_⟩
  · exact (h2 (3 * k + 1) (by omega)).trans b
  · exact (h2 (3 * k + 2) (by omega)).trans c
theorem clM_app {S T : fS} {x : Nat} {L : List Cl} {q : Cl} (h : clM S x L) (h1 : T.1 150 x = o3 (L.length + 1)) (h2 : ∀ k, k < 3 * L.length → T.1 149 (36 * x + k) = S.1 149 (36 * x + k)) (h3 : T.1 149 (36 * x + 3 * L.length) = o3 q.1) (h4 : T.1 149 (36 * x + 3 * L.length + 1) = if q.2.isSome then o3 (mcode L).length else -1) (h5 : T.1 149 (36 * x + 3 * L.length + 2) = o3 (mcode (L ++ [q])).length) : clM T x (L ++ [q]) := by
  refine ⟨by rw [h1, ln_app], fun k hk => ?_⟩
  rw [ln_app] at hk
  by_cases e : k = L.length
  · subst e
    rw [gd_r, List.take_left, List.take_of_length_le (by rw [ln_app]; omega)]
    exact ⟨h3, h4, h5⟩
  · rw [gd_l (by omega), List.take_append_of_le_length (by omega), List.take_append_of_le_length (by omega)]
    obtain ⟨a, b, c⟩ := h.2 k (by omega)
    refine ⟨(h2 (3 * k) (by omega)).trans a, ?_, ?_⟩
    · exact (h2 (3 * k + 1) (by omega)).trans b
    · exact (h2 (3 * k + 2) (by omega)).trans c
section MTO
variable {t : Nat → Int32} {n x : Nat}
theorem mb_tested (hl : n ≤ 400) (hx : x < 6) (hb : ∀ k, byt (t k)) {i m : Nat} {c : List (Nat × Nat)} {S : fS} {u : Int32} (hn : S.1 145 1 = o3 n) (ht : S.1 146 = t) (hR : RQ S x m c) (hm : m ≤ 60) (hc : c.length ≤ i) (hi : i ≤ n) : ∃ T w' u', f_X11_tested (mS S (o3 i) 0 u) = some (if (run t n (n + 1) (true, false, m, [], [], i)).1 = 0 then (1, mS T (o3 (run t n (n + 1) (true, false, m, [], [], i)).2.1) 0 u') else (0, mS T w' (o3 (run t n (n + 1) (true, false, m, [], [], i)).1) u')) ∧ eMr x S T ∧ ((run t n (n + 1) (true, false, m, [], [], i)).1 = 0 → RQ T x (run t n (n + 1) (true, false, m, [], [], i)).2.2.1 (c ++ (run t n (n + 1) (true, false, m, [], [], i)).2.2.2) ∧ (run t n (n + 1) (true, false, m, [], [], i)).2.1 ≤ n ∧ i < (run t n (n + 1) (true, false, m, [], [], i)).2.1 ∧ (run t n (n + 1) (true, false, m, [], [], i)).2.2.1 ≤ 60 ∧ (c ++ (run t n (n + 1) (true, false, m, [], [], i)).2.2.2).length ≤ (run t n (n + 1) (true, false, m, [], [], i)).2.1 ∧ tyc (run t n (n + 1) (true, false, m, [], [], i)).2.2.2 [] = some [true]) := by
  have e : f_X11_tested (mS S (o3 i) 0 u) = lp_X11_tested_12 tstK FU 1 (mS (pI (pI S 145 21 0) 145 18 0) (o3 i) 0 u) := by
    unfold f_X11_tested
    rw [bd_some, mS_p (by omega), bd_some, mS_p (by omega)]
    rfl
  have hE : eMr x S (pI (pI S 145 21 0) 145 18 0) := (eMr_pI (by unfold wMr; omega)).tr (eMr_pI (by unfold wMr; omega))
  have hR1 : RQ (pI (pI S 145 21 0) 145 18 0) x m c := by
    refine RQ_eq hR ?_ ?_ (fun k => ?_) (fun k => ?_) <;> rw [pI_ne (by omega), pI_ne (by omega)]
  have hH1 : RH (pI (pI S 145 21 0) 145 18 0) [] := ⟨by rw [pI_ne (by omega), pI_eq]; rfl, by rw [pI_eq]; rfl, fun k hk => absurd hk (Nat.not_lt_zero _)⟩
  obtain ⟨T, w', u', a1, a2, a3, a4⟩ := mb_tst hl hx hb (c0 := c) n i m c [] _ u false FU (by omega) (FU_lt (by omega)) ((eMr_1 hE).trans hn) ((eMr_t hE).trans ht) hR1 hH1 (fun y hy => absurd hy List.not_mem_nil) (by decide) hm (by show c.length + 0 ≤ i; omega) hi ⟨[], (List.append_nil c).symm, rfl⟩
  have hr : RUN t n (true, false, m, c, [], i) = pre c (run t n (n + 1) (true, false, m, [], [], i)) := by
    unfold RUN
    have := run_pre (t := t) (n := n) (c0 := c) (n + 1) true false m [] [] i
    rw [List.append_nil] at this
    exact this
  rw [hr] at a1 a3 a4
  rw [e, a1]
  generalize run t n (n + 1) (true, false, m, [], [], i) = r at a1 a3 a4
  unfold pre at a3 a4 ⊢
  by_cases h0 : r.1 = 0
  · simp only [if_pos h0] at a3 a4 ⊢
    refine ⟨T, w', u', rfl, hE.tr a2, fun _ => ?_⟩
    obtain ⟨b1, b2, b3, b4, b5, b6⟩ := a3 h0
    obtain ⟨e', y1, y2⟩ := a4 h0
    have : r.2.2.2 = e' := List.append_cancel_left y1
    exact ⟨b1, b2, b3, b5, b6, by rw [this]; exact y2⟩
  · simp only [if_neg h0] at ⊢
    exact ⟨T, w', u', rfl, hE.tr a2, fun q => absurd q h0⟩
theorem mb_to (hl : n ≤ 400) (hx : x < 6) (hb : ∀ k, byt (t k)) {i m : Nat} {L : List Cl} {S : fS} {u : Int32} (hn : S.1 145 1 = o3 n) (ht : S.1 146 = t) (hR : RQ S x m (mcode L)) (hM : clM S x L) (hm : m ≤ 60) (hk : L.length < 12) (hc : (mcode L).length ≤ i) (hi : i ≤ n) (hw : wat t n (mm_sb.getD 3 []) (sk t n i) = true) : ∃ T w' u', f_X11_isToHere (mS S (o3 (sk t n i)) 0 u) = some (if (rcl t n L.length m i).1 = 0 then (1, mS T (o3 (rcl t n L.length m i).2.1) 0 u') else (0, mS T w' (o3 (rcl t n L.length m i).1) u')) ∧ eM9 x S T ∧ T.1 145 19 = S.1 145 19 ∧ ((rcl t n L.length m i).1 = 0 → RQ T x (rcl t n L.length m i).2.2.1 (mcode (L ++ [(rcl t n L.length m i).2.2.2])) ∧ clM T x (L ++ [(rcl t n L.length m i).2.2.2]) ∧ (rcl t n L.length m i).2.1 ≤ n ∧ i < (rcl t n L.length m i).2.1 ∧ (rcl t n L.length m i).2.2.1 ≤ 60 ∧ (mcode (L ++ [(rcl t n L.length m i).2.2.2])).length ≤ (rcl t n L.length m i).2.1 ∧ okCl (rcl t n L.length m i).2.2.2) := by
  have hj := sk_le (t := t) hi
  have hg := sk_ge (t := t) (n := n) (i := i)
  have hll : ll t n (sk t n i) = 2 := ((wat_ll (t := t) (n := n) _ _ (mw_L 3 (by decide))).mp hw).1
  have h2 := ll_le (t := t) (n := n) _ (sk t n i) rfl hj
  rw [hll] at h2
  unfold f_X11_isToHere rcl
  rw [mt_pass hn hl hj, bd_some, ht, hll, if_pos hw, if_neg (show ¬ 12 ≤ L.length by omega)]
  generalize sk t n i = j at hj hg h2 hw
  obtain ⟨u1, a1⟩ := mt_num (S := S) (u := u) hn hl (lo := 0) (hi := 9) (i := j + 2) h2
  rw [show (0 : Int32).toInt = 0 from rfl, show (9 : Int32).toInt = 9 from rfl, ht] at a1
  rw [a1, bd_some]
  by_cases hF : nmf t n (j + 2) 0 9 = 0
  · rw [if_pos hF, if_pos hF]
    dsimp only
    rw [if_neg (show ¬ (1 : Int32) = 0 by decide)]
    have p1 := nmp_gt hF
    have p2 := nmp_le (t := t) h2
    obtain ⟨v1, v2, v3, v4⟩ := nmf_0 hF
    generalize nmp t n (j + 2) = p at p1 p2
    generalize nmv t n (j + 2) = v at v3 v4
    have hq := sk_le (t := t) p2
    have hqg := sk_ge (t := t) (n := n) (i := p)
    obtain ⟨r1, r2, r3, r4⟩ := hR
    have e36 : ((36 : Int32) * o3 x) + ((3 : Int32) * o3 L.length) = o3 (36 * x + 3 * L.length) := by
      rw [show (36 : Int32) = o3 36 from rfl, show (3 : Int32) = o3 3 from rfl, o3_mul, o3_mul, o3_add]
    have e1 : o3 (36 * x + 3 * L.length) + (1 : Int32) = o3 (36 * x + 3 * L.length + 1) := o3_s
    have e2 : o3 (36 * x + 3 * L.length) + (2 : Int32) = o3 (36 * x + 3 * L.length + 2) := by rw [show (2 : Int32) = o3 2 from rfl, o3_add]
    rw [mS_ne (by omega), r1, gI_o (by omega) (by omega), bd_some, mS_ne (by omega), hM.1, e36, mS_15, sI_o (by omega) (by omega), bd_some, mS_p (by omega), e1, sI_o (by omega) (by omega), bd_some, mS_p (by omega)]
    generalize hX : pI (pI S 149 (36 * x + 3 * L.length) (o3 v)) 149 (36 * x + 3 * L.length + 1) (-1) = X
    have hXo : ∀ a k, ¬ (a = 149 ∧ (k = 36 * x + 3 * L.length ∨ k = 36 * x + 3 * L.length + 1)) → X.1 a k = S.1 a k := fun a k h => by
      rw [← hX, pI_ne (by omega), pI_ne (by omega)]
    have hX0 : X.1 149 (36 * x + 3 * L.length) = o3 v := by rw [← hX, pI_ne (by omega), pI_eq]
    have hX1 : X.1 149 (36 * x + 3 * L.length + 1) = -1 := by rw [← hX, pI_eq]
    have hXE : eM9 x S X := by rw [← hX]; exact (eM9_pI (by unfold wM9; omega)).tr (eM9_pI (by unfold wM9; omega))
    have hXn := (eM9_1 hXE).trans hn
    have hXt := (eM9_t hXE).trans ht
    have hXR : RQ X x m (mcode L) := RQ_eq ⟨r1, r2, r3, r4⟩ (hXo _ _ (by omega)) (hXo _ _ (by omega)) (fun k => hXo _ _ (by omega)) (fun k => hXo _ _ (by omega))
    rw [mt_takes (c := 26982) hXn hl (mw_L 4 (by decide)) (by decide) (by decide) (mw_c 4 (by decide)) p2, bd_some, hXt]
    by_cases hw4 : wat t n (mm_sb.getD 4 []) (sk t n p) = true
    · have hl4 := ((wat_ll (t := t) (n := n) _ _ (mw_L 4 (by decide))).mp hw4).1
      have h4 := ll_le (t := t) (n := n) _ (sk t n p) rfl hq
      rw [hl4, show (mm_sb.getD 4 []).length = 2 from rfl] at h4
      rw [if_pos hw4, if_pos hw4, show (mm_sb.getD 4 []).length = 2 from rfl]
      dsimp only
      rw [if_neg (show ¬ (1 : Int32) = 0 by decide), mS_ne (by omega), hXo 145 16 (by omega), r1, gI_o (by omega) (by omega), bd_some, mS_ne (by omega), hXo 148 x (by omega), r3, sI_o (by omega) (by omega), bd_some, mS_p (by omega)]
      generalize hZ : pI X 149 (36 * x + 3 * L.length + 1) (o3 (mcode L).length) = Z
      have hZo : ∀ a k, ¬ (a = 149 ∧ k = 36 * x + 3 * L.length + 1) → Z.1 a k = X.1 a k := fun a k h => by rw [← hZ, pI_ne h]
      have hZ1 : Z.1 149 (36 * x + 3 * L.length + 1) = o3 (mcode L).length := by rw [← hZ, pI_eq]
      have hZE : eM9 x S Z := by rw [← hZ]; exact hXE.tr (eM9_pI (by unfold wM9; omega))
      have hZR : RQ Z x m (mcode L) := RQ_eq hXR (hZo _ _ (by omega)) (hZo _ _ (by omega)) (fun k => hZo _ _ (by omega)) (fun k => hZo _ _ (by omega))
      have hro := run_ok (t := t) (n := n) (m0 := m) (n + 1) (true, false, m, [], [], sk t n p + 2) ⟨fun y hy => absurd hy List.not_mem_nil, by show 0 ≤ 10; omega, h4⟩ ⟨fun y hy => absurd hy List.not_mem_nil, by show 0 + m ≤ m; omega, hm⟩
      obtain ⟨T, w', u', b1, b2, b3⟩ := mb_tested (u := o3 v) hl hx hb ((eM9_1 hZE).trans hn) ((eM9_t hZE).trans ht) hZR hm (show (mcode L).length ≤ sk t n p + 2 by omega) h4
      rw [b1, bd_some]
      generalize run t n (n + 1) (true, false, m, [], [], sk t n p + 2) = r at b1 b3 hro
      have hTo : ∀ a k, a = 149 ∨ a = 150 ∨ (a = 145 ∧ k = 19) ∨ (a = 145 ∧ k = 16) → T.1 a k = Z.1 a k := fun a k h => b2.1 a k (by unfold wMr; omega)
      by_cases hr : r.1 = 0
      · obtain ⟨c1, c2, c3, c4, c5, c6⟩ := b3 hr
        rw [if_pos hr, if_pos hr]
        dsimp only
        rw [if_neg (show ¬ (1 : Int32) = 0 by decide), mS_ne (by omega), c1.1, gI_o (by omega) (by omega), bd_some, mS_ne (by omega), c1.2.2.1, e2, sI_o (by omega) (by omega), bd_some, mS_p (by omega), mS_ne (by omega), pI_ne (by omega), c1.1, gI_o (by omega) (by omega), bd_some, mS_ne (by omega), pI_ne (by omega), hTo 150 x (by omega), hZo 150 x (by omega), hXo 150 x (by omega), hM.1, o3_s, sI_o (by omega) (by omega), bd_some, mS_p (by omega)]
        refine ⟨_, 0, u', by rw [if_pos rfl], ((hZE.tr (eM9_of b2)).tr (eM9_pI (by unfold wM9; omega))).tr (eM9_pI (by unfold wM9; omega)), ?_, fun _ => ?_⟩
        · rw [pI_ne (by omega), pI_ne (by omega), hTo 145 19 (by omega), hZo _ _ (by omega), hXo _ _ (by omega)]
        · have hcd : mcode (L ++ [(v, some r.2.2.2)]) = mcode L ++ r.2.2.2 := mcode_app
          rw [hcd]
          refine ⟨?_, ?_, c2, by omega, c4, c5, by show v ≤ 9; omega, fun w hw => ?_⟩
          rotate_left 2
          · obtain rfl := Option.some.inj hw
            obtain ⟨y1, y2, y3⟩ := hro hr
            exact ⟨c6, y1, by omega⟩
          · refine RQ_eq c1 ?_ ?_ (fun k => ?_) (fun k => ?_) <;> rw [pI_ne (by omega), pI_ne (by omega)]
          · refine clM_app hM ?_ (fun k hk => ?_) ?_ ?_ ?_
            · rw [pI_eq]
            · rw [pI_ne (by omega), pI_ne (by omega), hTo _ _ (by omega), hZo _ _ (by omega), hXo _ _ (by omega)]
            · rw [pI_ne (by omega), pI_ne (by omega), hTo _ _ (by omega), hZo _ _ (by omega), hX0]
            · rw [pI_ne (by omega), pI_ne (by omega), hTo _ _ (by omega), hZ1]; rfl
            · rw [pI_ne (by omega), pI_eq, hcd]
      · rw [if_neg hr, if_neg hr]
        dsimp only
        rw [if_pos rfl]
        exact ⟨T, w', u', by rw [if_neg hr], hZE.tr (eM9_of b2), by rw [hTo 145 19 (by omega), hZo _ _ (by omega), hXo _ _ (by omega)], fun q => absurd q hr⟩
    · rw [if_neg hw4, if_neg hw4]
      dsimp only
      rw [if_pos rfl, mS_ne (by omega), hXo 145 16 (by omega), r1, gI_o (by omega) (by omega), bd_some, mS_ne (by omega), hXo 148 x (by omega), r3, e2, sI_o (by omega) (by omega), bd_some, mS_p (by omega), mS_ne (by omega), pI_ne (by omega), hXo 145 16 (by omega), r1, gI_o (by omega) (by omega), bd_some, mS_ne (by omega), pI_ne (by omega), hXo 150 x (by omega), hM.1, o3_s, sI_o (by omega) (by omega), bd_some, mS_p (by omega)]
      refine ⟨_, 0, o3 v, by rw [if_pos rfl], (hXE.tr (eM9_pI (by unfold wM9; omega))).tr (eM9_pI (by unfold wM9; omega)), ?_, fun _ => ?_⟩
      · rw [pI_ne (by omega), pI_ne (by omega), hXo _ _ (by omega)]
      · have hcd : mcode (L ++ [(v, none)]) = mcode L := by rw [mcode_app]; exact List.append_nil _
        rw [hcd]
        refine ⟨?_, ?_, hq, by omega, hm, by omega, by show v ≤ 9; omega, fun w hw => nomatch hw⟩
        · refine RQ_eq hXR ?_ ?_ (fun k => ?_) (fun k => ?_) <;> rw [pI_ne (by omega), pI_ne (by omega)]
        · refine clM_app hM ?_ (fun k hk => ?_) ?_ ?_ ?_
          · rw [pI_eq]
          · rw [pI_ne (by omega), pI_ne (by omega), hXo _ _ (by omega)]
          · rw [pI_ne (by omega), pI_ne (by omega), hX0]
          · rw [pI_ne (by omega), pI_ne (by omega), hX1]; rfl
          · rw [pI_ne (by omega), pI_eq, hcd]
  · rw [if_neg hF, if_neg hF]
    dsimp only
    rw [if_pos rfl]
    exact ⟨S, o3 (nmp t n (j + 2)), u1, by rw [if_neg hF], eM9.rf, rfl, fun q => absurd q hF⟩
end MTO
end
