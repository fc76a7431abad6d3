section
/-! the reference: what a rule's text has written so far -/
def mp : Nat → Nat
  | 2 => 0
  | 3 => 1
  | 7 => 2
  | 8 => 3
  | 9 => 4
  | 10 => 5
  | 11 => 6
  | 12 => 7
  | 13 => 8
  | 14 => 9
  | 15 => 10
  | 4 => 11
  | 5 => 12
  | 6 => 13
  | _ => 14
def sgM (q : Nat × Nat) : Int32 := o3 (mp q.1 + 16 * q.2)
/-- text, made, written -/
def RQ (S : fS) (x m : Nat) (c : List (Nat × Nat)) : Prop := S.1 145 16 = o3 x ∧ S.1 145 17 = o3 m ∧ S.1 148 x = o3 c.length ∧ ∀ k, k < c.length → S.1 147 (400 * x + k) = sgM (c.getD k (0, 0))
def wMr (x a k : Nat) : Prop := (a = 145 ∧ (k = 17 ∨ k = 18 ∨ k = 21)) ∨ (a = 148 ∧ k = x) ∨ (a = 147 ∧ 400 * x ≤ k ∧ k < 400 * x + 400) ∨ a = 154
def eMr (x : Nat) (S T : fS) : Prop := (∀ a k, ¬ wMr x a k → T.1 a k = S.1 a k) ∧ T.2 = S.2
theorem eMr.rf {x : Nat} {S : fS} : eMr x S S := ⟨fun _ _ _ => rfl, rfl⟩
theorem eMr.tr {x : Nat} {S T U : fS} (h : eMr x S T) (g : eMr x T U) : eMr x S U := ⟨fun a k n => (g.1 a k n).trans (h.1 a k n), g.2.trans h.2⟩
theorem eMr_pI {x : Nat} {S : fS} {a k : Nat} {y : Int32} (h : wMr x a k) : eMr x S (pI S a k y) := ⟨fun b j n => by
  rw [pI_get]
  by_cases q : b = a ∧ j = k
  · exact absurd (q.1 ▸ q.2 ▸ h) n
  · rw [if_neg q], rfl⟩
theorem gd_r {α : Type} {c : List α} {q d : α} : (c ++ [q]).getD c.length d = q := by
  induction c with
  | nil => rfl
  | cons a c ih => exact ih
theorem gd_l {α : Type} {c e : List α} {d : α} {k : Nat} (h : k < c.length) : (c ++ e).getD k d = c.getD k d := by
  induction c generalizing k with
  | nil => exact absurd h (Nat.not_lt_zero _)
  | cons a c ih =>
    cases k with
    | zero => rfl
    | succ k => exact ih (Nat.lt_of_succ_lt_succ h)
theorem RQ_c {S : fS} {x m : Nat} {c : List (Nat × Nat)} (hR : RQ S x m c) {q : Nat × Nat} : RQ (pI (pI S 147 (400 * x + c.length) (sgM q)) 148 x (o3 (c.length + 1))) x m (c ++ [q]) := by
  obtain ⟨r1, r2, r3, r4⟩ := hR
  refine ⟨?_, ?_, ?_, fun k hk => ?_⟩
  · rw [pI_ne (by omega), pI_ne (by omega)]; exact r1
  · rw [pI_ne (by omega), pI_ne (by omega)]; exact r2
  · rw [pI_eq, List.length_append]; rfl
  · rw [List.length_append] at hk
    have hk' : k < c.length + 1 := hk
    rw [pI_ne (by omega)]
    by_cases e : k = c.length
    · subst e
      rw [pI_eq, gd_r]
    · rw [pI_ne (by omega), gd_l (by omega)]
      exact r4 k (by omega)
theorem RQ_17 {S : fS} {x m m' : Nat} {c : List (Nat × Nat)} (hR : RQ S x m c) : RQ (pI S 145 17 (o3 m')) x m' c := by
  obtain ⟨r1, r2, r3, r4⟩ := hR
  refine ⟨?_, ?_, ?_, fun k hk => ?_⟩
  · rw [pI_ne (by omega)]; exact r1
  · rw [pI_eq]
  · rw [pI_ne (by omega)]; exact r3
  · rw [pI_ne (by omega)]; exact r4 k hk
section MP
variable {S : fS} {x m : Nat} {c : List (Nat × Nat)} {i w u : Int32}
theorem mp_puts (hR : RQ S x m c) (hx : x < 6) (hc : c.length < 400) {s v : Nat} {a b : Int32} (ha : a = o3 (mp s)) (hb : b = o3 v) : ∃ T, f_X11_puts a b (mS S i w u) = some (mS T i w u) ∧ RQ T x m (c ++ [(s, v)]) ∧ eMr x S T := by
  refine ⟨pI (pI S 147 (400 * x + c.length) (sgM (s, v))) 148 x (o3 (c.length + 1)), ?_, RQ_c hR, (eMr_pI (by unfold wMr; omega)).tr (eMr_pI (by unfold wMr; omega))⟩
  obtain ⟨r1, r2, r3, r4⟩ := hR
  unfold f_X11_puts
  rw [mS_ne (by omega), r1, gI_o (by omega) (by omega), bd_some, mS_ne (by omega), r3, ha, hb, show (400 : Int32) = o3 400 from rfl, show (16 : Int32) = o3 16 from rfl, o3_mul, o3_mul, o3_add, o3_add, sI_o (by omega) (by omega), bd_some, mS_p (by omega), mS_ne (by omega), pI_ne (by omega), r1, gI_o (by omega) (by omega), bd_some, mS_ne (by omega), pI_ne (by omega), r3, o3_s, sI_o (by omega) (by omega), bd_some, mS_p (by omega)]
  rfl
theorem mp_makes (hR : RQ S x m c) (hm : m ≤ 60) {j : Nat} : f_X11_makes (o3 j) (mS S i 0 u) = some (if 60 ≤ m then (0, mS S i (o3 (1 + 8 * j + 3)) u) else (1, mS (pI S 145 17 (o3 (m + 1))) i 0 u)) := by
  unfold f_X11_makes
  rw [mS_ne (by omega), hR.2.1]
  by_cases h : 60 ≤ m
  · have e : m = 60 := by omega
    rw [if_pos (show o3 m = (60 : Int32) by rw [e]; rfl), if_pos h, mt_fails mS_14, bd_some, mS_wr, show (8 : Int32) = o3 8 from rfl, show (1 : Int32) = o3 1 from rfl, show (3 : Int32) = o3 3 from rfl, o3_mul, o3_add, o3_add]
    rfl
  · rw [if_neg (show ¬ o3 m = (60 : Int32) from fun q => by have := (o3_inj (b := 60) (by omega) (by omega)).mp q; omega), if_neg h, bd_some, o3_s, mS_p (by omega)]
end MP
end
