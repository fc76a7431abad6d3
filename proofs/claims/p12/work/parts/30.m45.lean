section
/-! the automaton without fuel -/
def jT (n : Nat) (x : TS) : Prop := elH x.2.2.2.2.1 ∧ dep x.2.2.2.2.1 ≤ 10 ∧ x.2.2.2.2.2 ≤ n
section RX
variable {t : Nat → Int32} {n : Nat}
theorem elH_pu {a b : Nat} {H : List Nat} (ha : 4 ≤ a ∧ a < 17) (h : elH H) : elH (a :: stR b H) := fun y hy => by
  rcases List.mem_cons.mp hy with rfl | hy
  · exact ha
  · exact h y (stR_mem H hy)
theorem dep_st {a b : Nat} {H : List Nat} (ha : a ≠ 4 ∧ a ≠ 16) (h : dep H ≤ 10) : dep (a :: stR b H) ≤ 10 := by
  rw [dep_pu ha]
  exact Nat.le_trans (stR_dep H) h
theorem aft_J {cp : Bool} {m i : Nat} {c : List (Nat × Nat)} {H : List Nat} {y : TS} (he : elH H) (hd : dep H ≤ 10) (hi : i ≤ n) (h : aft t n cp m c H i = .inr y) : jT n y ∧ i < y.2.2.2.2.2 := by
  have hj := sk_le (t := t) hi
  have hg := sk_ge (t := t) (n := n) (i := i)
  unfold aft at h
  generalize sk t n i = j at hj hg h
  by_cases hr : rk t n j = 0
  · rw [if_pos hr] at h
    by_cases hc : cp = true
    · rw [if_pos hc] at h
      obtain ⟨q1, q2, q3, q4, q5⟩ := clo_pr (n := n) (t := t) (brk H + 1) H j he (by omega) hj
      generalize clo t n (brk H + 1) j H = Q at h q1 q2 q3 q4 q5
      have hj2 := sk_le (t := t) q5
      have hg2 := sk_ge (t := t) (n := n) (i := Q.2.1)
      generalize sk t n Q.2.1 = e at h hj2 hg2
      by_cases hn : jn t n e = 0
      · rw [if_pos hn] at h
        split at h <;> exact nomatch h
      · rw [if_neg hn] at h
        obtain rfl := Sum.inr.inj h
        obtain ⟨k1, k2, k3⟩ := jn_cs hj2 hn
        exact ⟨⟨elH_pu (by omega) q1, dep_st (by omega) (by omega), k2⟩, by show i < e + jnL (jn t n e); omega⟩
    · rw [if_neg hc] at h
      by_cases hm : cm t n j = 0
      · rw [if_pos hm] at h; exact nomatch h
      · rw [if_neg hm] at h
        by_cases h6 : 60 ≤ m
        · rw [if_pos h6] at h; exact nomatch h
        · rw [if_neg h6] at h
          obtain rfl := Sum.inr.inj h
          obtain ⟨k1, k2, k3⟩ := cm_cs hm
          exact ⟨⟨elH_pu (by omega) he, dep_st (by omega) hd, k2⟩, by show i < j + cmL (cm t n j); omega⟩
  · rw [if_neg hr] at h
    obtain rfl := Sum.inr.inj h
    obtain ⟨k1, k2⟩ := rk_cs hr
    exact ⟨⟨elH_pu (by omega) he, dep_st (by omega) hd, by show j + 1 ≤ n; omega⟩, by show i < j + 1; omega⟩
theorem tval_J {cp : Bool} {m i : Nat} {c : List (Nat × Nat)} {H : List Nat} {y : TS} (he : elH H) (hd : dep H ≤ 10) (hi : i ≤ n) (h : tval t n cp m c H i = .inr y) : jT n y ∧ i < y.2.2.2.2.2 := by
  have hj := sk_le (t := t) hi
  have hg := sk_ge (t := t) (n := n) (i := i)
  unfold tval at h
  by_cases hv : vlF t n m (sk t n i) = 0
  · rw [if_pos hv] at h
    obtain ⟨v1, v2, v3⟩ := vl_gt hj sk_id hv
    obtain ⟨a, b⟩ := aft_J he hd v2 h
    exact ⟨a, by omega⟩
  · rw [if_neg hv] at h; exact nomatch h
theorem stp_J {x y : TS} (hx : jT n x) (h : stp t n x = .inr y) : jT n y ∧ x.2.2.2.2.2 < y.2.2.2.2.2 := by
  obtain ⟨due, cp, m, c, H, i⟩ := x
  obtain ⟨he, hd, hi⟩ := hx
  dsimp only at he hd hi ⊢
  unfold stp at h
  dsimp only at h
  by_cases hu : due = true
  · rw [if_pos hu] at h
    have hp := opn_pr (t := t) (n := n) (11 - dep H) i H hi hd
    generalize opn t n (11 - dep H) i H = Q at h hp
    by_cases hq : Q.1 = 0
    · rw [if_pos hq] at h
      obtain ⟨P, p1, p2, p3, p4, p5, p6⟩ := hp hq
      obtain ⟨a, b⟩ := tval_J (H := Q.2.2) (fun z hz => by
        rw [p1] at hz
        rcases List.mem_append.mp hz with hz | hz
        · have := p2 z hz; omega
        · exact he z hz) p3 p5 h
      exact ⟨a, by omega⟩
    · rw [if_neg hq] at h; exact nomatch h
  · rw [if_neg hu] at h
    exact tval_J he hd hi h
theorem run_F : ∀ F F' (x : TS), jT n x → n < x.2.2.2.2.2 + F → n < x.2.2.2.2.2 + F' → run t n F x = run t n F' x := by
  intro F
  induction F with
  | zero => intro F' x hx h; exact absurd hx.2.2 (by omega)
  | succ F ih =>
    intro F' x hx h h'
    obtain ⟨F', rfl⟩ : ∃ k, F' = k + 1 := ⟨F' - 1, by have := hx.2.2; omega⟩
    rw [run_s, run_s]
    cases hs : stp t n x with
    | inl r => rfl
    | inr y =>
      obtain ⟨a, b⟩ := stp_J hx hs
      exact ih F' y a (by omega) (by omega)
def RUN (t : Nat → Int32) (n : Nat) (x : TS) : TR := run t n (n + 1) x
def GO (t : Nat → Int32) (n : Nat) (y : TR ⊕ TS) : TR := match y with
  | .inl r => r
  | .inr y => RUN t n y
theorem RUN_s {x : TS} (hx : jT n x) : RUN t n x = GO t n (stp t n x) := by
  unfold RUN GO
  rw [run_s]
  cases hs : stp t n x with
  | inl r => rfl
  | inr y =>
    obtain ⟨a, b⟩ := stp_J hx hs
    exact run_F n (n + 1) y a (by omega) (by omega)
def AR (t : Nat → Int32) (n : Nat) (cp : Bool) (m : Nat) (c : List (Nat × Nat)) (H : List Nat) (i : Nat) : TR := GO t n (aft t n cp m c H i)
def VR (t : Nat → Int32) (n : Nat) (cp : Bool) (m : Nat) (c : List (Nat × Nat)) (H : List Nat) (i : Nat) : TR := GO t n (tval t n cp m c H i)
theorem RUN_V {cp : Bool} {m i : Nat} {c : List (Nat × Nat)} {H : List Nat} (he : elH H) (hd : dep H ≤ 10) (hi : i ≤ n) : RUN t n (false, cp, m, c, H, i) = VR t n cp m c H i := RUN_s (x := (false, cp, m, c, H, i)) ⟨he, hd, hi⟩
theorem VR_e {cp : Bool} {m i : Nat} {c : List (Nat × Nat)} {H : List Nat} : VR t n cp m c H i = if vlF t n m (sk t n i) = 0 then AR t n cp (m + 1) (c ++ [vlC t n (sk t n i)]) H (vlP t n (sk t n i)) else (vlF t n m (sk t n i), 0, 0, []) := by
  unfold VR tval
  by_cases h : vlF t n m (sk t n i) = 0
  · rw [if_pos h, if_pos h]; rfl
  · rw [if_neg h, if_neg h]; rfl
/-- what is held binds less tight than b -/
def tp (b : Nat) (H : List Nat) : Prop := stO b H = [] ∧ stR b H = H
theorem tp_c {b s : Nat} {H : List Nat} (h : bnd s < b) : tp b (s :: H) := by
  constructor
  · show (if b ≤ bnd s then _ else _) = _
    rw [if_neg (by omega)]
  · show (if b ≤ bnd s then _ else _) = _
    rw [if_neg (by omega)]
theorem tp_mo {b b' : Nat} {H : List Nat} (h : tp b H) (hb : b ≤ b') : tp b' H := by
  cases H with
  | nil => exact ⟨rfl, rfl⟩
  | cons s H =>
    refine tp_c (Nat.lt_of_not_le fun q => ?_)
    have := h.1
    rw [show stO b (s :: H) = if b ≤ bnd s then (s, 0) :: stO b H else [] from rfl, if_pos (by omega)] at this
    exact nomatch this
theorem AR_rk {cp : Bool} {m i r : Nat} {c : List (Nat × Nat)} {H : List Nat} (he : elH H) (hd : dep H ≤ 10) (hi : i ≤ n) (hr : rk t n (sk t n i) = r) (h0 : r ≠ 0) (ht : tp (bnd r) H) : AR t n cp m c H i = VR t n cp m c (r :: H) (sk t n i + 1) := by
  obtain ⟨k1, k2⟩ := rk_cs (t := t) (n := n) (j := sk t n i) (by omega)
  have e : aft t n cp m c H i = .inr (false, cp, m, c, r :: H, sk t n i + 1) := by
    unfold aft
    rw [if_neg (by omega), hr, ht.1, ht.2, List.append_nil]
  have el : elH (r :: H) := fun y hy => by
    rcases List.mem_cons.mp hy with rfl | hy
    · omega
    · exact he y hy
  unfold AR
  rw [e]
  exact RUN_V el (by rw [dep_pu (by omega)]; exact hd) (by omega)
theorem AR_hold {cp : Bool} {m i s : Nat} {c : List (Nat × Nat)} {H : List Nat} (h : s ≠ 16) (h4 : 4 ≤ bnd s) (hr : rk t n (sk t n i) = 0 ∨ bnd (rk t n (sk t n i)) ≤ bnd s) : AR t n cp m c (s :: H) i = AR t n cp m (c ++ [(s, 0)]) H i := by
  unfold AR
  rw [aft_hold h h4 hr]
end RX
/-! kinds: true a fact, false a number -/
def tyS (q : Nat × Nat) (τ : List Bool) : Option (List Bool) :=
  if q.1 = 2 ∨ q.1 = 3 then some (false :: τ)
  else if q.1 = 4 then (match τ with
    | true :: r => some (true :: r)
    | _ => none)
  else if q.1 = 5 ∨ q.1 = 6 then (match τ with
    | true :: true :: r => some (true :: r)
    | _ => none)
  else if 7 ≤ q.1 ∧ q.1 ≤ 10 then (match τ with
    | false :: false :: r => some (false :: r)
    | _ => none)
  else if 11 ≤ q.1 ∧ q.1 ≤ 15 then (match τ with
    | false :: false :: r => some (true :: r)
    | _ => none)
  else none
def tyc : List (Nat × Nat) → List Bool → Option (List Bool)
  | [], τ => some τ
  | q :: e, τ => (tyS q τ).bind (tyc e)
theorem tyc_app : ∀ (e f : List (Nat × Nat)) (τ : List Bool), tyc (e ++ f) τ = (tyc e τ).bind (tyc f) := by
  intro e
  induction e with
  | nil => intro f τ; rfl
  | cons q e ih =>
    intro f τ
    show (tyS q τ).bind (tyc (e ++ f)) = ((tyS q τ).bind (tyc e)).bind (tyc f)
    cases tyS q τ with
    | none => rfl
    | some σ => exact ih f σ
theorem tyS_v {q : Nat × Nat} {τ : List Bool} (h : q.1 = 2 ∨ q.1 = 3) : tyS q τ = some (false :: τ) := by
  unfold tyS
  rw [if_pos h]
theorem vlC_k {t : Nat → Int32} {n j : Nat} : (vlC t n j).1 = 2 ∨ (vlC t n j).1 = 3 := by
  unfold vlC
  split
  · exact Or.inl rfl
  · exact Or.inr rfl
theorem tyS_r {r v : Nat} {τ : List Bool} (h : 7 ≤ r ∧ r ≤ 10) : tyS (r, v) (false :: false :: τ) = some (false :: τ) := by
  unfold tyS
  rw [if_neg (show ¬ (r = 2 ∨ r = 3) by omega), if_neg (show ¬ r = 4 by omega), if_neg (show ¬ (r = 5 ∨ r = 6) by omega), if_pos h]
theorem tyS_c {r v : Nat} {τ : List Bool} (h : 11 ≤ r ∧ r ≤ 15) : tyS (r, v) (false :: false :: τ) = some (true :: τ) := by
  unfold tyS
  rw [if_neg (show ¬ (r = 2 ∨ r = 3) by omega), if_neg (show ¬ r = 4 by omega), if_neg (show ¬ (r = 5 ∨ r = 6) by omega), if_neg (show ¬ (7 ≤ r ∧ r ≤ 10) by omega), if_pos h]
def tyL (e : List (Nat × Nat)) : Prop := ∀ τ, tyc e (false :: τ) = some (false :: τ)
def tyV (e : List (Nat × Nat)) : Prop := ∀ τ, tyc e τ = some (false :: τ)
def tyB (e : List (Nat × Nat)) : Prop := ∀ τ, tyc e τ = some (true :: τ)
theorem tyL_c {q : Nat × Nat} {r : Nat} {e : List (Nat × Nat)} (hq : q.1 = 2 ∨ q.1 = 3) (hr : 7 ≤ r ∧ r ≤ 10) (he : tyL e) : tyL ([q] ++ [(r, 0)] ++ e) := fun τ => by
  show (tyS q (false :: τ)).bind (fun σ => (tyS (r, 0) σ).bind (tyc e)) = _
  rw [tyS_v hq, Option.bind_some, tyS_r hr, Option.bind_some]
  exact he τ
theorem tyV_c {q : Nat × Nat} {e : List (Nat × Nat)} (hq : q.1 = 2 ∨ q.1 = 3) (he : tyL e) : tyV ([q] ++ e) := fun τ => by
  show (tyS q τ).bind (tyc e) = _
  rw [tyS_v hq, Option.bind_some]
  exact he τ
theorem tyL_s {r : Nat} {e f : List (Nat × Nat)} (hr : 7 ≤ r ∧ r ≤ 10) (he : tyV e) (hf : tyL f) : tyL (e ++ [(r, 0)] ++ f) := fun τ => by
  rw [tyc_app, tyc_app, he, Option.bind_some]
  show ((tyS (r, 0) (false :: false :: τ)).bind (tyc [])).bind (tyc f) = _
  rw [tyS_r hr, Option.bind_some]
  exact hf τ
theorem tyV_s {e f : List (Nat × Nat)} (he : tyV e) (hf : tyL f) : tyV (e ++ f) := fun τ => by
  rw [tyc_app, he, Option.bind_some]
  exact hf τ
theorem tyB_c {r : Nat} {e f : List (Nat × Nat)} (hr : 11 ≤ r ∧ r ≤ 15) (he : tyV e) (hf : tyV f) : tyB (e ++ f ++ [(r, 0)]) := fun τ => by
  rw [tyc_app, tyc_app, he, Option.bind_some, hf, Option.bind_some]
  show (tyS (r, 0) (false :: false :: τ)).bind (tyc []) = _
  rw [tyS_c hr, Option.bind_some]
  rfl
end
