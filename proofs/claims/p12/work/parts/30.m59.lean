section
/-! a first stair; an hour, of a crowd C on floors F with stairs E by a rule Q -/
abbrev St5 : Type := Nat × Nat × Nat × Nat × Nat
def oeI (q : St5) (a : Nat) : Int32 := if q.1 = a then o3 q.2.1 else if q.2.1 = a then o3 q.1 else -1
abbrev hk (q : St5) (D : Mx) (a b : Nat) : Prop := (q.1 = a ∧ D q.2.1 b < 99999 ∧ q.2.2.1 + D q.2.1 b = D a b) ∨ (q.1 ≠ a ∧ q.2.1 = a ∧ D q.1 b < 99999 ∧ q.2.2.1 + D q.1 b = D a b)
def fsf (E : List St5) (D : Mx) (a b : Nat) : Nat → Nat → Option Nat
  | 0, _ => none
  | d + 1, k => if hk (E.getD k d5) D a b then some k else fsf E D a b d (k + 1)
def fS1 (E : List St5) (a b : Nat) : Option Nat := if a = b ∨ dst E a b = 99999 then none else fsf E (dst E) a b E.length 0
theorem fsf_pr {E : List St5} {D : Mx} {a b : Nat} : ∀ d k j, fsf E D a b d k = some j → k ≤ j ∧ j < k + d ∧ hk (E.getD j d5) D a b := by
  intro d
  induction d with
  | zero => intro k j h; exact nomatch h
  | succ d ih =>
    intro k j h
    rw [show fsf E D a b (d + 1) k = if hk (E.getD k d5) D a b then some k else fsf E D a b d (k + 1) from rfl] at h
    by_cases hh : hk (E.getD k d5) D a b
    · rw [if_pos hh] at h
      obtain rfl := Option.some.inj h
      exact ⟨Nat.le_refl _, by omega, hh⟩
    · rw [if_neg hh] at h
      obtain ⟨x, y, z⟩ := ih (k + 1) j h
      exact ⟨by omega, by omega, z⟩
theorem fsf_ex {E : List St5} {D : Mx} {a b : Nat} : ∀ d k, (∃ j, k ≤ j ∧ j < k + d ∧ hk (E.getD j d5) D a b) → ∃ j, fsf E D a b d k = some j := by
  intro d
  induction d with
  | zero => intro k ⟨j, h1, h2, _⟩; omega
  | succ d ih =>
    intro k ⟨j, h1, h2, h3⟩
    rw [show fsf E D a b (d + 1) k = if hk (E.getD k d5) D a b then some k else fsf E D a b d (k + 1) from rfl]
    by_cases hh : hk (E.getD k d5) D a b
    · rw [if_pos hh]; exact ⟨k, rfl⟩
    · rw [if_neg hh]
      have : j ≠ k := fun e => hh (e ▸ h3)
      exact ih (k + 1) ⟨j, by omega, by omega, h3⟩
theorem gd_of_mem {α : Type} {d : α} : ∀ (l : List α) (x : α), x ∈ l → ∃ k, k < l.length ∧ l.getD k d = x := by
  intro l x h
  obtain ⟨k, hk, e⟩ := List.getElem_of_mem h
  exact ⟨k, hk, by rw [List.getD_eq_getElem?_getD, List.getElem?_eq_getElem hk]; exact e⟩
theorem hk_ex {E : List St5} {m a b : Nat} (hE : ∀ q ∈ E, okS m q) (hm : m ≤ 10) (hab : a ≠ b) (h : dst E a b < 99999) : ∃ j, j < E.length ∧ hk (E.getD j d5) (dst E) a b := by
  obtain ⟨q, hq, hh⟩ := dst_fst (E := E) hab h
  obtain ⟨s1, s2, s3, s4⟩ := hE q hq
  have hst := dst_st hq
  obtain ⟨k, k1, k2⟩ := gd_of_mem (d := d5) E q hq
  refine ⟨k, k1, ?_⟩
  rw [k2]
  rcases hh with ⟨e, hh⟩ | ⟨e, hh⟩
  · have ht := dst_tri (E := E) (p := q.2.1) (by omega) a b
    rw [← e] at ht hh h ⊢
    exact Or.inl ⟨rfl, by omega, by omega⟩
  · have ht := dst_tri (E := E) (p := q.1) (by omega) a b
    rw [← e] at ht hh h ⊢
    exact Or.inr ⟨s3, rfl, by omega, by omega⟩
theorem dst_pos {E : List St5} {m a b : Nat} (hE : ∀ q ∈ E, okS m q) (hm : m ≤ 10) (hab : a ≠ b) (h : dst E a b < 99999) : 0 < dst E a b := by
  obtain ⟨j, j1, j2⟩ := hk_ex hE hm hab h
  obtain ⟨_, _, _, s4, _⟩ := hE _ (gd_mem (d := d5) j1)
  rcases j2 with ⟨_, _, e⟩ | ⟨_, _, _, e⟩ <;> omega
theorem fS1_ex {E : List St5} {m a b : Nat} (hE : ∀ q ∈ E, okS m q) (hm : m ≤ 10) (hab : a ≠ b) (h : dst E a b < 99999) : ∃ j, fS1 E a b = some j ∧ fsf E (dst E) a b E.length 0 = some j ∧ j < E.length ∧ hk (E.getD j d5) (dst E) a b := by
  obtain ⟨j0, j1, j2⟩ := hk_ex hE hm hab h
  obtain ⟨j, hj⟩ := fsf_ex (E := E) (D := dst E) (a := a) (b := b) E.length 0 ⟨j0, by omega, by omega, j2⟩
  obtain ⟨x, y, z⟩ := fsf_pr _ _ _ hj
  refine ⟨j, ?_, hj, by omega, z⟩
  unfold fS1
  rw [if_neg (by omega), hj]
def udN {α : Type} (f : Nat → α) (k : Nat) (x : α) : Nat → α := fun j => if j = k then x else f j
theorem udN_eq {α : Type} {f : Nat → α} {k : Nat} {x : α} : udN f k x k = x := if_pos rfl
theorem udN_ne {α : Type} {f : Nat → α} {k j : Nat} {x : α} (h : j ≠ k) : udN f k x j = f j := if_neg h
def cOff (C : Cw) (th s : Nat) (o : Int32) : Cw := (C.1, C.2.1, udN C.2.2.1 th (-1), udN C.2.2.2.1 th (o3 s), udN C.2.2.2.2.1 th 0, udN C.2.2.2.2.2.1 th o, C.2.2.2.2.2.2)
def cOb1 (F : List (Nat × Nat)) (E : List St5) (Q : List Cl) (C : Cw) (th : Nat) : Cw :=
  if C.2.2.1 th < 0 then C
  else if 0 ≤ (gl (wd F C th) Q).toInt ∧ (gl (wd F C th) Q).toInt < F.length then
    (match fS1 E (C.2.2.1 th).toNatClampNeg (gl (wd F C th) Q).toNatClampNeg with
      | some k => cOff C th k (oeI (E.getD k d5) (C.2.2.1 th).toNatClampNeg)
      | none => C)
  else C
def cOb (F : List (Nat × Nat)) (E : List St5) (Q : List Cl) (C : Cw) : Nat → Cw
  | 0 => C
  | k + 1 => cOb1 F E Q (cOb F E Q C k) k
theorem cOff_ok {m : Nat} {E : List St5} {C : Cw} {th s f : Nat} {D : Mx} {b : Nat} (hC : okD m E C) (hE : ∀ q ∈ E, okS m q) (hs : s < E.length) (hh : hk (E.getD s d5) D f b) : okD m E (cOff C th s (oeI (E.getD s d5) f)) := by
  obtain ⟨c1, c2, c3⟩ := hC
  refine ⟨c1, c2, fun k hk' => ?_⟩
  obtain ⟨d1, d2, d3⟩ := c3 k hk'
  refine ⟨?_, d2, d3⟩
  by_cases e : k = th
  · subst e
    obtain ⟨_, _, _, s4, _⟩ := hE _ (gd_mem (d := d5) hs)
    show okT m E (udN _ k _ k) (udN _ k _ k) (udN _ k _ k) (udN _ k _ k)
    rw [udN_eq, udN_eq, udN_eq, udN_eq]
    rcases hh with ⟨h1, _⟩ | ⟨h1, h2, _⟩
    · refine Or.inr ⟨s, 0, (E.getD s d5).2.1, hs, rfl, rfl, rfl, by omega, ?_, Or.inr rfl⟩
      unfold oeI
      rw [if_pos h1]
    · refine Or.inr ⟨s, 0, (E.getD s d5).1, hs, rfl, rfl, rfl, by omega, ?_, Or.inl rfl⟩
      unfold oeI
      rw [if_neg h1, if_pos h2]
  · show okT m E (udN _ th _ k) (udN _ th _ k) (udN _ th _ k) (udN _ th _ k)
    rw [udN_ne e, udN_ne e, udN_ne e, udN_ne e]
    exact d1
theorem okT_nn {m : Nat} {E : List St5} {p w g e : Int32} (h : okT m E p w g e) (hm : m ≤ 10) (hp : ¬ p < 0) : ∃ f, f < m ∧ p = o3 f := by
  rcases h with ⟨f, h1, h2, _⟩ | ⟨s, j, f, _, h2, _⟩
  · exact ⟨f, h1, h2⟩
  · rw [h2] at hp; exact absurd (by decide) hp
theorem gl_cs {W : Nat → Int64} : ∀ Q, okRu Q → gl W Q = -1 ∨ ∃ g, g ≤ 9 ∧ gl W Q = o3 g := by
  intro Q
  induction Q with
  | nil => intro _; exact Or.inl rfl
  | cons q Q ih =>
    intro h
    obtain ⟨q1, t⟩ := q
    have h1 : q1 ≤ 9 := (h (q1, t) List.mem_cons_self).1
    cases t with
    | none => exact Or.inr ⟨q1, h1, rfl⟩
    | some w =>
      show (if vw W w = 0 then gl W Q else o3 q1) = -1 ∨ ∃ g, g ≤ 9 ∧ (if vw W w = 0 then gl W Q else o3 q1) = o3 g
      split
      · exact ih (fun z hz => h z (List.mem_cons_of_mem _ hz))
      · exact Or.inr ⟨q1, h1, rfl⟩
theorem cOb1_ok {F : List (Nat × Nat)} {E : List St5} {Q : List Cl} {C : Cw} {th : Nat} (hC : okD F.length E C) (hE : ∀ q ∈ E, okS F.length q) (hm : F.length ≤ 10) (hth : th < C.1) : okD F.length E (cOb1 F E Q C th) ∧ (cOb1 F E Q C th).1 = C.1 ∧ (cOb1 F E Q C th).2.1 = C.2.1 := by
  unfold cOb1
  by_cases h0 : C.2.2.1 th < 0
  · rw [if_pos h0]; exact ⟨hC, rfl, rfl⟩
  rw [if_neg h0]
  by_cases h1 : 0 ≤ (gl (wd F C th) Q).toInt ∧ (gl (wd F C th) Q).toInt < F.length
  · rw [if_pos h1]
    cases hf : fS1 E (C.2.2.1 th).toNatClampNeg (gl (wd F C th) Q).toNatClampNeg with
    | none => exact ⟨hC, rfl, rfl⟩
    | some k =>
      unfold fS1 at hf
      split at hf
      · exact nomatch hf
      · obtain ⟨x, y, z⟩ := fsf_pr _ _ _ hf
        exact ⟨cOff_ok hC hE (by omega) z, rfl, rfl⟩
  · rw [if_neg h1]; exact ⟨hC, rfl, rfl⟩
theorem cOb_ok {F : List (Nat × Nat)} {E : List St5} {Q : List Cl} {C : Cw} (hC : okD F.length E C) (hE : ∀ q ∈ E, okS F.length q) (hm : F.length ≤ 10) : ∀ k, k ≤ C.1 → okD F.length E (cOb F E Q C k) ∧ (cOb F E Q C k).1 = C.1 ∧ (cOb F E Q C k).2.1 = C.2.1 := by
  intro k
  induction k with
  | zero => intro _; exact ⟨hC, rfl, rfl⟩
  | succ k ih =>
    intro hk
    obtain ⟨a, b, c⟩ := ih (by omega)
    obtain ⟨x, y, z⟩ := cOb1_ok (Q := Q) (th := k) a hE hm (by omega)
    exact ⟨x, y.trans b, z.trans c⟩
/-- an hour passes -/
abbrev stays (E : List St5) (C : Cw) (k : Nat) : Prop := C.2.2.2.2.1 k + 1 < o3 (E.getD (C.2.2.2.1 k).toNatClampNeg d5).2.2.1
def cPs (F : List (Nat × Nat)) (E : List St5) (C : Cw) : Cw := (C.1, C.2.1 + 1,
  fun k => if C.2.2.1 k < 0 then (if stays E C k then C.2.2.1 k else C.2.2.2.2.2.1 k) else C.2.2.1 k,
  fun k => if C.2.2.1 k < 0 then (if stays E C k then C.2.2.2.1 k else -1) else C.2.2.2.1 k,
  fun k => if C.2.2.1 k < 0 then (if stays E C k then C.2.2.2.2.1 k + 1 else 0) else C.2.2.2.2.1 k,
  fun k => if C.2.2.1 k < 0 then (if stays E C k then C.2.2.2.2.2.1 k else -1) else C.2.2.2.2.2.1 k,
  fun k => if C.2.2.1 k < 0 then C.2.2.2.2.2.2 k + pc (E.getD (C.2.2.2.1 k).toNatClampNeg d5).2.2.2 else C.2.2.2.2.2.2 k + pc (F.getD (C.2.2.1 k).toNatClampNeg (0, 0)))
theorem pc_le {q : Nat × Nat} (h : okF q) : 0 ≤ (pc q).toInt ∧ (pc q).toInt ≤ 4655851200 := by
  obtain ⟨h1, h2, h3, h4⟩ := h
  have hp : q.1 * (232792560 / q.2) ≤ 20 * 232792560 := Nat.mul_le_mul h2 (Nat.div_le_self _ _)
  unfold pc
  rw [o6_int (by omega)]
  omega
theorem cPs_ok {F : List (Nat × Nat)} {E : List St5} {C : Cw} (hC : okD F.length E C) (hF : ∀ q ∈ F, okF q) (hE : ∀ q ∈ E, okS F.length q) (hm : F.length ≤ 10) (hl : E.length ≤ 12) (h9 : C.2.1 < 10199) : okD F.length E (cPs F E C) := by
  obtain ⟨c1, c2, c3⟩ := hC
  refine ⟨c1, by show C.2.1 + 1 ≤ 10199; omega, fun k hk' => ?_⟩
  obtain ⟨d1, d2, d3⟩ := c3 k hk'
  have c1' : k < 8 := by have : k < C.1 := hk'; omega
  have hage : ∀ x : Int64, 0 ≤ x.toInt → x.toInt ≤ 4655851200 → 0 ≤ (C.2.2.2.2.2.2 k + x).toInt ∧ (C.2.2.2.2.2.2 k + x).toInt ≤ 4655851200 * ((C.2.1 + 1 : Nat) : Int) := fun x h1 h2 => by
    rw [nl_add (by omega) (by omega)]
    omega
  show okT _ _ (if C.2.2.1 k < 0 then _ else _) (if C.2.2.1 k < 0 then _ else _) (if C.2.2.1 k < 0 then _ else _) (if C.2.2.1 k < 0 then _ else _) ∧ 0 ≤ (if C.2.2.1 k < 0 then _ else _ : Int64).toInt ∧ (if C.2.2.1 k < 0 then _ else _ : Int64).toInt ≤ _
  rcases d1 with ⟨f, e1, e2, e3, e4, e5⟩ | ⟨s, j, f, e1, e2, e3, e4, e5, e6, e7⟩
  · have hn : ¬ C.2.2.1 k < 0 := by rw [e2]; exact o3_nn (by omega)
    rw [if_neg hn, if_neg hn, if_neg hn, if_neg hn, if_neg hn, e2, o3_nat (by omega)]
    have := pc_le (hF _ (gd_mem (d := (0, 0)) e1))
    exact ⟨Or.inl ⟨f, e1, rfl, e3, e4, e5⟩, hage _ this.1 this.2⟩
  · have hn : C.2.2.1 k < 0 := by rw [e2]; decide
    obtain ⟨s1, s2, s3, s4, s5, s6⟩ := hE _ (gd_mem (d := d5) e1)
    rw [if_pos hn, if_pos hn, if_pos hn, if_pos hn, if_pos hn]
    have := pc_le s6
    have hst : stays E C k ↔ j + 1 < (E.getD s d5).2.2.1 := by
      unfold stays
      rw [e3, e4, o3_s, o3_nat (by omega), o3_lt (by omega) (by omega)]
    refine ⟨?_, ?_⟩
    · by_cases hs : stays E C k
      · rw [if_pos hs, if_pos hs, if_pos hs, if_pos hs, e2, e3, e4, o3_s]
        exact Or.inr ⟨s, j + 1, f, e1, rfl, rfl, rfl, hst.mp hs, e6, e7⟩
      · rw [if_neg hs, if_neg hs, if_neg hs, if_neg hs, e6]
        exact Or.inl ⟨f, by rcases e7 with e | e <;> omega, rfl, rfl, rfl, rfl⟩
    · rw [e3, o3_nat (by omega)]
      exact hage _ this.1 this.2
/-- an hour by a rule, or by none -/
def cHr (F : List (Nat × Nat)) (E : List St5) (Q : Option (List Cl)) (C : Cw) : Cw := match Q with
  | none => cPs F E C
  | some L => cPs F E (cOb F E L C C.1)
def cHrs (F : List (Nat × Nat)) (E : List St5) (Q : Option (List Cl)) : Nat → Cw → Cw
  | 0, C => C
  | k + 1, C => cHrs F E Q k (cHr F E Q C)
theorem cHr_ok {F : List (Nat × Nat)} {E : List St5} {Q : Option (List Cl)} {C : Cw} (hC : okD F.length E C) (hF : ∀ q ∈ F, okF q) (hE : ∀ q ∈ E, okS F.length q) (hm : F.length ≤ 10) (hl : E.length ≤ 12) (h9 : C.2.1 < 10199) : okD F.length E (cHr F E Q C) ∧ (cHr F E Q C).1 = C.1 ∧ (cHr F E Q C).2.1 = C.2.1 + 1 := by
  cases Q with
  | none => exact ⟨cPs_ok hC hF hE hm hl h9, rfl, rfl⟩
  | some L =>
    obtain ⟨a, b, c⟩ := cOb_ok (Q := L) hC hE hm C.1 (Nat.le_refl _)
    exact ⟨cPs_ok a hF hE hm hl (by omega), b, by show (cOb F E L C C.1).2.1 + 1 = _; rw [c]⟩
end
