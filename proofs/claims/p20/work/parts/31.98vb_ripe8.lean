section
/-! ripe(): the class, strictly: all places -/
def gBk (F : List (Nat × Nat)) (E : List St5) (f0 : Nat) (A : Nat → Nat) (lab : Nat → Nat × Nat) (lo hi c t f : Nat) : Prop := hi ≤ c ∧ (∀ j, lo ≤ j → j < hi → lab j = (t, f) ∧ Rch F E f0 t f (A j / 32) (A j % 32)) ∧ (∀ a b, Rch F E f0 t f a b → ∃ j, lo ≤ j ∧ j < hi ∧ A j / 32 = a ∧ A j % 32 ≤ b) ∧ ris A lo hi
def LB (F : List (Nat × Nat)) (E : List St5) (f0 n : Nat) (A : Nat → Nat) (lab : Nat → Nat × Nat) (c w : Nat) : Prop := (∀ j, j < c → (lab j).2 < F.length ∧ (lab j).1 * F.length + (lab j).2 < w ∧ (lab j).1 ≤ n ∧ Rch F E f0 (lab j).1 (lab j).2 (A j / 32) (A j % 32)) ∧ ∀ i j, i < j → j < c → lab i ≠ lab j ∨ A i / 32 ≠ A j / 32
def lbx (lab : Nat → Nat × Nat) (st t p : Nat) : Nat → Nat × Nat := fun j => if j < st then lab j else (t, p)
theorem lbx_l {lab : Nat → Nat × Nat} {st t p j : Nat} (h : j < st) : lbx lab st t p j = lab j := if_pos h
theorem lbx_g {lab : Nat → Nat × Nat} {st t p j : Nat} (h : ¬ j < st) : lbx lab st t p j = (t, p) := if_neg h
theorem slt {m t t' f : Nat} (h : t' < t) (hf : f < m) : t' * m + f + 1 ≤ t * m := by
  have h2 : (t' + 1) * m ≤ t * m := Nat.mul_le_mul_right m h
  rw [Nat.add_mul, Nat.one_mul] at h2
  omega
theorem slt_i {m t t' f p : Nat} (hf : f < m) (hp : p < m) (h : t' * m + f = t * m + p) : t' = t ∧ f = p := by
  rcases Nat.lt_trichotomy t' t with h1 | h1 | h1
  · have := slt h1 hf
    omega
  · rw [h1] at h
    exact ⟨h1, by omega⟩
  · have := slt h1 hp
    omega
section SP
variable {F : List (Nat × Nat)} {E : List St5} {f0 n : Nat}
theorem gBk_eq {A A' : Nat → Nat} {lab lab' : Nat → Nat × Nat} {lo hi c c' t f : Nat} (h : gBk F E f0 A lab lo hi c t f) (hc : c ≤ c') (e : ∀ j, j < c → A' j = A j ∧ lab' j = lab j) : gBk F E f0 A' lab' lo hi c' t f := by
  obtain ⟨h1, h2, h3, h4⟩ := h
  refine ⟨by omega, fun j a b => ?_, fun a b hR => ?_, fun i j a b d => ?_⟩
  · rw [(e j (by omega)).1, (e j (by omega)).2]
    exact h2 j a b
  · obtain ⟨j, j1, j2, j3, j4⟩ := h3 a b hR
    exact ⟨j, j1, j2, by rw [(e j (by omega)).1]; exact j3, by rw [(e j (by omega)).1]; exact j4⟩
  · rw [(e i (by omega)).1, (e j (by omega)).1]
    exact h4 i j a b d
theorem LB_x {A A' : Nat → Nat} {lab : Nat → Nat × Nat} {st c' t p : Nat} (h : LB F E f0 n A lab st (t * F.length + p)) (hA : ∀ j, j < st → A' j = A j) (hp : p < F.length) (ht : t ≤ n) (hs : ∀ j, st ≤ j → j < c' → Rch F E f0 t p (A' j / 32) (A' j % 32)) (hr : ris A' st c') : LB F E f0 n A' (lbx lab st t p) c' (t * F.length + p + 1) := by
  refine ⟨fun j hj => ?_, fun i j h1 h2 => ?_⟩
  · by_cases z : j < st
    · rw [lbx_l z, hA j z]
      obtain ⟨a, b, c, d⟩ := h.1 j z
      exact ⟨a, by omega, c, d⟩
    · rw [lbx_g z]
      exact ⟨hp, Nat.lt_succ_self _, ht, hs j (by omega) hj⟩
  · by_cases z : j < st
    · rw [lbx_l z, lbx_l (show i < st by omega), hA j z, hA i (by omega)]
      exact h.2 i j h1 z
    · by_cases y : i < st
      · refine Or.inl fun e => ?_
        rw [lbx_l y, lbx_g z] at e
        have h3 := (h.1 i y).2.1
        rw [e] at h3
        exact Nat.lt_irrefl _ h3
      · refine Or.inr ?_
        have := hr i j (by omega) h1 h2
        omega
theorem LB_many {A : Nat → Nat} {lab : Nat → Nat × Nat} {w : Nat} (h : LB F E f0 n A lab 4001 w) : Many F E f0 n := by
  refine ⟨fun j => ((lab j).1, (lab j).2, A j / 32), fun j hj => ⟨A j % 32, (h.1 j (by omega)).2.2.2, (h.1 j (by omega)).2.2.1⟩, fun i j h1 h2 e => ?_⟩
  have e : ((lab i).1, (lab i).2, A i / 32) = ((lab j).1, (lab j).2, A j / 32) := e
  injection e with e1 e2
  injection e2 with e2 e3
  rcases h.2 i j h1 (by omega) with x | x
  · exact x (Prod.ext e1 e2)
  · exact x e3
/-- all places before w are done -/
def SI (F : List (Nat × Nat)) (E : List St5) (f0 n : Nat) (T : fS) (w : Nat) (A : Nat → Nat) (lab : Nat → Nat × Nat) (bg : Nat → Nat) (c : Nat) : Prop := hA T A c ∧ bg w = c ∧ (w = 0 ∨ hB T bg w) ∧ (∀ t f, f < F.length → t * F.length + f < w → gBk F E f0 A lab (bg (t * F.length + f)) (bg (t * F.length + f + 1)) c t f) ∧ LB F E f0 n A lab c w
theorem q_one (hF : ∀ q ∈ F, okF q) (hE : ∀ q ∈ E, okS F.length q) (hm : F.length ≤ 10) (hl : E.length ≤ 12) (h0 : f0 < F.length) (hn : n ≤ 16) {t p st c1 : Nat} (ht : t ≤ n) (hp : p < F.length) {T : fS} {A A1 bg : Nat → Nat} {lab : Nat → Nat × Nat} (b1 : twC T 4 F E) (hW : hB T bg (t * F.length + p)) (hG : ∀ t' f, f < F.length → t' * F.length + f < t * F.length + p → gBk F E f0 A lab (bg (t' * F.length + f)) (bg (t' * F.length + f + 1)) st t' f) (hL : LB F E f0 n A lab st (t * F.length + p)) (hT : hA T A1 c1) (hAA : ∀ i, i < st → A1 i = A i) (hini : (c1 = st ∧ ¬ (t = 0 ∧ p = f0)) ∨ (c1 = st + 1 ∧ A1 st = 0 ∧ t = 0 ∧ p = f0)) : ∃ V U A' c', f_X3_gatherSources 4 (o3 t) (o3 p) T = some V ∧ eRp T V ∧ eRp T U ∧ ((f_X3_merge (o3 st) V = some (1, U) ∧ hA U A' c' ∧ hB U bg (t * F.length + p) ∧ st ≤ c' ∧ (∀ j, j < st → A' j = A j) ∧ gBk F E f0 A' (lbx lab st t p) st c' c' t p ∧ LB F E f0 n A' (lbx lab st t p) c' (t * F.length + p + 1)) ∨ (f_X3_merge (o3 st) V = some (0, U) ∧ Many F E f0 n)) := by
  have h16 : t * F.length ≤ 16 * 10 := Nat.mul_le_mul (by omega) hm
  obtain ⟨V, q, h, e, g, v1, v2, v3, v4⟩ := q_ga hF hE hm hl (t := t) (by omega) hp (w := t * F.length + p) (by omega) (by omega) b1 hW
  have hV : hA V A1 c1 := ⟨hT.1, (v4.1 _ _ (by omega) (by omega) (by omega)).trans hT.2.1, fun j hj => ⟨(v4.2 _ _ (by omega)).trans (hT.2.2 j hj).1, (hT.2.2 j hj).2⟩⟩
  have hs : st ≤ c1 := by
    rcases hini with ⟨x, _⟩ | ⟨x, _⟩
    · omega
    · omega
  have hsr : ∀ k, k < q → ∃ t' f' ga gc, inK F E E.length t p t' f' ga gc ∧ (f' < F.length ∧ t' < t ∧ gc ≤ t - t' ∧ ga ≤ 4655851200 * (t - t')) ∧ g k = ga * 32 + gc ∧ gBk F E f0 A lab (h k) (e k) st t' f' := fun k hk => by
    obtain ⟨t', f', ga, gc, i1, i2, i3, i4⟩ := v3.1 k hk
    have io := in_ok hF hE i1
    refine ⟨t', f', ga, gc, i1, io, i4, ?_⟩
    rw [i2, i3]
    have := slt io.2.1 io.1
    exact hG t' f' io.1 (by omega)
  have hval : ∀ x, src q h e g A x → x < 4398046511104 ∧ Rch F E f0 t p (x / 32) (x % 32) := fun x hx => by
    obtain ⟨k, i, k1, k2, k3, k4⟩ := hx
    obtain ⟨t', f', ga, gc, i1, ⟨i2, i3, i4, i5⟩, i6, i7⟩ := hsr k k1
    have hR := (i7.2.1 i k2 k3).2
    obtain ⟨_, b2, b3⟩ := Rch_b hF hE h0 hR
    have e1 : x / 32 = A i / 32 + ga := by omega
    have e2 : x % 32 = A i % 32 + gc := by omega
    refine ⟨by omega, ?_⟩
    rw [e1, e2]
    exact Rch_s hR (in_st hE i1 _ _)
  have he : ∀ k, k < q → e k ≤ st := fun k hk => by
    obtain ⟨t', f', ga, gc, _, _, _, i7⟩ := hsr k hk
    exact i7.1
  have hmo : ∀ k i, k < q → h k ≤ i → i + 1 < e k → A i < A (i + 1) := fun k i hk h1 h2 => by
    obtain ⟨t', f', ga, gc, _, _, _, i7⟩ := hsr k hk
    have := i7.2.2.2 i (i + 1) h1 (by omega) h2
    omega
  obtain ⟨U, A', c', u1, u2, u3, u4, u5, u6, u7⟩ := q_mg (st := st) (B := A) he (fun k i k1 k2 k3 => (hval _ ⟨k, i, k1, k2, k3, rfl⟩).1) hmo hV hAA hs v2 (fun i j x y z => by
    rcases hini with ⟨w, _⟩ | ⟨w, _⟩
    · omega
    · omega) (fun x k hk _ => by
    rcases hini with ⟨w, _⟩ | ⟨w, _, w2, _⟩
    · omega
    · obtain ⟨t', f', ga, gc, _, ⟨_, i3, _⟩, _⟩ := hsr k hk
      omega)
  have hst : st ≤ 4000 := by have := hT.1; omega
  have hA' : ∀ j, j < st → A' j = A j := fun j hj => (u4 j (by omega)).trans (hAA j hj)
  have hso : ∀ j, st ≤ j → j < c' → Rch F E f0 t p (A' j / 32) (A' j % 32) := fun j j1 j2 => by
    by_cases z : j < c1
    · rcases hini with ⟨w, _⟩ | ⟨w, w1, w2, w3⟩
      · omega
      · have ej : j = st := by omega
        rw [u4 j z, ej, w1, w2, w3]
        exact Rch_0
    · exact (hval _ (u6 j (by omega) j2)).2
  refine ⟨V, U, A', c', v1, eRp_G v4, (eRp_G v4).tr (eRp_M u1), ?_⟩
  rcases u7 with ⟨u7, u8⟩ | ⟨u7, u8, x, u9, u10⟩
  · refine Or.inl ⟨u7, u2, hB_eq hW (fun k => (u1.1 _ _ (by omega) (by omega)).trans (v4.1 _ _ (by omega) (by omega) (by omega))), by omega, hA', ⟨Nat.le_refl _, fun j j1 j2 => ⟨lbx_g (by omega), hso j j1 j2⟩, fun a b hR => ?_, u5⟩, LB_x hL hA' hp ht hso u5⟩
    rcases Rch_i hR with ⟨r1, r2, r3, r4⟩ | ⟨t', f', a', c0, r1, r2⟩
    · rcases hini with ⟨_, w⟩ | ⟨w, w1, w2, w3⟩
      · exact absurd ⟨r1, r2⟩ w
      · have e0 : A' st = 0 := (u4 st (by omega)).trans w1
        exact ⟨st, Nat.le_refl _, by omega, by omega, by omega⟩
    · obtain ⟨ga, gc, i1, i2, i3⟩ := st_in hE r2
      obtain ⟨o1, o2, o3', o4⟩ := in_ok hF hE i1
      have hsl := slt o2 o1
      have hg := hG t' f' o1 (by omega)
      obtain ⟨j, j1, j2, j3, j4⟩ := hg.2.2.1 a' c0 r1
      obtain ⟨_, _, b3⟩ := Rch_b hF hE h0 (hg.2.1 j j1 j2).2
      obtain ⟨k, k1, k2, k3, k4⟩ := v3.2 t' f' ga gc i1 (by omega)
      obtain ⟨j', y1, y2, y3, y4⟩ := u8 (A j + g k) ⟨k, j, k1, by omega, by omega, rfl⟩
      exact ⟨j', y1, y2, by omega, by omega⟩
  · subst u8
    refine Or.inr ⟨u7, LB_many (LB_x (c' := 4001) (A' := snA A' 4000 x) hL (fun j hj => by rw [snA_l (by omega)]; exact hA' j hj) hp ht (fun j j1 j2 => ?_) (ris_n u5 u10))⟩
    by_cases z : j = 4000
    · rw [z, snA_e]
      exact (hval x u9).2
    · rw [snA_n z]
      exact hso j j1 (by omega)
end SP
end
