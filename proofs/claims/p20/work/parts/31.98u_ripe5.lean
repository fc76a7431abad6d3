section
/-! ripe(): what can be reached -/
def fz (F : List (Nat × Nat)) (f : Nat) : Nat := (F.getD f (0, 0)).1 * pz (F.getD f (0, 0))
def ez (E : List St5) (k : Nat) : Nat := (E.getD k d5).2.2.1 * ((E.getD k d5).2.2.2.1 * pz (E.getD k d5).2.2.2)
def ehh (E : List St5) (k : Nat) : Nat := (E.getD k d5).2.2.1
/-- stair k leads from f to g -/
def eto (E : List St5) (k f g : Nat) : Prop := k < E.length ∧ (((E.getD k d5).1 = f ∧ g = (E.getD k d5).2.1) ∨ ((E.getD k d5).1 ≠ f ∧ (E.getD k d5).2.1 = f ∧ g = (E.getD k d5).1))
/-- a step (by one of the first s stairs) out of hour t, floor f, age a, carried c -/
def stK (F : List (Nat × Nat)) (E : List St5) (s t f a c t' f' a' c' : Nat) : Prop := (f < F.length ∧ t' = t + 1 ∧ f' = f ∧ a' = a + fz F f ∧ c' = c) ∨ ∃ k, k < s ∧ eto E k f f' ∧ t' = t + ehh E k ∧ a' = a + ez E k ∧ c' = c + ehh E k
/-- a step into hour t, floor f, out of t', f', and what it adds -/
def inK (F : List (Nat × Nat)) (E : List St5) (s t f t' f' ga gc : Nat) : Prop := (f < F.length ∧ t = t' + 1 ∧ f' = f ∧ ga = fz F f ∧ gc = 0) ∨ ∃ k, k < s ∧ eto E k f f' ∧ t = t' + ehh E k ∧ ga = ez E k ∧ gc = ehh E k
def Rk (F : List (Nat × Nat)) (E : List St5) (f0 : Nat) : Nat → Nat → Nat → Nat → Nat → Prop
  | 0, t, f, a, c => t = 0 ∧ f = f0 ∧ a = 0 ∧ c = 0
  | i + 1, t, f, a, c => ∃ t' f' a' c', Rk F E f0 i t' f' a' c' ∧ stK F E E.length t' f' a' c' t f a c
def Rch (F : List (Nat × Nat)) (E : List St5) (f0 t f a c : Nat) : Prop := ∃ i, Rk F E f0 i t f a c
section RC
variable {F : List (Nat × Nat)} {E : List St5} {f0 : Nat}
theorem Rch_0 : Rch F E f0 0 f0 0 0 := ⟨0, rfl, rfl, rfl, rfl⟩
theorem Rch_s {t f a c t' f' a' c' : Nat} (h : Rch F E f0 t f a c) (g : stK F E E.length t f a c t' f' a' c') : Rch F E f0 t' f' a' c' := by
  obtain ⟨i, h⟩ := h
  exact ⟨i + 1, t, f, a, c, h, g⟩
theorem Rch_i {t f a c : Nat} (h : Rch F E f0 t f a c) : (t = 0 ∧ f = f0 ∧ a = 0 ∧ c = 0) ∨ ∃ t' f' a' c', Rch F E f0 t' f' a' c' ∧ stK F E E.length t' f' a' c' t f a c := by
  obtain ⟨i, h⟩ := h
  cases i with
  | zero => exact Or.inl h
  | succ i =>
    obtain ⟨t', f', a', c', h1, h2⟩ := h
    exact Or.inr ⟨t', f', a', c', ⟨i, h1⟩, h2⟩
theorem eto_ok {m k f g : Nat} (hE : ∀ q ∈ E, okS m q) (h : eto E k f g) : f < m ∧ g < m ∧ 1 ≤ ehh E k ∧ ehh E k ≤ 9 ∧ ez E k ≤ 4655851200 * ehh E k := by
  obtain ⟨hk, h⟩ := h
  obtain ⟨s1, s2, _, s4, s5, s6⟩ := hE _ (gd_mem (d := d5) hk)
  have hz : ez E k ≤ ehh E k * 4655851200 := Nat.mul_le_mul_left _ (pcn_le s6).2
  rw [Nat.mul_comm] at hz
  refine ⟨?_, ?_, s4, s5, hz⟩
  · rcases h with ⟨a, b⟩ | ⟨_, a, b⟩
    · rw [← a]; exact s1
    · rw [← a]; exact s2
  · rcases h with ⟨a, b⟩ | ⟨_, a, b⟩
    · rw [b]; exact s2
    · rw [b]; exact s1
theorem eto_sy {m k f g : Nat} (hE : ∀ q ∈ E, okS m q) (h : eto E k f g) : eto E k g f := by
  obtain ⟨hk, h⟩ := h
  obtain ⟨_, _, s3, _⟩ := hE _ (gd_mem (d := d5) hk)
  refine ⟨hk, ?_⟩
  rcases h with ⟨a, b⟩ | ⟨_, a, b⟩
  · exact Or.inr ⟨by rw [b]; exact s3, b.symm, a.symm⟩
  · exact Or.inl ⟨b.symm, a.symm⟩
theorem fz_le (hF : ∀ q ∈ F, okF q) {f : Nat} (hf : f < F.length) : fz F f ≤ 4655851200 := (pcn_le (hF _ (gd_mem hf))).2
theorem st_in {m s t f a c t' f' a' c' : Nat} (hE : ∀ q ∈ E, okS m q) (h : stK F E s t f a c t' f' a' c') : ∃ ga gc, inK F E s t' f' t f ga gc ∧ a' = a + ga ∧ c' = c + gc := by
  rcases h with ⟨h1, h2, h3, h4, h5⟩ | ⟨k, h1, h2, h3, h4, h5⟩
  · exact ⟨fz F f, 0, Or.inl ⟨by omega, h2, h3.symm, by rw [h3], rfl⟩, h4, h5⟩
  · exact ⟨ez E k, ehh E k, Or.inr ⟨k, h1, eto_sy hE h2, h3, rfl, rfl⟩, h4, h5⟩
theorem in_st {m s t f t' f' ga gc : Nat} (hE : ∀ q ∈ E, okS m q) (h : inK F E s t f t' f' ga gc) (a c : Nat) : stK F E s t' f' a c t f (a + ga) (c + gc) := by
  rcases h with ⟨h1, h2, h3, h4, h5⟩ | ⟨k, h1, h2, h3, h4, h5⟩
  · exact Or.inl ⟨by omega, h2, h3.symm, by rw [h4, h3], by omega⟩
  · exact Or.inr ⟨k, h1, eto_sy hE h2, h3, by rw [h4], by rw [h5]⟩
theorem in_ok {s t f t' f' ga gc : Nat} (hF : ∀ q ∈ F, okF q) (hE : ∀ q ∈ E, okS F.length q) (h : inK F E s t f t' f' ga gc) : f' < F.length ∧ t' < t ∧ gc ≤ t - t' ∧ ga ≤ 4655851200 * (t - t') := by
  rcases h with ⟨h1, h2, h3, h4, h5⟩ | ⟨k, h1, h2, h3, h4, h5⟩
  · have := fz_le hF h1
    exact ⟨by omega, by omega, by omega, by omega⟩
  · obtain ⟨_, b, c, d, e⟩ := eto_ok hE h2
    exact ⟨b, by omega, by omega, by rw [show t - t' = ehh E k by omega, h4]; exact e⟩
theorem Rch_b (hF : ∀ q ∈ F, okF q) (hE : ∀ q ∈ E, okS F.length q) (h0 : f0 < F.length) {t f a c : Nat} (h : Rch F E f0 t f a c) : f < F.length ∧ a ≤ 4655851200 * t ∧ c ≤ t := by
  obtain ⟨i, h⟩ := h
  have key : ∀ i t f a c, Rk F E f0 i t f a c → f < F.length ∧ a ≤ 4655851200 * t ∧ c ≤ t := by
    intro i
    induction i with
    | zero =>
      intro t f a c h
      obtain ⟨h1, h2, h3, h4⟩ := h
      exact ⟨by omega, by omega, by omega⟩
    | succ i ih =>
      intro t f a c h
      obtain ⟨t', f', a', c', h1, h2⟩ := h
      obtain ⟨b1, b2, b3⟩ := ih _ _ _ _ h1
      rcases h2 with ⟨q1, q2, q3, q4, q5⟩ | ⟨k, _, q1, q2, q3, q4⟩
      · have := fz_le hF q1
        exact ⟨by omega, by omega, by omega⟩
      · obtain ⟨_, d1, d2, d3, d4⟩ := eto_ok hE q1
        exact ⟨d1, by omega, by omega⟩
  exact key i t f a c h
theorem st_lt (hE : ∀ q ∈ E, okS F.length q) {s t f a c t' f' a' c' : Nat} (h : stK F E s t f a c t' f' a' c') : t < t' := by
  rcases h with ⟨_, q2, _⟩ | ⟨k, _, q1, q2, _⟩
  · omega
  · have := (eto_ok hE q1).2.2.1
    omega
theorem st_mo {s t f a c t' f' a' c' o : Nat} (h : stK F E s t f a c t' f' a' c') (ho : o ≤ c) : ∃ o', stK F E s t f a o t' f' a' o' ∧ o' ≤ c' := by
  rcases h with ⟨q1, q2, q3, q4, q5⟩ | ⟨k, q0, q1, q2, q3, q4⟩
  · exact ⟨o, Or.inl ⟨q1, q2, q3, q4, rfl⟩, by omega⟩
  · exact ⟨o + ehh E k, Or.inr ⟨k, q0, q1, q2, q3, rfl⟩, by omega⟩
/-- in a drawer too many -/
theorem pig : ∀ (N : Nat) (g : Nat → Nat), (∀ j, j ≤ N → g j < N) → ∃ i j, i < j ∧ j ≤ N ∧ g i = g j := by
  intro N
  induction N with
  | zero => intro g h; exact absurd (h 0 (Nat.le_refl 0)) (Nat.not_lt_zero _)
  | succ N ih =>
    intro g h
    by_cases hx : ∃ i, i ≤ N ∧ g i = g (N + 1)
    · obtain ⟨i, i1, i2⟩ := hx
      exact ⟨i, N + 1, by omega, Nat.le_refl _, i2⟩
    · have hn : ∀ i, i ≤ N → g i ≠ g (N + 1) := fun i hi e => hx ⟨i, hi, e⟩
      have hv := h (N + 1) (Nat.le_refl _)
      obtain ⟨i, j, h1, h2, h3⟩ := ih (fun i => if g i = N then g (N + 1) else g i) (fun j hj => by
        have a := h j (by omega)
        have b := hn j hj
        show (if g j = N then g (N + 1) else g j) < N
        by_cases e : g j = N
        · rw [if_pos e]; omega
        · rw [if_neg e]; omega)
      refine ⟨i, j, h1, by omega, ?_⟩
      have h3 : (if g i = N then g (N + 1) else g i) = (if g j = N then g (N + 1) else g j) := h3
      have bi := hn i (by omega)
      have bj := hn j h2
      by_cases e1 : g i = N
      · by_cases e2 : g j = N
        · rw [e1, e2]
        · rw [if_pos e1, if_neg e2] at h3; exact absurd h3.symm bj
      · by_cases e2 : g j = N
        · rw [if_neg e1, if_pos e2] at h3; exact absurd h3 bi
        · rw [if_neg e1, if_neg e2] at h3; exact h3
/-- more than 4000, at most 4000 -/
def Many (F : List (Nat × Nat)) (E : List St5) (f0 n : Nat) : Prop := ∃ tr : Nat → Nat × Nat × Nat, (∀ j, j ≤ 4000 → ∃ c, Rch F E f0 (tr j).1 (tr j).2.1 (tr j).2.2 c ∧ (tr j).1 ≤ n) ∧ ∀ i j, i < j → j ≤ 4000 → tr i ≠ tr j
def Few (F : List (Nat × Nat)) (E : List St5) (f0 n : Nat) : Prop := ∃ ks : Nat → Nat × Nat × Nat, ∀ t f a c, Rch F E f0 t f a c → t ≤ n → ∃ i, i < 4000 ∧ ks i = (t, f, a)
theorem many_few {n : Nat} (h : Many F E f0 n) (g : Few F E f0 n) : False := by
  obtain ⟨tr, h1, h2⟩ := h
  obtain ⟨ks, g1⟩ := g
  have hh : ∀ j, ∃ i, j ≤ 4000 → i < 4000 ∧ ks i = tr j := fun j => by
    by_cases e : j ≤ 4000
    · obtain ⟨c, c1, c2⟩ := h1 j e
      obtain ⟨i, i1, i2⟩ := g1 _ _ _ c c1 c2
      exact ⟨i, fun _ => ⟨i1, i2⟩⟩
    · exact ⟨0, fun q => absurd q e⟩
  obtain ⟨i, j, a1, a2, a3⟩ := pig 4000 (fun j => Classical.choose (hh j)) (fun j hj => (Classical.choose_spec (hh j) hj).1)
  have a3 : Classical.choose (hh i) = Classical.choose (hh j) := a3
  have b1 := (Classical.choose_spec (hh i) (by omega)).2
  have b2 := (Classical.choose_spec (hh j) a2).2
  refine h2 i j a1 a2 ?_
  rw [← b1, ← b2, a3]
/-- the least carried of a ripe age -/
def Best (F : List (Nat × Nat)) (E : List St5) (f0 n g lo hi : Nat) (r : Int32) : Prop := (r = -2 ∧ ∀ a c, Rch F E f0 n g a c → ¬ (lo ≤ a ∧ a ≤ hi)) ∨ ∃ a c, r = o3 c ∧ Rch F E f0 n g a c ∧ lo ≤ a ∧ a ≤ hi ∧ ∀ a' c', Rch F E f0 n g a' c' → lo ≤ a' → a' ≤ hi → c ≤ c'
theorem best_u {n g lo hi : Nat} {r r' : Int32} (h : Best F E f0 n g lo hi r) (h' : Best F E f0 n g lo hi r') : r = r' := by
  rcases h with ⟨e, h⟩ | ⟨a, c, e, h1, h2, h3, h4⟩
  · rcases h' with ⟨e', h'⟩ | ⟨a', c', e', g1, g2, g3, g4⟩
    · rw [e, e']
    · exact absurd ⟨g2, g3⟩ (h a' c' g1)
  · rcases h' with ⟨e', h'⟩ | ⟨a', c', e', g1, g2, g3, g4⟩
    · exact absurd ⟨h2, h3⟩ (h' a c h1)
    · have := h4 a' c' g1 g2 g3
      have := g4 a c h1 h2 h3
      rw [e, e', show c = c' by omega]
end RC
/-! an age and the hours carried in one number -/
theorem q5_sh {x a : Nat} (hx : x < 2 ^ 56) (ha : a < 32) : (o6 x <<< (Int32.toInt64 (5 : Int32) &&& 63)) ||| o6 a = o6 (x * 32 + a) := by
  have h8 : Int32.toInt64 (5 : Int32) &&& 63 = 5 := by decide
  rw [h8]
  apply Int64.toBitVec_inj.mp
  rw [Int64.toBitVec_or, Int64.toBitVec_shiftLeft]
  apply BitVec.eq_of_toNat_eq
  have e1 : (o6 x).toBitVec = BitVec.ofNat 64 x := rfl
  have e2 : (o6 a).toBitVec = BitVec.ofNat 64 a := rfl
  have e3 : (o6 (x * 32 + a)).toBitVec = BitVec.ofNat 64 (x * 32 + a) := rfl
  have e4 : (Int64.toBitVec 5).smod 64 = BitVec.ofNat 64 5 := by decide
  rw [e1, e2, e3, e4, BitVec.toNat_or, BitVec.shiftLeft_eq', BitVec.toNat_shiftLeft, BitVec.toNat_ofNat, BitVec.toNat_ofNat, BitVec.toNat_ofNat, BitVec.toNat_ofNat]
  rw [Nat.mod_eq_of_lt (show x < 2 ^ 64 by omega), Nat.mod_eq_of_lt (show a < 2 ^ 64 by omega), Nat.mod_eq_of_lt (show (5 : Nat) < 2 ^ 64 by decide), Nat.mod_eq_of_lt (show x * 32 + a < 2 ^ 64 by omega)]
  rw [Nat.mod_eq_of_lt (show x <<< 5 < 2 ^ 64 by rw [Nat.shiftLeft_eq]; omega), ← Nat.shiftLeft_add_eq_or_of_lt (by omega), Nat.shiftLeft_eq]
theorem o6_and {x p : Nat} (hx : x < 9223372036854775808) (hp : p < 31) : o6 x &&& o6 (2 ^ p - 1) = o6 (x % 2 ^ p) := by
  have hpp : 2 ^ p ≤ 2 ^ 30 := Nat.pow_le_pow_right (by omega) (by omega)
  have h0 : 0 < 2 ^ p := Nat.two_pow_pos p
  have hm : x % 2 ^ p < 2 ^ p := Nat.mod_lt _ h0
  apply Int64.toBitVec_inj.mp
  rw [Int64.toBitVec_and]
  apply BitVec.eq_of_toNat_eq
  have e1 : (o6 x).toBitVec = BitVec.ofNat 64 x := rfl
  have e2 : (o6 (2 ^ p - 1)).toBitVec = BitVec.ofNat 64 (2 ^ p - 1) := rfl
  have e3 : (o6 (x % 2 ^ p)).toBitVec = BitVec.ofNat 64 (x % 2 ^ p) := rfl
  rw [e1, e2, e3, BitVec.toNat_and, BitVec.toNat_ofNat, BitVec.toNat_ofNat, BitVec.toNat_ofNat, Nat.mod_eq_of_lt (show x < 2 ^ 64 by omega), Nat.mod_eq_of_lt (show 2 ^ p - 1 < 2 ^ 64 by omega), Nat.mod_eq_of_lt (show x % 2 ^ p < 2 ^ 64 by omega), Nat.and_two_pow_sub_one_eq_mod]
theorem o6_shr {x : Nat} {b : Int64} {p : Nat} (hx : x < 9223372036854775808) (hb : b.toBitVec.smod 64 = BitVec.ofNat 64 p) (hp : p < 64) : o6 x >>> b = o6 (x / 2 ^ p) := by
  have hd : x / 2 ^ p ≤ x := Nat.div_le_self _ _
  rw [nl_eq, o6_int (by omega)]
  have e : (o6 x >>> b).toInt = (((o6 x).toBitVec).sshiftRight p).toInt := by
    show ((o6 x >>> b).toBitVec).toInt = _
    rw [Int64.toBitVec_shiftRight, hb, BitVec.sshiftRight_eq', BitVec.toNat_ofNat, Nat.mod_eq_of_lt (show p < 2 ^ 64 by omega)]
  rw [e, BitVec.toInt_sshiftRight]
  have e1 : ((o6 x).toBitVec).toInt = (x : Int) := o6_int hx
  rw [e1, Int.shiftRight_eq_div_pow]
  rfl
theorem q5_age {x : Nat} {S : fS} (hx : x < 9223372036854775808) : f_X3_ageOf (o6 x) S = some (o6 (x / 32)) := by
  unfold f_X3_ageOf
  have := o6_shr (x := x) (b := Int32.toInt64 (5 : Int32) &&& 63) (p := 5) hx (by decide) (by omega)
  rw [this]
theorem q5_car {x : Nat} {S : fS} (hx : x < 9223372036854775808) : f_X3_carriedOf (o6 x) S = some (o3 (x % 32)) := by
  unfold f_X3_carriedOf
  have h : o6 x &&& (31 : Int64) = o6 (x % 32) := o6_and (x := x) (p := 5) hx (by omega)
  rw [h, o6_to3 (by omega)]
theorem q5_st {x a : Nat} {S : fS} (hx : x < 2 ^ 56) (ha : a < 32) : f_X3_stateOf (o6 x) (o3 a) S = some (o6 (x * 32 + a)) := by
  unfold f_X3_stateOf
  rw [o6_of3 (by omega), q5_sh hx ha]
end
