def RRl : List (Nat × List (Option Nat)) := [(0, [some 1, some 3, some 22, some 23, some 24, some 31, some 37, some 38, some 43, some 45, none]), (1, [some 2, none, none, none, none]), (3, [some 4, some 11, some 17, none, none]), (4, [some 5, some 6, some 7, some 8, some 9, some 10, none, none]), (11, [some 12, some 13, some 14, some 15, some 16, none, none]), (17, [some 18, some 19, some 20, some 21, none]), (22, [some 51, some 70, some 89, some 108]), (23, [some 127, some 130, some 133, some 136, some 139, some 142]), (24, [some 25, some 26, some 27, some 28, some 29, some 30, none, none]), (31, [some 32, some 33, some 34, some 35, some 36, none, none]), (37, [some 1, some 24, some 31]), (38, [some 1, some 39, some 40, none, none, none, none]), (40, [some 41, some 42, none, none]), (43, [some 44]), (45, [some 46, some 47, some 48, some 49, some 50, none, none]), (51, [some 52, some 59, some 65, none, none]), (52, [some 53, some 54, some 55, some 56, some 57, some 58, none, none]), (59, [some 60, some 61, some 62, some 63, some 64, none, none]), (65, [some 66, some 67, some 68, some 69, none]), (70, [some 71, some 78, some 84, none, none]), (71, [some 72, some 73, some 74, some 75, some 76, some 77, none, none]), (78, [some 79, some 80, some 81, some 82, some 83, none, none]), (84, [some 85, some 86, some 87, some 88, none]), (89, [some 90, some 97, some 103, none, none]), (90, [some 91, some 92, some 93, some 94, some 95, some 96, none, none]), (97, [some 98, some 99, some 100, some 101, some 102, none, none]), (103, [some 104, some 105, some 106, some 107, none]), (108, [some 109, some 116, some 122, none, none]), (109, [some 110, some 111, some 112, some 113, some 114, some 115, none, none]), (116, [some 117, some 118, some 119, some 120, some 121, none, none]), (122, [some 123, some 124, some 125, some 126, none]), (127, [some 128, some 129, none, none]), (130, [some 131, some 132, none, none]), (133, [some 134, some 135, none, none]), (136, [some 137, some 138, none, none]), (139, [some 140, some 141, none, none]), (142, [some 143, some 144, none, none]), (145, [some 146, none, none, some 147, some 148, some 149, some 150, none, none, none, some 151, some 152, some 153, none, none, none, none, none, none, none, some 154, none, some 155, none, some 156, some 157, some 158, some 159, some 160, some 161, some 162, some 163, some 164, some 165, some 166, some 167, none, none, some 168, some 169, some 170])]
/-! the machine as rules, one an instruction -/
abbrev fS : Type := (Nat → Nat → Int32) × (Nat → Nat → Int64)
def KK : List (Nat × Nat) := [(10, 11), (7, 5), (102, 400), (6, 5), (8, 8), (101, 10), (100, 12), (100, 12), (100, 12), (101, 12), (100, 100), (0, 7), (100, 8), (100, 8), (100, 8), (100, 8), (101, 8), (2, 5), (100, 12), (100, 12), (100, 12), (100, 12), (116, 4), (114, 6), (8, 8), (101, 10), (100, 12), (100, 12), (100, 12), (101, 12), (100, 100), (0, 7), (100, 8), (100, 8), (100, 8), (100, 8), (101, 8), (9, 3), (5, 7), (100, 64), (4, 4), (100, 400), (101, 60), (1, 1), (101, 1210), (3, 7), (101, 4000), (100, 171), (100, 13), (100, 13), (101, 13), (6, 5), (8, 8), (101, 10), (100, 12), (100, 12), (100, 12), (101, 12), (100, 100), (0, 7), (100, 8), (100, 8), (100, 8), (100, 8), (101, 8), (2, 5), (100, 12), (100, 12), (100, 12), (100, 12), (6, 5), (8, 8), (101, 10), (100, 12), (100, 12), (100, 12), (101, 12), (100, 100), (0, 7), (100, 8), (100, 8), (100, 8), (100, 8), (101, 8), (2, 5), (100, 12), (100, 12), (100, 12), (100, 12), (6, 5), (8, 8), (101, 10), (100, 12), (100, 12), (100, 12), (101, 12), (100, 100), (0, 7), (100, 8), (100, 8), (100, 8), (100, 8), (101, 8), (2, 5), (100, 12), (100, 12), (100, 12), (100, 12), (6, 5), (8, 8), (101, 10), (100, 12), (100, 12), (100, 12), (101, 12), (100, 100), (0, 7), (100, 8), (100, 8), (100, 8), (100, 8), (101, 8), (2, 5), (100, 12), (100, 12), (100, 12), (100, 12), (4, 4), (100, 400), (101, 60), (4, 4), (100, 400), (101, 60), (4, 4), (100, 400), (101, 60), (4, 4), (100, 400), (101, 60), (4, 4), (100, 400), (101, 60), (4, 4), (100, 400), (101, 60), (11, 41), (102, 400), (100, 2400), (100, 7), (100, 216), (100, 6), (100, 20), (100, 60), (100, 8), (100, 400), (101, 64), (101, 8), (100, 158), (101, 8), (100, 158), (101, 8), (101, 100), (101, 1210), (103, 10), (100, 4001), (100, 4001), (101, 4001), (100, 4001), (100, 632), (101, 32), (103, 4)]
def RRt : Nat → Nat → Option Nat := fun a k => (mm_ix RRl a).bind (fun l => (l[k]?).bind id)
def tg (a : Nat) : Nat := (KK.getD a (99, 0)).1
def ln (a : Nat) : Nat := (KK.getD a (99, 0)).2
def RRok (RR : Nat → Nat → Option Nat) : Prop := ∀ a k, a < 171 → k < 41 → RR a k = RRt a k
def MM (RR : Nat → Nat → Option Nat) (S : fS) : mm_M := (KK, S.1, S.2, RR)
theorem tg_lt {a : Nat} (h : tg a ≠ 99) : a < 171 := mm_tlt (M := (KK, fun _ _ => 0, fun _ _ => 0, fun _ _ => none)) h
theorem tg_ext {a : Nat} (h : tg a ≠ 99) : a < mm_ext := Nat.lt_trans (tg_lt h) (by decide)
def pI (S : fS) (a k : Nat) (x : Int32) : fS := (mm_up S.1 a k x, S.2)
def pL (S : fS) (a k : Nat) (x : Int64) : fS := (S.1, mm_up S.2 a k x)
def gI (S : fS) (a n : Nat) (i : Int32) : Option Int32 := if i < 0 ∨ n ≤ i.toNatClampNeg then none else some (S.1 a i.toNatClampNeg)
def gL (S : fS) (a n : Nat) (i : Int32) : Option Int64 := if i < 0 ∨ n ≤ i.toNatClampNeg then none else some (S.2 a i.toNatClampNeg)
def sI (S : fS) (a n : Nat) (i x : Int32) : Option fS := if i < 0 ∨ n ≤ i.toNatClampNeg then none else some (pI S a i.toNatClampNeg x)
def sL (S : fS) (a n : Nat) (i : Int32) (x : Int64) : Option fS := if i < 0 ∨ n ≤ i.toNatClampNeg then none else some (pL S a i.toNatClampNeg x)
def cI (S : fS) (a b n : Nat) : fS := (mm_row S.1 b (va_cpy (S.1 a) (S.1 b) 0 0 n), S.2)
def cL (S : fS) (a b n : Nat) : fS := (S.1, mm_row S.2 b (va_cpy (S.2 a) (S.2 b) 0 0 n))
def gA22 (i : Int32) : Option Nat := if i < 0 ∨ 4 ≤ i.toNatClampNeg then none else some (51 + 19 * i.toNatClampNeg)
def gA23 (i : Int32) : Option Nat := if i < 0 ∨ 6 ≤ i.toNatClampNeg then none else some (127 + 3 * i.toNatClampNeg)
def gX (X : mm_C) (i : Int32) : Option Int32 := if i < 0 ∨ X.1 ≤ i.toNatClampNeg then none else some (X.2 i.toNatClampNeg)
def gB (i : Int32) : Option Int32 := if i < 0 ∨ 17 ≤ i.toNatClampNeg then none else some (mm_bd.getD i.toNatClampNeg 0)
def dI (x y : Int32) : Option Int32 := if y = 0 then none else some (x / y)
def rI (x y : Int32) : Option Int32 := if y = 0 then none else some (x - x / y * y)
def dL (x y : Int64) : Option Int64 := if y = 0 then none else some (x / y)
def rL (x y : Int64) : Option Int64 := if y = 0 then none else some (x - x / y * y)
def bZ (x : Int32) : Option Int32 := if x = 0 ∨ x = 1 then some x else none
def FU : Nat := 100000
theorem gA22_tg {i : Int32} {b : Nat} (h : gA22 i = some b) : tg b = 6 := by
  unfold gA22 at h
  by_cases hc : i < 0 ∨ 4 ≤ i.toNatClampNeg
  · rw [if_pos hc] at h; exact mm_no h
  · rw [if_neg hc] at h
    cases h
    exact (show ∀ j, j < 4 → tg (51 + 19 * j) = 6 by decide) _ (Nat.not_le.mp fun q => hc (Or.inr q))
theorem gA23_tg {i : Int32} {b : Nat} (h : gA23 i = some b) : tg b = 4 := by
  unfold gA23 at h
  by_cases hc : i < 0 ∨ 6 ≤ i.toNatClampNeg
  · rw [if_pos hc] at h; exact mm_no h
  · rw [if_neg hc] at h
    cases h
    exact (show ∀ j, j < 6 → tg (127 + 3 * j) = 4 by decide) _ (Nat.not_le.mp fun q => hc (Or.inr q))
theorem ifn_some {α : Type} {c : Prop} [Decidable c] {x : Option α} {y : α} (h : (if c then none else x) = some y) : ¬ c ∧ x = some y := by
  by_cases hc : c
  · rw [if_pos hc] at h; exact mm_no h
  · rw [if_neg hc] at h; exact ⟨hc, h⟩
theorem ly0_0 {c : Nat} (h : tg c = 0) : RRt c 0 = some (c + 1) ∧ tg (c + 1) = 100 ∧ ln (c + 1) = 8 := (show ∀ c, c < 171 → tg c = 0 → (RRt c 0 = some (c + 1) ∧ tg (c + 1) = 100 ∧ ln (c + 1) = 8) by decide +kernel) c (tg_lt (by rw [h]; decide)) h
theorem ly0_1 {c : Nat} (h : tg c = 0) : RRt c 1 = some (c + 2) ∧ tg (c + 2) = 100 ∧ ln (c + 2) = 8 := (show ∀ c, c < 171 → tg c = 0 → (RRt c 1 = some (c + 2) ∧ tg (c + 2) = 100 ∧ ln (c + 2) = 8) by decide +kernel) c (tg_lt (by rw [h]; decide)) h
theorem ly0_2 {c : Nat} (h : tg c = 0) : RRt c 2 = some (c + 3) ∧ tg (c + 3) = 100 ∧ ln (c + 3) = 8 := (show ∀ c, c < 171 → tg c = 0 → (RRt c 2 = some (c + 3) ∧ tg (c + 3) = 100 ∧ ln (c + 3) = 8) by decide +kernel) c (tg_lt (by rw [h]; decide)) h
theorem ly0_3 {c : Nat} (h : tg c = 0) : RRt c 3 = some (c + 4) ∧ tg (c + 4) = 100 ∧ ln (c + 4) = 8 := (show ∀ c, c < 171 → tg c = 0 → (RRt c 3 = some (c + 4) ∧ tg (c + 4) = 100 ∧ ln (c + 4) = 8) by decide +kernel) c (tg_lt (by rw [h]; decide)) h
theorem ly0_4 {c : Nat} (h : tg c = 0) : RRt c 4 = some (c + 5) ∧ tg (c + 5) = 101 ∧ ln (c + 5) = 8 := (show ∀ c, c < 171 → tg c = 0 → (RRt c 4 = some (c + 5) ∧ tg (c + 5) = 101 ∧ ln (c + 5) = 8) by decide +kernel) c (tg_lt (by rw [h]; decide)) h
theorem ly2_0 {c : Nat} (h : tg c = 2) : RRt c 0 = some (c + 1) ∧ tg (c + 1) = 100 ∧ ln (c + 1) = 12 := (show ∀ c, c < 171 → tg c = 2 → (RRt c 0 = some (c + 1) ∧ tg (c + 1) = 100 ∧ ln (c + 1) = 12) by decide +kernel) c (tg_lt (by rw [h]; decide)) h
theorem ly2_1 {c : Nat} (h : tg c = 2) : RRt c 1 = some (c + 2) ∧ tg (c + 2) = 100 ∧ ln (c + 2) = 12 := (show ∀ c, c < 171 → tg c = 2 → (RRt c 1 = some (c + 2) ∧ tg (c + 2) = 100 ∧ ln (c + 2) = 12) by decide +kernel) c (tg_lt (by rw [h]; decide)) h
theorem ly2_2 {c : Nat} (h : tg c = 2) : RRt c 2 = some (c + 3) ∧ tg (c + 3) = 100 ∧ ln (c + 3) = 12 := (show ∀ c, c < 171 → tg c = 2 → (RRt c 2 = some (c + 3) ∧ tg (c + 3) = 100 ∧ ln (c + 3) = 12) by decide +kernel) c (tg_lt (by rw [h]; decide)) h
theorem ly2_3 {c : Nat} (h : tg c = 2) : RRt c 3 = some (c + 4) ∧ tg (c + 4) = 100 ∧ ln (c + 4) = 12 := (show ∀ c, c < 171 → tg c = 2 → (RRt c 3 = some (c + 4) ∧ tg (c + 4) = 100 ∧ ln (c + 4) = 12) by decide +kernel) c (tg_lt (by rw [h]; decide)) h
theorem ly4_0 {c : Nat} (h : tg c = 4) : RRt c 0 = some (c + 1) ∧ tg (c + 1) = 100 ∧ ln (c + 1) = 400 := (show ∀ c, c < 171 → tg c = 4 → (RRt c 0 = some (c + 1) ∧ tg (c + 1) = 100 ∧ ln (c + 1) = 400) by decide +kernel) c (tg_lt (by rw [h]; decide)) h
theorem ly4_1 {c : Nat} (h : tg c = 4) : RRt c 1 = some (c + 2) ∧ tg (c + 2) = 101 ∧ ln (c + 2) = 60 := (show ∀ c, c < 171 → tg c = 4 → (RRt c 1 = some (c + 2) ∧ tg (c + 2) = 101 ∧ ln (c + 2) = 60) by decide +kernel) c (tg_lt (by rw [h]; decide)) h
theorem ly6_0 {c : Nat} (h : tg c = 6) : RRt c 0 = some (c + 1) ∧ tg (c + 1) = 8 ∧ ln (c + 1) = 8 := (show ∀ c, c < 171 → tg c = 6 → (RRt c 0 = some (c + 1) ∧ tg (c + 1) = 8 ∧ ln (c + 1) = 8) by decide +kernel) c (tg_lt (by rw [h]; decide)) h
theorem ly6_1 {c : Nat} (h : tg c = 6) : RRt c 1 = some (c + 8) ∧ tg (c + 8) = 0 ∧ ln (c + 8) = 7 := (show ∀ c, c < 171 → tg c = 6 → (RRt c 1 = some (c + 8) ∧ tg (c + 8) = 0 ∧ ln (c + 8) = 7) by decide +kernel) c (tg_lt (by rw [h]; decide)) h
theorem ly6_2 {c : Nat} (h : tg c = 6) : RRt c 2 = some (c + 14) ∧ tg (c + 14) = 2 ∧ ln (c + 14) = 5 := (show ∀ c, c < 171 → tg c = 6 → (RRt c 2 = some (c + 14) ∧ tg (c + 14) = 2 ∧ ln (c + 14) = 5) by decide +kernel) c (tg_lt (by rw [h]; decide)) h
theorem ly8_0 {c : Nat} (h : tg c = 8) : RRt c 0 = some (c + 1) ∧ tg (c + 1) = 101 ∧ ln (c + 1) = 10 := (show ∀ c, c < 171 → tg c = 8 → (RRt c 0 = some (c + 1) ∧ tg (c + 1) = 101 ∧ ln (c + 1) = 10) by decide +kernel) c (tg_lt (by rw [h]; decide)) h
theorem ly8_1 {c : Nat} (h : tg c = 8) : RRt c 1 = some (c + 2) ∧ tg (c + 2) = 100 ∧ ln (c + 2) = 12 := (show ∀ c, c < 171 → tg c = 8 → (RRt c 1 = some (c + 2) ∧ tg (c + 2) = 100 ∧ ln (c + 2) = 12) by decide +kernel) c (tg_lt (by rw [h]; decide)) h
theorem ly8_2 {c : Nat} (h : tg c = 8) : RRt c 2 = some (c + 3) ∧ tg (c + 3) = 100 ∧ ln (c + 3) = 12 := (show ∀ c, c < 171 → tg c = 8 → (RRt c 2 = some (c + 3) ∧ tg (c + 3) = 100 ∧ ln (c + 3) = 12) by decide +kernel) c (tg_lt (by rw [h]; decide)) h
theorem ly8_3 {c : Nat} (h : tg c = 8) : RRt c 3 = some (c + 4) ∧ tg (c + 4) = 100 ∧ ln (c + 4) = 12 := (show ∀ c, c < 171 → tg c = 8 → (RRt c 3 = some (c + 4) ∧ tg (c + 4) = 100 ∧ ln (c + 4) = 12) by decide +kernel) c (tg_lt (by rw [h]; decide)) h
theorem ly8_4 {c : Nat} (h : tg c = 8) : RRt c 4 = some (c + 5) ∧ tg (c + 5) = 101 ∧ ln (c + 5) = 12 := (show ∀ c, c < 171 → tg c = 8 → (RRt c 4 = some (c + 5) ∧ tg (c + 5) = 101 ∧ ln (c + 5) = 12) by decide +kernel) c (tg_lt (by rw [h]; decide)) h
theorem ly8_5 {c : Nat} (h : tg c = 8) : RRt c 5 = some (c + 6) ∧ tg (c + 6) = 100 ∧ ln (c + 6) = 100 := (show ∀ c, c < 171 → tg c = 8 → (RRt c 5 = some (c + 6) ∧ tg (c + 6) = 100 ∧ ln (c + 6) = 100) by decide +kernel) c (tg_lt (by rw [h]; decide)) h
def mr (X : mm_C) (d : Nat) (Y : mm_Y) (pc : Nat) (lv : mm_L) (st : List Value) (M : mm_M) (r : Option Value × mm_M) : Prop := ∃ n, mm_run X n d Y pc lv st M = some r
/-- fewer locals, by a list of them -/
def mm_sub : mm_L → mm_L → Prop
  | [], _ => True
  | q :: l, lv' => mm_ix lv' q.1 = some q.2 ∧ mm_sub l lv'
theorem mm_sub_le : ∀ {lv lv' : mm_L}, mm_sub lv lv' → mm_le lv lv'
  | [], _, _, q, hq => absurd hq List.not_mem_nil
  | p :: l, lv', h, q, hq => by
    rcases List.mem_cons.mp hq with e | e
    · rw [e]
      exact mm_ix_mem h.1
    · exact mm_sub_le h.2 q e
theorem mm_nd_uq : ∀ {lv : mm_L}, va_nd (lv.map (fun q => q.1)) = true → mm_uq lv := by
  intro lv h k v w hv hw
  obtain ⟨i, hi⟩ := List.getElem?_of_mem hv
  obtain ⟨j, hj⟩ := List.getElem?_of_mem hw
  have e := va_nd_inj _ h i j k (by rw [List.getElem?_map, hi]; rfl) (by rw [List.getElem?_map, hj]; rfl)
  subst e
  rw [hi] at hj
  cases hj
  rfl
section MR
variable {X : mm_C} {d : Nat} {Y : mm_Y} {pc pc' : Nat} {lv lv' : mm_L} {st : List Value} {M : mm_M} {r : Option Value × mm_M} {RR : Nat → Nat → Option Nat} {S S1 : fS}
theorem mr_sub (lv0 : mm_L) (hs : mm_sub lv0 lv) (hn : va_nd (lv.map (fun q => q.1)) = true) (k : mr X d Y pc lv0 st M r) : mr X d Y pc lv st M r := by
  obtain ⟨n, h⟩ := k
  exact ⟨n, mm_run_le (Or.inl rfl) n d Y pc lv0 st M r h n d lv (Nat.le_refl _) (Nat.le_refl _) (mm_sub_le hs) (mm_nd_uq hn)⟩
theorem mr_deep {d' : Nat} {as : List Value} (hd : d ≤ d') (k : mr X d Y pc (lv_args 0 as) st M r) : mr X d' Y pc (lv_args 0 as) st M r := by
  obtain ⟨n, h⟩ := k
  exact ⟨n, mm_run_le (Or.inl rfl) n d Y pc _ st M r h n d' _ (Nat.le_refl _) hd (fun _ h => h) (mm_args_uq _ _)⟩
theorem mr_next {i : Instr} {len : Nat} {o : mm_O} (hd : decode Y.2.2.1 pc = .ok (i, len)) (hn : mm_next X Y i len pc lv st M = some o) (k : mr X d Y o.1 o.2.1 o.2.2.1 o.2.2.2 r) : mr X d Y pc lv st M r := by
  obtain ⟨n, h⟩ := k
  refine ⟨n + 1, ?_⟩
  unfold mm_run
  rw [hd]
  dsimp only
  rw [hn]
  exact h
theorem mr_callg {d1 : Nat} {i : Instr} {Y' : mm_Y} {as rest : List Value} {r1 : Option Value} {M1 : mm_M} (hu : mm_uq lv) (hd : decode Y.2.2.1 pc = .ok (i, 3)) (hn : mm_next X Y i 3 pc lv st M = none) (hc : mm_call Y i st M = some (Y', as, rest)) (h1 : d1 ≤ d) (k1 : mr X d1 Y' 0 (lv_args 0 as) [] M (r1, M1)) (k : mr X (d + 1) Y (pc + 3) lv (r1.toList ++ rest) M1 r) : mr X (d + 1) Y pc lv st M r := by
  obtain ⟨n1, g1⟩ := k1
  obtain ⟨n2, g2⟩ := k
  refine ⟨max n1 n2 + 1, ?_⟩
  unfold mm_run
  rw [hd]
  dsimp only
  rw [hn, hc]
  dsimp only
  rw [if_pos rfl, mm_run_le (Or.inl rfl) n1 d1 Y' 0 _ [] M _ g1 (max n1 n2) d _ (Nat.le_max_left _ _) h1 (fun _ h => h) (mm_args_uq _ _)]
  exact mm_run_le (Or.inl rfl) n2 (d + 1) Y (pc + 3) lv _ M1 r g2 (max n1 n2) (d + 1) lv (Nat.le_max_right _ _) (Nat.le_refl _) (fun _ h => h) hu
theorem mr_retg {i : Instr} {rv : Option Value} (hd : decode Y.2.2.1 pc = .ok (i, 1)) (hn : mm_next X Y i 1 pc lv st M = none) (hc : mm_call Y i st M = none) (hr : mm_ret Y.2.2.2.2 i st = some rv) : mr X d Y pc lv st M (rv, M) := by
  refine ⟨1, ?_⟩
  unfold mm_run
  rw [hd]
  dsimp only
  rw [hn, hc]
  dsimp only
  rw [hr]
  rfl
theorem mr_ireturn {v : Int32} (hd : decode Y.2.2.1 pc = .ok (.ireturn, 1)) (hr : Y.2.2.2.2 = some .int) : mr X d Y pc lv [.int v] M (some (.int v), M) := mr_retg hd rfl rfl (by
  show mm_ri Y.2.2.2.2 [.int v] = _
  rw [hr]
  show (if FieldType.int = .int ∨ narrow .int (Value.int v) = Value.int v then some (some (Value.int v)) else none) = _
  rw [if_pos (Or.inl rfl)])
theorem mr_zreturn {v : Int32} (hd : decode Y.2.2.1 pc = .ok (.ireturn, 1)) (hr : Y.2.2.2.2 = some .boolean) (hv : v = 0 ∨ v = 1) : mr X d Y pc lv [.int v] M (some (.int v), M) := mr_retg hd rfl rfl (by
  show mm_ri Y.2.2.2.2 [.int v] = _
  rw [hr]
  show (if FieldType.boolean = .int ∨ narrow .boolean (.int v) = .int v then _ else _) = _
  rw [if_pos (Or.inr (by rcases hv with rfl | rfl <;> rfl))])
theorem mr_lreturn {v : Int64} (hd : decode Y.2.2.1 pc = .ok (.lreturn, 1)) (hr : Y.2.2.2.2 = some .long) : mr X d Y pc lv [.long v] M (some (.long v), M) := mr_retg hd rfl rfl (by
  show (if Y.2.2.2.2 = some .long then some (some (Value.long v)) else none) = _
  rw [if_pos hr])
theorem mr_areturn {v : Option Nat} {n : String} (hd : decode Y.2.2.1 pc = .ok (.areturn, 1)) (hr : Y.2.2.2.2 = some (.object n)) : mr X d Y pc lv [mm_rv v] M (some (mm_rv v), M) := mr_retg hd rfl rfl (by
  show mm_ra Y.2.2.2.2 [mm_rv v] = _
  rw [hr]
  cases v <;> rfl)
theorem mr_return (hd : decode Y.2.2.1 pc = .ok (.return_, 1)) (hr : Y.2.2.2.2 = none) : mr X d Y pc lv [] M (none, M) := mr_retg hd rfl rfl (by
  show (if Y.2.2.2.2 = none then some (none : Option Value) else none) = _
  rw [if_pos hr])
theorem mr_iadd {x y : Int32} (hd : decode Y.2.2.1 pc = .ok (.iadd, 1)) (hp : pc + 1 = pc') (k : mr X d Y pc' lv (.int (x + y) :: st) M r) : mr X d Y pc lv (.int y :: .int x :: st) M r := by
  subst hp
  exact mr_next hd (rfl) k
theorem mr_isub {x y : Int32} (hd : decode Y.2.2.1 pc = .ok (.isub, 1)) (hp : pc + 1 = pc') (k : mr X d Y pc' lv (.int (x - y) :: st) M r) : mr X d Y pc lv (.int y :: .int x :: st) M r := by
  subst hp
  exact mr_next hd (rfl) k
theorem mr_imul {x y : Int32} (hd : decode Y.2.2.1 pc = .ok (.imul, 1)) (hp : pc + 1 = pc') (k : mr X d Y pc' lv (.int (x * y) :: st) M r) : mr X d Y pc lv (.int y :: .int x :: st) M r := by
  subst hp
  exact mr_next hd (rfl) k
theorem mr_iand {x y : Int32} (hd : decode Y.2.2.1 pc = .ok (.iand, 1)) (hp : pc + 1 = pc') (k : mr X d Y pc' lv (.int (x &&& y) :: st) M r) : mr X d Y pc lv (.int y :: .int x :: st) M r := by
  subst hp
  exact mr_next hd (rfl) k
theorem mr_ior {x y : Int32} (hd : decode Y.2.2.1 pc = .ok (.ior, 1)) (hp : pc + 1 = pc') (k : mr X d Y pc' lv (.int (x ||| y) :: st) M r) : mr X d Y pc lv (.int y :: .int x :: st) M r := by
  subst hp
  exact mr_next hd (rfl) k
theorem mr_ishl {x y : Int32} (hd : decode Y.2.2.1 pc = .ok (.ishl, 1)) (hp : pc + 1 = pc') (k : mr X d Y pc' lv (.int (x <<< (y &&& 31)) :: st) M r) : mr X d Y pc lv (.int y :: .int x :: st) M r := by
  subst hp
  exact mr_next hd (rfl) k
theorem mr_ishr {x y : Int32} (hd : decode Y.2.2.1 pc = .ok (.ishr, 1)) (hp : pc + 1 = pc') (k : mr X d Y pc' lv (.int (x >>> (y &&& 31)) :: st) M r) : mr X d Y pc lv (.int y :: .int x :: st) M r := by
  subst hp
  exact mr_next hd (rfl) k
theorem mr_ladd {x y : Int64} (hd : decode Y.2.2.1 pc = .ok (.ladd, 1)) (hp : pc + 1 = pc') (k : mr X d Y pc' lv (.long (x + y) :: st) M r) : mr X d Y pc lv (.long y :: .long x :: st) M r := by
  subst hp
  exact mr_next hd (rfl) k
theorem mr_lsub {x y : Int64} (hd : decode Y.2.2.1 pc = .ok (.lsub, 1)) (hp : pc + 1 = pc') (k : mr X d Y pc' lv (.long (x - y) :: st) M r) : mr X d Y pc lv (.long y :: .long x :: st) M r := by
  subst hp
  exact mr_next hd (rfl) k
theorem mr_lmul {x y : Int64} (hd : decode Y.2.2.1 pc = .ok (.lmul, 1)) (hp : pc + 1 = pc') (k : mr X d Y pc' lv (.long (x * y) :: st) M r) : mr X d Y pc lv (.long y :: .long x :: st) M r := by
  subst hp
  exact mr_next hd (rfl) k
theorem mr_land {x y : Int64} (hd : decode Y.2.2.1 pc = .ok (.land, 1)) (hp : pc + 1 = pc') (k : mr X d Y pc' lv (.long (x &&& y) :: st) M r) : mr X d Y pc lv (.long y :: .long x :: st) M r := by
  subst hp
  exact mr_next hd (rfl) k
theorem mr_lor {x y : Int64} (hd : decode Y.2.2.1 pc = .ok (.lor, 1)) (hp : pc + 1 = pc') (k : mr X d Y pc' lv (.long (x ||| y) :: st) M r) : mr X d Y pc lv (.long y :: .long x :: st) M r := by
  subst hp
  exact mr_next hd (rfl) k
theorem mr_idiv {x y v : Int32} (hd : decode Y.2.2.1 pc = .ok (.idiv, 1)) (hp : pc + 1 = pc') (hv : dI x y = some v) (k : mr X d Y pc' lv (.int v :: st) M r) : mr X d Y pc lv (.int y :: .int x :: st) M r := by
  subst hp
  obtain ⟨h1, h2⟩ := ifn_some hv
  cases h2
  refine mr_next (o := (pc + 1, lv, .int (x / y) :: st, M)) hd ?_ k
  have e : mm_ar .idiv (.int y :: .int x :: st) = some (.int (x / y) :: st) := by
    show (if y = 0 then none else some (Value.int (x / y))).map (· :: st) = _
    rw [if_neg h1]
    rfl
  unfold mm_next
  rw [e]
  rfl
theorem mr_irem {x y v : Int32} (hd : decode Y.2.2.1 pc = .ok (.irem, 1)) (hp : pc + 1 = pc') (hv : rI x y = some v) (k : mr X d Y pc' lv (.int v :: st) M r) : mr X d Y pc lv (.int y :: .int x :: st) M r := by
  subst hp
  obtain ⟨h1, h2⟩ := ifn_some hv
  cases h2
  refine mr_next (o := (pc + 1, lv, .int (x - x / y * y) :: st, M)) hd ?_ k
  have e : mm_ar .irem (.int y :: .int x :: st) = some (.int (x - x / y * y) :: st) := by
    show (if y = 0 then none else some (Value.int (x - x / y * y))).map (· :: st) = _
    rw [if_neg h1]
    rfl
  unfold mm_next
  rw [e]
  rfl
theorem mr_ldiv {x y v : Int64} (hd : decode Y.2.2.1 pc = .ok (.ldiv, 1)) (hp : pc + 1 = pc') (hv : dL x y = some v) (k : mr X d Y pc' lv (.long v :: st) M r) : mr X d Y pc lv (.long y :: .long x :: st) M r := by
  subst hp
  obtain ⟨h1, h2⟩ := ifn_some hv
  cases h2
  refine mr_next (o := (pc + 1, lv, .long (x / y) :: st, M)) hd ?_ k
  have e : mm_ar .ldiv (.long y :: .long x :: st) = some (.long (x / y) :: st) := by
    show (if y = 0 then none else some (Value.long (x / y))).map (· :: st) = _
    rw [if_neg h1]
    rfl
  unfold mm_next
  rw [e]
  rfl
theorem mr_lrem {x y v : Int64} (hd : decode Y.2.2.1 pc = .ok (.lrem, 1)) (hp : pc + 1 = pc') (hv : rL x y = some v) (k : mr X d Y pc' lv (.long v :: st) M r) : mr X d Y pc lv (.long y :: .long x :: st) M r := by
  subst hp
  obtain ⟨h1, h2⟩ := ifn_some hv
  cases h2
  refine mr_next (o := (pc + 1, lv, .long (x - x / y * y) :: st, M)) hd ?_ k
  have e : mm_ar .lrem (.long y :: .long x :: st) = some (.long (x - x / y * y) :: st) := by
    show (if y = 0 then none else some (Value.long (x - x / y * y))).map (· :: st) = _
    rw [if_neg h1]
    rfl
  unfold mm_next
  rw [e]
  rfl
theorem mr_lneg {x : Int64} (hd : decode Y.2.2.1 pc = .ok (.lneg, 1)) (hp : pc + 1 = pc') (k : mr X d Y pc' lv (.long (-x) :: st) M r) : mr X d Y pc lv (.long x :: st) M r := by
  subst hp
  exact mr_next hd (rfl) k
theorem mr_i2l {x : Int32} (hd : decode Y.2.2.1 pc = .ok (.i2l, 1)) (hp : pc + 1 = pc') (k : mr X d Y pc' lv (.long x.toInt64 :: st) M r) : mr X d Y pc lv (.int x :: st) M r := by
  subst hp
  exact mr_next hd (rfl) k
theorem mr_l2i {x : Int64} (hd : decode Y.2.2.1 pc = .ok (.l2i, 1)) (hp : pc + 1 = pc') (k : mr X d Y pc' lv (.int x.toInt32 :: st) M r) : mr X d Y pc lv (.long x :: st) M r := by
  subst hp
  exact mr_next hd (rfl) k
theorem mr_i2b {x : Int32} (hd : decode Y.2.2.1 pc = .ok (.i2b, 1)) (hp : pc + 1 = pc') (k : mr X d Y pc' lv (.int x.toInt8.toInt32 :: st) M r) : mr X d Y pc lv (.int x :: st) M r := by
  subst hp
  exact mr_next hd (rfl) k
theorem mr_i2c {x : Int32} (hd : decode Y.2.2.1 pc = .ok (.i2c, 1)) (hp : pc + 1 = pc') (k : mr X d Y pc' lv (.int (x.toUInt32 % 65536).toInt32 :: st) M r) : mr X d Y pc lv (.int x :: st) M r := by
  subst hp
  exact mr_next hd (rfl) k
theorem mr_lshl {x : Int64} {y : Int32} (hd : decode Y.2.2.1 pc = .ok (.lshl, 1)) (hp : pc + 1 = pc') (k : mr X d Y pc' lv (.long (x <<< (y.toInt64 &&& 63)) :: st) M r) : mr X d Y pc lv (.int y :: .long x :: st) M r := by
  subst hp
  exact mr_next hd (rfl) k
theorem mr_lshr {x : Int64} {y : Int32} (hd : decode Y.2.2.1 pc = .ok (.lshr, 1)) (hp : pc + 1 = pc') (k : mr X d Y pc' lv (.long (x >>> (y.toInt64 &&& 63)) :: st) M r) : mr X d Y pc lv (.int y :: .long x :: st) M r := by
  subst hp
  exact mr_next hd (rfl) k
theorem mr_null (hd : decode Y.2.2.1 pc = .ok (.aconst_null, 1)) (hp : pc + 1 = pc') (k : mr X d Y pc' lv (.null :: st) M r) : mr X d Y pc lv st M r := by
  subst hp
  exact mr_next hd (rfl) k
theorem mr_dup_int {x : Int32} (hd : decode Y.2.2.1 pc = .ok (.dup, 1)) (hp : pc + 1 = pc') (k : mr X d Y pc' lv (.int x :: .int x :: st) M r) : mr X d Y pc lv (.int x :: st) M r := by
  subst hp
  exact mr_next hd (rfl) k
theorem mr_pop_int {x : Int32} (hd : decode Y.2.2.1 pc = .ok (.pop, 1)) (hp : pc + 1 = pc') (k : mr X d Y pc' lv st M r) : mr X d Y pc lv (.int x :: st) M r := by
  subst hp
  exact mr_next hd (rfl) k
theorem mr_dup_ref {x : Nat} (hd : decode Y.2.2.1 pc = .ok (.dup, 1)) (hp : pc + 1 = pc') (k : mr X d Y pc' lv (.ref x :: .ref x :: st) M r) : mr X d Y pc lv (.ref x :: st) M r := by
  subst hp
  exact mr_next hd (rfl) k
theorem mr_pop_ref {x : Nat} (hd : decode Y.2.2.1 pc = .ok (.pop, 1)) (hp : pc + 1 = pc') (k : mr X d Y pc' lv st M r) : mr X d Y pc lv (.ref x :: st) M r := by
  subst hp
  exact mr_next hd (rfl) k
theorem mr_pop2 {x : Int64} (hd : decode Y.2.2.1 pc = .ok (.pop2, 1)) (hp : pc + 1 = pc') (k : mr X d Y pc' lv st M r) : mr X d Y pc lv (.long x :: st) M r := by
  subst hp
  exact mr_next hd (rfl) k
theorem mr_dup2 {x : Int32} {a : Nat} (hd : decode Y.2.2.1 pc = .ok (.dup2, 1)) (hp : pc + 1 = pc') (k : mr X d Y pc' lv (.int x :: .ref a :: .int x :: .ref a :: st) M r) : mr X d Y pc lv (.int x :: .ref a :: st) M r := by
  subst hp
  exact mr_next hd (rfl) k
theorem mr_iconst {n : Int} {v : Int32} (hd : decode Y.2.2.1 pc = .ok (.iconst n, 1)) (hp : pc + 1 = pc') (hv : Int32.ofInt n = v) (k : mr X d Y pc' lv (.int v :: st) M r) : mr X d Y pc lv st M r := by
  subst hp
  subst hv
  exact mr_next hd rfl k
theorem mr_bipush {n : Int} {v : Int32} (hd : decode Y.2.2.1 pc = .ok (.bipush n, 2)) (hp : pc + 2 = pc') (hv : (Int8.ofInt n).toInt32 = v) (k : mr X d Y pc' lv (.int v :: st) M r) : mr X d Y pc lv st M r := by
  subst hp
  subst hv
  exact mr_next hd rfl k
theorem mr_sipush {n : Int} {v : Int32} (hd : decode Y.2.2.1 pc = .ok (.sipush n, 3)) (hp : pc + 3 = pc') (hv : (Int16.ofInt n).toInt32 = v) (k : mr X d Y pc' lv (.int v :: st) M r) : mr X d Y pc lv st M r := by
  subst hp
  subst hv
  exact mr_next hd rfl k
theorem mr_lconst {n : Fin 2} {v : Int64} (hd : decode Y.2.2.1 pc = .ok (.lconst n, 1)) (hp : pc + 1 = pc') (hv : Int64.ofNat (n : Nat) = v) (k : mr X d Y pc' lv (.long v :: st) M r) : mr X d Y pc lv st M r := by
  subst hp
  subst hv
  exact mr_next hd rfl k
theorem mr_iload_n {j : Fin 4} {x : Int32} (hd : decode Y.2.2.1 pc = .ok (.iload_n j, 1)) (hp : pc + 1 = pc') (hl : mm_ix lv j = some (.int x)) (k : mr X d Y pc' lv (.int x :: st) M r) : mr X d Y pc lv st M r := by
  subst hp
  refine mr_next (o := (pc + 1, lv, .int x :: st, M)) hd ?_ k
  have e : mm_ld (.iload_n j) lv = some (1, .int x) := by
    show (mm_geti lv j).map (1, ·) = _
    unfold mm_geti
    rw [hl]
    rfl
  show (match mm_ld (.iload_n j) lv with | some q => if 1 = q.1 then some (pc + q.1, lv, q.2 :: st, M) else none | none => _) = _
  rw [e]
  rfl
theorem mr_iload {j : Nat} {x : Int32} (hd : decode Y.2.2.1 pc = .ok (.iload j, 2)) (hp : pc + 2 = pc') (hl : mm_ix lv j = some (.int x)) (k : mr X d Y pc' lv (.int x :: st) M r) : mr X d Y pc lv st M r := by
  subst hp
  refine mr_next (o := (pc + 2, lv, .int x :: st, M)) hd ?_ k
  have e : mm_ld (.iload j) lv = some (2, .int x) := by
    show (mm_geti lv j).map (2, ·) = _
    unfold mm_geti
    rw [hl]
    rfl
  show (match mm_ld (.iload j) lv with | some q => if 2 = q.1 then some (pc + q.1, lv, q.2 :: st, M) else none | none => _) = _
  rw [e]
  rfl
theorem mr_lload_n {j : Fin 4} {x : Int64} (hd : decode Y.2.2.1 pc = .ok (.lload_n j, 1)) (hp : pc + 1 = pc') (hl : mm_ix lv j = some (.long x)) (k : mr X d Y pc' lv (.long x :: st) M r) : mr X d Y pc lv st M r := by
  subst hp
  refine mr_next (o := (pc + 1, lv, .long x :: st, M)) hd ?_ k
  have e : mm_ld (.lload_n j) lv = some (1, .long x) := by
    show (mm_getl lv j).map (1, ·) = _
    unfold mm_getl
    rw [hl]
    rfl
  show (match mm_ld (.lload_n j) lv with | some q => if 1 = q.1 then some (pc + q.1, lv, q.2 :: st, M) else none | none => _) = _
  rw [e]
  rfl
theorem mr_lload {j : Nat} {x : Int64} (hd : decode Y.2.2.1 pc = .ok (.lload j, 2)) (hp : pc + 2 = pc') (hl : mm_ix lv j = some (.long x)) (k : mr X d Y pc' lv (.long x :: st) M r) : mr X d Y pc lv st M r := by
  subst hp
  refine mr_next (o := (pc + 2, lv, .long x :: st, M)) hd ?_ k
  have e : mm_ld (.lload j) lv = some (2, .long x) := by
    show (mm_getl lv j).map (2, ·) = _
    unfold mm_getl
    rw [hl]
    rfl
  show (match mm_ld (.lload j) lv with | some q => if 2 = q.1 then some (pc + q.1, lv, q.2 :: st, M) else none | none => _) = _
  rw [e]
  rfl
theorem mr_aload_n {j : Fin 4} {x : Nat} (hd : decode Y.2.2.1 pc = .ok (.aload_n j, 1)) (hp : pc + 1 = pc') (hl : mm_ix lv j = some (.ref x)) (k : mr X d Y pc' lv (.ref x :: st) M r) : mr X d Y pc lv st M r := by
  subst hp
  refine mr_next (o := (pc + 1, lv, .ref x :: st, M)) hd ?_ k
  have e : mm_ld (.aload_n j) lv = some (1, .ref x) := by
    show (mm_geta lv j).map (1, ·) = _
    unfold mm_geta
    rw [hl]
    rfl
  show (match mm_ld (.aload_n j) lv with | some q => if 1 = q.1 then some (pc + q.1, lv, q.2 :: st, M) else none | none => _) = _
  rw [e]
  rfl
theorem mr_aload {j : Nat} {x : Nat} (hd : decode Y.2.2.1 pc = .ok (.aload j, 2)) (hp : pc + 2 = pc') (hl : mm_ix lv j = some (.ref x)) (k : mr X d Y pc' lv (.ref x :: st) M r) : mr X d Y pc lv st M r := by
  subst hp
  refine mr_next (o := (pc + 2, lv, .ref x :: st, M)) hd ?_ k
  have e : mm_ld (.aload j) lv = some (2, .ref x) := by
    show (mm_geta lv j).map (2, ·) = _
    unfold mm_geta
    rw [hl]
    rfl
  show (match mm_ld (.aload j) lv with | some q => if 2 = q.1 then some (pc + q.1, lv, q.2 :: st, M) else none | none => _) = _
  rw [e]
  rfl
theorem mr_oload_n {j : Fin 4} {x : Option Nat} (hd : decode Y.2.2.1 pc = .ok (.aload_n j, 1)) (hp : pc + 1 = pc') (hl : mm_ix lv j = some (mm_rv x)) (k : mr X d Y pc' lv (mm_rv x :: st) M r) : mr X d Y pc lv st M r := by
  subst hp
  refine mr_next (o := (pc + 1, lv, mm_rv x :: st, M)) hd ?_ k
  have e : mm_ld (.aload_n j) lv = some (1, mm_rv x) := by
    show (mm_geta lv j).map (1, ·) = _
    unfold mm_geta
    rw [hl]
    cases x <;> rfl
  show (match mm_ld (.aload_n j) lv with | some q => if 1 = q.1 then some (pc + q.1, lv, q.2 :: st, M) else none | none => _) = _
  rw [e]
  rfl
theorem mr_oload {j : Nat} {x : Option Nat} (hd : decode Y.2.2.1 pc = .ok (.aload j, 2)) (hp : pc + 2 = pc') (hl : mm_ix lv j = some (mm_rv x)) (k : mr X d Y pc' lv (mm_rv x :: st) M r) : mr X d Y pc lv st M r := by
  subst hp
  refine mr_next (o := (pc + 2, lv, mm_rv x :: st, M)) hd ?_ k
  have e : mm_ld (.aload j) lv = some (2, mm_rv x) := by
    show (mm_geta lv j).map (2, ·) = _
    unfold mm_geta
    rw [hl]
    cases x <;> rfl
  show (match mm_ld (.aload j) lv with | some q => if 2 = q.1 then some (pc + q.1, lv, q.2 :: st, M) else none | none => _) = _
  rw [e]
  rfl
theorem mr_istore_n {j : Fin 4} {x : Int32} (hd : decode Y.2.2.1 pc = .ok (.istore_n j, 1)) (hp : pc + 1 = pc') (hb : (j : Nat) < Y.2.2.2.1) (hl : mm_set1 lv j (.int x) = lv') (k : mr X d Y pc' lv' st M r) : mr X d Y pc lv (.int x :: st) M r := by
  subst hp
  subst hl
  refine mr_next (o := (pc + 1, mm_set1 lv j (.int x), st, M)) hd ?_ k
  have e : mm_sv (.istore_n j) Y.2.2.2.1 lv (.int x :: st) = some (1, mm_set1 lv j (.int x), st) := by
    show (if (j : Nat) < Y.2.2.2.1 then some (mm_set1 lv j (.int x), st) else none).map (1, ·) = _
    rw [if_pos hb]
    rfl
  show (match mm_sv (.istore_n j) Y.2.2.2.1 lv (.int x :: st) with | some q => if 1 = q.1 then some (pc + q.1, q.2.1, q.2.2, M) else none | none => _) = _
  rw [e]
  rfl
theorem mr_istore {j : Nat} {x : Int32} (hd : decode Y.2.2.1 pc = .ok (.istore j, 2)) (hp : pc + 2 = pc') (hb : (j : Nat) < Y.2.2.2.1) (hl : mm_set1 lv j (.int x) = lv') (k : mr X d Y pc' lv' st M r) : mr X d Y pc lv (.int x :: st) M r := by
  subst hp
  subst hl
  refine mr_next (o := (pc + 2, mm_set1 lv j (.int x), st, M)) hd ?_ k
  have e : mm_sv (.istore j) Y.2.2.2.1 lv (.int x :: st) = some (2, mm_set1 lv j (.int x), st) := by
    show (if (j : Nat) < Y.2.2.2.1 then some (mm_set1 lv j (.int x), st) else none).map (2, ·) = _
    rw [if_pos hb]
    rfl
  show (match mm_sv (.istore j) Y.2.2.2.1 lv (.int x :: st) with | some q => if 2 = q.1 then some (pc + q.1, q.2.1, q.2.2, M) else none | none => _) = _
  rw [e]
  rfl
theorem mr_astore_n {j : Fin 4} {x : Nat} (hd : decode Y.2.2.1 pc = .ok (.astore_n j, 1)) (hp : pc + 1 = pc') (hb : (j : Nat) < Y.2.2.2.1) (hl : mm_set1 lv j (.ref x) = lv') (k : mr X d Y pc' lv' st M r) : mr X d Y pc lv (.ref x :: st) M r := by
  subst hp
  subst hl
  refine mr_next (o := (pc + 1, mm_set1 lv j (.ref x), st, M)) hd ?_ k
  have e : mm_sv (.astore_n j) Y.2.2.2.1 lv (.ref x :: st) = some (1, mm_set1 lv j (.ref x), st) := by
    show (if (j : Nat) < Y.2.2.2.1 then some (mm_set1 lv j (.ref x), st) else none).map (1, ·) = _
    rw [if_pos hb]
    rfl
  show (match mm_sv (.astore_n j) Y.2.2.2.1 lv (.ref x :: st) with | some q => if 1 = q.1 then some (pc + q.1, q.2.1, q.2.2, M) else none | none => _) = _
  rw [e]
  rfl
theorem mr_astore {j : Nat} {x : Nat} (hd : decode Y.2.2.1 pc = .ok (.astore j, 2)) (hp : pc + 2 = pc') (hb : (j : Nat) < Y.2.2.2.1) (hl : mm_set1 lv j (.ref x) = lv') (k : mr X d Y pc' lv' st M r) : mr X d Y pc lv (.ref x :: st) M r := by
  subst hp
  subst hl
  refine mr_next (o := (pc + 2, mm_set1 lv j (.ref x), st, M)) hd ?_ k
  have e : mm_sv (.astore j) Y.2.2.2.1 lv (.ref x :: st) = some (2, mm_set1 lv j (.ref x), st) := by
    show (if (j : Nat) < Y.2.2.2.1 then some (mm_set1 lv j (.ref x), st) else none).map (2, ·) = _
    rw [if_pos hb]
    rfl
  show (match mm_sv (.astore j) Y.2.2.2.1 lv (.ref x :: st) with | some q => if 2 = q.1 then some (pc + q.1, q.2.1, q.2.2, M) else none | none => _) = _
  rw [e]
  rfl
theorem mr_lstore_n {j : Fin 4} {x : Int64} (hd : decode Y.2.2.1 pc = .ok (.lstore_n j, 1)) (hp : pc + 1 = pc') (hb : (j : Nat) + 1 < Y.2.2.2.1) (hl : mm_set2 lv j (.long x) = lv') (k : mr X d Y pc' lv' st M r) : mr X d Y pc lv (.long x :: st) M r := by
  subst hp
  subst hl
  refine mr_next (o := (pc + 1, mm_set2 lv j (.long x), st, M)) hd ?_ k
  have e : mm_sv (.lstore_n j) Y.2.2.2.1 lv (.long x :: st) = some (1, mm_set2 lv j (.long x), st) := by
    show (if (j : Nat) + 1 < Y.2.2.2.1 then some (mm_set2 lv j (.long x), st) else none).map (1, ·) = _
    rw [if_pos hb]
    rfl
  show (match mm_sv (.lstore_n j) Y.2.2.2.1 lv (.long x :: st) with | some q => if 1 = q.1 then some (pc + q.1, q.2.1, q.2.2, M) else none | none => _) = _
  rw [e]
  rfl
theorem mr_lstore {j : Nat} {x : Int64} (hd : decode Y.2.2.1 pc = .ok (.lstore j, 2)) (hp : pc + 2 = pc') (hb : (j : Nat) + 1 < Y.2.2.2.1) (hl : mm_set2 lv j (.long x) = lv') (k : mr X d Y pc' lv' st M r) : mr X d Y pc lv (.long x :: st) M r := by
  subst hp
  subst hl
  refine mr_next (o := (pc + 2, mm_set2 lv j (.long x), st, M)) hd ?_ k
  have e : mm_sv (.lstore j) Y.2.2.2.1 lv (.long x :: st) = some (2, mm_set2 lv j (.long x), st) := by
    show (if (j : Nat) + 1 < Y.2.2.2.1 then some (mm_set2 lv j (.long x), st) else none).map (2, ·) = _
    rw [if_pos hb]
    rfl
  show (match mm_sv (.lstore j) Y.2.2.2.1 lv (.long x :: st) with | some q => if 2 = q.1 then some (pc + q.1, q.2.1, q.2.2, M) else none | none => _) = _
  rw [e]
  rfl
theorem mr_iinc {j : Nat} {n : Int} {x x' : Int32} (hd : decode Y.2.2.1 pc = .ok (.iinc j n, 3)) (hp : pc + 3 = pc') (hb : j < Y.2.2.2.1) (hx : mm_ix lv j = some (.int x)) (hv : x + Int32.ofInt n = x') (hl : mm_set1 lv j (.int x') = lv') (k : mr X d Y pc' lv' st M r) : mr X d Y pc lv st M r := by
  subst hp
  subst hv
  subst hl
  refine mr_next (o := (pc + 3, mm_set1 lv j (.int (x + Int32.ofInt n)), st, M)) hd ?_ k
  have e : mm_sv (.iinc j n) Y.2.2.2.1 lv st = some (3, mm_set1 lv j (.int (x + Int32.ofInt n)), st) := by
    show (mm_inc Y.2.2.2.1 lv j n st).map (3, ·) = _
    unfold mm_inc
    rw [hx]
    show (if j < Y.2.2.2.1 then some (mm_set1 lv j (.int (x + Int32.ofInt n)), st) else none).map (3, ·) = _
    rw [if_pos hb]
    rfl
  show (match mm_sv (.iinc j n) Y.2.2.2.1 lv st with | some q => if 3 = q.1 then some (pc + q.1, q.2.1, q.2.2, M) else none | none => _) = _
  rw [e]
  rfl
theorem mm_tg_of {t : Nat} {off : Int} (h : (pc : Int) + off = (t : Int)) : mm_tg pc off = some t := by
  unfold mm_tg
  rw [if_pos (by omega), h]
  rfl
theorem mr_brg {i : Instr} {q : Nat × List Value} (hd : decode Y.2.2.1 pc = .ok (i, 3)) (ha : mm_ar i st = none) (hb : mm_br i pc st = some q) (k : mr X d Y q.1 lv q.2 M r) : mr X d Y pc lv st M r := by
  refine mr_next (o := (q.1, lv, q.2, M)) hd ?_ k
  obtain ⟨n1, n2⟩ := mm_br_nold (nL := Y.2.2.2.1) (lv' := lv) hb
  unfold mm_next
  rw [ha, n1, n2, hb]
  dsimp only
  rw [if_pos (Or.inl rfl)]
theorem mr_goto {off : Int} {t : Nat} (hd : decode Y.2.2.1 pc = .ok (.goto off, 3)) (ht : (pc : Int) + off = (t : Int)) (k : mr X d Y t lv st M r) : mr X d Y pc lv st M r := mr_brg (q := (t, st)) hd rfl (by show (mm_tg pc off).map (·, st) = _; rw [mm_tg_of ht]; rfl) k
theorem mr_ifnull_n {off : Int} {t : Nat} (hd : decode Y.2.2.1 pc = .ok (.ifnull off, 3)) (ht : (pc : Int) + off = (t : Int)) (k : mr X d Y t lv st M r) : mr X d Y pc lv (.null :: st) M r := mr_brg (q := (t, st)) hd rfl (by show (mm_tg pc off).map (·, st) = _; rw [mm_tg_of ht]; rfl) k
theorem mr_ifnull_s {off : Int} {a : Nat} (hd : decode Y.2.2.1 pc = .ok (.ifnull off, 3)) (hp : pc + 3 = pc') (k : mr X d Y pc' lv st M r) : mr X d Y pc lv (.ref a :: st) M r := mr_brg (q := (pc', st)) hd rfl (by subst hp; rfl) k
theorem mr_if0 {c : ClassFile.Cond} {off : Int} {t : Nat} {x : Int32} (hd : decode Y.2.2.1 pc = .ok (.ifCond c off, 3)) (ht : (pc : Int) + off = (t : Int)) (k : mr X d Y (bif mm_cc c x 0 then t else pc + 3) lv st M r) : mr X d Y pc lv (.int x :: st) M r := mr_brg (q := (_, st)) hd rfl (by show (mm_tg pc off).map (fun t => (bif mm_cc c x 0 then t else pc + 3, st)) = _; rw [mm_tg_of ht]; rfl) k
theorem mr_if2 {c : ClassFile.Cond} {off : Int} {t : Nat} {x y : Int32} (hd : decode Y.2.2.1 pc = .ok (.if_icmp c off, 3)) (ht : (pc : Int) + off = (t : Int)) (k : mr X d Y (bif mm_cc c x y then t else pc + 3) lv st M r) : mr X d Y pc lv (.int y :: .int x :: st) M r := mr_brg (q := (_, st)) hd rfl (by show (mm_tg pc off).map (fun t => (bif mm_cc c x y then t else pc + 3, st)) = _; rw [mm_tg_of ht]; rfl) k
theorem mr_if_eq_t {x : Int32} {off : Int} {t : Nat} (hd : decode Y.2.2.1 pc = .ok (.ifCond .eq off, 3)) (ht : (pc : Int) + off = (t : Int)) (hc : x = 0) (k : mr X d Y t lv st M r) : mr X d Y pc lv (.int x :: st) M r := mr_if0 hd ht (by rw [mm_bifT (show mm_cc .eq x 0 = true from decide_eq_true hc)]; exact k)
theorem mr_if_eq_f {x : Int32} {off : Int} {t : Nat} (hd : decode Y.2.2.1 pc = .ok (.ifCond .eq off, 3)) (ht : (pc : Int) + off = (t : Int)) (hp : pc + 3 = pc') (hc : ¬ (x = 0)) (k : mr X d Y pc' lv st M r) : mr X d Y pc lv (.int x :: st) M r := mr_if0 hd ht (by rw [mm_bifF (show mm_cc .eq x 0 = false from decide_eq_false hc), hp]; exact k)
theorem mr_icmp_eq_t {x y : Int32} {off : Int} {t : Nat} (hd : decode Y.2.2.1 pc = .ok (.if_icmp .eq off, 3)) (ht : (pc : Int) + off = (t : Int)) (hc : x = y) (k : mr X d Y t lv st M r) : mr X d Y pc lv (.int y :: .int x :: st) M r := mr_if2 hd ht (by rw [mm_bifT (show mm_cc .eq x y = true from decide_eq_true hc)]; exact k)
theorem mr_icmp_eq_f {x y : Int32} {off : Int} {t : Nat} (hd : decode Y.2.2.1 pc = .ok (.if_icmp .eq off, 3)) (ht : (pc : Int) + off = (t : Int)) (hp : pc + 3 = pc') (hc : ¬ (x = y)) (k : mr X d Y pc' lv st M r) : mr X d Y pc lv (.int y :: .int x :: st) M r := mr_if2 hd ht (by rw [mm_bifF (show mm_cc .eq x y = false from decide_eq_false hc), hp]; exact k)
theorem mr_if_ne_t {x : Int32} {off : Int} {t : Nat} (hd : decode Y.2.2.1 pc = .ok (.ifCond .ne off, 3)) (ht : (pc : Int) + off = (t : Int)) (hc : ¬ x = 0) (k : mr X d Y t lv st M r) : mr X d Y pc lv (.int x :: st) M r := mr_if0 hd ht (by rw [mm_bifT (show mm_cc .ne x 0 = true from by unfold mm_cc; simp [hc])]; exact k)
theorem mr_if_ne_f {x : Int32} {off : Int} {t : Nat} (hd : decode Y.2.2.1 pc = .ok (.ifCond .ne off, 3)) (ht : (pc : Int) + off = (t : Int)) (hp : pc + 3 = pc') (hc : ¬ (¬ x = 0)) (k : mr X d Y pc' lv st M r) : mr X d Y pc lv (.int x :: st) M r := mr_if0 hd ht (by rw [mm_bifF (show mm_cc .ne x 0 = false from by unfold mm_cc; simpa using hc), hp]; exact k)
theorem mr_icmp_ne_t {x y : Int32} {off : Int} {t : Nat} (hd : decode Y.2.2.1 pc = .ok (.if_icmp .ne off, 3)) (ht : (pc : Int) + off = (t : Int)) (hc : ¬ x = y) (k : mr X d Y t lv st M r) : mr X d Y pc lv (.int y :: .int x :: st) M r := mr_if2 hd ht (by rw [mm_bifT (show mm_cc .ne x y = true from by unfold mm_cc; simp [hc])]; exact k)
theorem mr_icmp_ne_f {x y : Int32} {off : Int} {t : Nat} (hd : decode Y.2.2.1 pc = .ok (.if_icmp .ne off, 3)) (ht : (pc : Int) + off = (t : Int)) (hp : pc + 3 = pc') (hc : ¬ (¬ x = y)) (k : mr X d Y pc' lv st M r) : mr X d Y pc lv (.int y :: .int x :: st) M r := mr_if2 hd ht (by rw [mm_bifF (show mm_cc .ne x y = false from by unfold mm_cc; simpa using hc), hp]; exact k)
theorem mr_if_lt_t {x : Int32} {off : Int} {t : Nat} (hd : decode Y.2.2.1 pc = .ok (.ifCond .lt off, 3)) (ht : (pc : Int) + off = (t : Int)) (hc : x < 0) (k : mr X d Y t lv st M r) : mr X d Y pc lv (.int x :: st) M r := mr_if0 hd ht (by rw [mm_bifT (show mm_cc .lt x 0 = true from decide_eq_true hc)]; exact k)
theorem mr_if_lt_f {x : Int32} {off : Int} {t : Nat} (hd : decode Y.2.2.1 pc = .ok (.ifCond .lt off, 3)) (ht : (pc : Int) + off = (t : Int)) (hp : pc + 3 = pc') (hc : ¬ (x < 0)) (k : mr X d Y pc' lv st M r) : mr X d Y pc lv (.int x :: st) M r := mr_if0 hd ht (by rw [mm_bifF (show mm_cc .lt x 0 = false from decide_eq_false hc), hp]; exact k)
theorem mr_icmp_lt_t {x y : Int32} {off : Int} {t : Nat} (hd : decode Y.2.2.1 pc = .ok (.if_icmp .lt off, 3)) (ht : (pc : Int) + off = (t : Int)) (hc : x < y) (k : mr X d Y t lv st M r) : mr X d Y pc lv (.int y :: .int x :: st) M r := mr_if2 hd ht (by rw [mm_bifT (show mm_cc .lt x y = true from decide_eq_true hc)]; exact k)
theorem mr_icmp_lt_f {x y : Int32} {off : Int} {t : Nat} (hd : decode Y.2.2.1 pc = .ok (.if_icmp .lt off, 3)) (ht : (pc : Int) + off = (t : Int)) (hp : pc + 3 = pc') (hc : ¬ (x < y)) (k : mr X d Y pc' lv st M r) : mr X d Y pc lv (.int y :: .int x :: st) M r := mr_if2 hd ht (by rw [mm_bifF (show mm_cc .lt x y = false from decide_eq_false hc), hp]; exact k)
theorem mr_if_ge_t {x : Int32} {off : Int} {t : Nat} (hd : decode Y.2.2.1 pc = .ok (.ifCond .ge off, 3)) (ht : (pc : Int) + off = (t : Int)) (hc : 0 ≤ x) (k : mr X d Y t lv st M r) : mr X d Y pc lv (.int x :: st) M r := mr_if0 hd ht (by rw [mm_bifT (show mm_cc .ge x 0 = true from decide_eq_true hc)]; exact k)
theorem mr_if_ge_f {x : Int32} {off : Int} {t : Nat} (hd : decode Y.2.2.1 pc = .ok (.ifCond .ge off, 3)) (ht : (pc : Int) + off = (t : Int)) (hp : pc + 3 = pc') (hc : ¬ (0 ≤ x)) (k : mr X d Y pc' lv st M r) : mr X d Y pc lv (.int x :: st) M r := mr_if0 hd ht (by rw [mm_bifF (show mm_cc .ge x 0 = false from decide_eq_false hc), hp]; exact k)
theorem mr_icmp_ge_t {x y : Int32} {off : Int} {t : Nat} (hd : decode Y.2.2.1 pc = .ok (.if_icmp .ge off, 3)) (ht : (pc : Int) + off = (t : Int)) (hc : y ≤ x) (k : mr X d Y t lv st M r) : mr X d Y pc lv (.int y :: .int x :: st) M r := mr_if2 hd ht (by rw [mm_bifT (show mm_cc .ge x y = true from decide_eq_true hc)]; exact k)
theorem mr_icmp_ge_f {x y : Int32} {off : Int} {t : Nat} (hd : decode Y.2.2.1 pc = .ok (.if_icmp .ge off, 3)) (ht : (pc : Int) + off = (t : Int)) (hp : pc + 3 = pc') (hc : ¬ (y ≤ x)) (k : mr X d Y pc' lv st M r) : mr X d Y pc lv (.int y :: .int x :: st) M r := mr_if2 hd ht (by rw [mm_bifF (show mm_cc .ge x y = false from decide_eq_false hc), hp]; exact k)
theorem mr_if_gt_t {x : Int32} {off : Int} {t : Nat} (hd : decode Y.2.2.1 pc = .ok (.ifCond .gt off, 3)) (ht : (pc : Int) + off = (t : Int)) (hc : 0 < x) (k : mr X d Y t lv st M r) : mr X d Y pc lv (.int x :: st) M r := mr_if0 hd ht (by rw [mm_bifT (show mm_cc .gt x 0 = true from decide_eq_true hc)]; exact k)
theorem mr_if_gt_f {x : Int32} {off : Int} {t : Nat} (hd : decode Y.2.2.1 pc = .ok (.ifCond .gt off, 3)) (ht : (pc : Int) + off = (t : Int)) (hp : pc + 3 = pc') (hc : ¬ (0 < x)) (k : mr X d Y pc' lv st M r) : mr X d Y pc lv (.int x :: st) M r := mr_if0 hd ht (by rw [mm_bifF (show mm_cc .gt x 0 = false from decide_eq_false hc), hp]; exact k)
theorem mr_icmp_gt_t {x y : Int32} {off : Int} {t : Nat} (hd : decode Y.2.2.1 pc = .ok (.if_icmp .gt off, 3)) (ht : (pc : Int) + off = (t : Int)) (hc : y < x) (k : mr X d Y t lv st M r) : mr X d Y pc lv (.int y :: .int x :: st) M r := mr_if2 hd ht (by rw [mm_bifT (show mm_cc .gt x y = true from decide_eq_true hc)]; exact k)
theorem mr_icmp_gt_f {x y : Int32} {off : Int} {t : Nat} (hd : decode Y.2.2.1 pc = .ok (.if_icmp .gt off, 3)) (ht : (pc : Int) + off = (t : Int)) (hp : pc + 3 = pc') (hc : ¬ (y < x)) (k : mr X d Y pc' lv st M r) : mr X d Y pc lv (.int y :: .int x :: st) M r := mr_if2 hd ht (by rw [mm_bifF (show mm_cc .gt x y = false from decide_eq_false hc), hp]; exact k)
theorem mr_if_le_t {x : Int32} {off : Int} {t : Nat} (hd : decode Y.2.2.1 pc = .ok (.ifCond .le off, 3)) (ht : (pc : Int) + off = (t : Int)) (hc : x ≤ 0) (k : mr X d Y t lv st M r) : mr X d Y pc lv (.int x :: st) M r := mr_if0 hd ht (by rw [mm_bifT (show mm_cc .le x 0 = true from decide_eq_true hc)]; exact k)
theorem mr_if_le_f {x : Int32} {off : Int} {t : Nat} (hd : decode Y.2.2.1 pc = .ok (.ifCond .le off, 3)) (ht : (pc : Int) + off = (t : Int)) (hp : pc + 3 = pc') (hc : ¬ (x ≤ 0)) (k : mr X d Y pc' lv st M r) : mr X d Y pc lv (.int x :: st) M r := mr_if0 hd ht (by rw [mm_bifF (show mm_cc .le x 0 = false from decide_eq_false hc), hp]; exact k)
theorem mr_icmp_le_t {x y : Int32} {off : Int} {t : Nat} (hd : decode Y.2.2.1 pc = .ok (.if_icmp .le off, 3)) (ht : (pc : Int) + off = (t : Int)) (hc : x ≤ y) (k : mr X d Y t lv st M r) : mr X d Y pc lv (.int y :: .int x :: st) M r := mr_if2 hd ht (by rw [mm_bifT (show mm_cc .le x y = true from decide_eq_true hc)]; exact k)
theorem mr_icmp_le_f {x y : Int32} {off : Int} {t : Nat} (hd : decode Y.2.2.1 pc = .ok (.if_icmp .le off, 3)) (ht : (pc : Int) + off = (t : Int)) (hp : pc + 3 = pc') (hc : ¬ (x ≤ y)) (k : mr X d Y pc' lv st M r) : mr X d Y pc lv (.int y :: .int x :: st) M r := mr_if2 hd ht (by rw [mm_bifF (show mm_cc .le x y = false from decide_eq_false hc), hp]; exact k)
theorem lgc (x y : Int64) : (lg_cmp x y = 0 ↔ x = y) ∧ (lg_cmp x y < 0 ↔ x < y) ∧ (0 < lg_cmp x y ↔ y < x) := by
  unfold lg_cmp
  by_cases h1 : y < x
  · have h2 : ¬ x = y := fun e => by rw [e] at h1; exact Int64.lt_irrefl h1
    have h3 : ¬ x < y := fun e => absurd h1 (lg_lt_not e)
    simp [h1, h2, h3]
  · by_cases h2 : x = y
    · subst h2
      simp [h1]
    · have h3 : x < y := by
        rcases Int.lt_trichotomy x.toInt y.toInt with w | w | w
        · exact Int64.lt_iff_toInt_lt.mpr w
        · exact absurd (Int64.toInt_inj.mp w) h2
        · exact absurd (Int64.lt_iff_toInt_lt.mpr w) h1
      simp [h1, h2, h3]
theorem mr_lcmp {x y : Int64} (hd : decode Y.2.2.1 pc = .ok (.lcmp, 1)) (hp : pc + 1 = pc') (k : mr X d Y pc' lv (.int (lg_cmp x y) :: st) M r) : mr X d Y pc lv (.long y :: .long x :: st) M r := by
  subst hp
  exact mr_next hd rfl k
theorem lgc_eq (x y : Int64) : lg_cmp x y = 0 ↔ x = y := (lgc x y).1
theorem lgc_lt (x y : Int64) : lg_cmp x y < 0 ↔ x < y := (lgc x y).2.1
theorem lgc_gt (x y : Int64) : 0 < lg_cmp x y ↔ y < x := (lgc x y).2.2
theorem lgc_ne (x y : Int64) : ¬ lg_cmp x y = 0 ↔ ¬ x = y := not_congr (lgc x y).1
theorem lgc_ge (x y : Int64) : 0 ≤ lg_cmp x y ↔ y ≤ x := by rw [← Int32.not_lt, ← Int64.not_lt]; exact not_congr (lgc x y).2.1
theorem lgc_le (x y : Int64) : lg_cmp x y ≤ 0 ↔ x ≤ y := by rw [← Int32.not_lt, ← Int64.not_lt]; exact not_congr (lgc x y).2.2
theorem mr_lcmp_eq_t {x y : Int64} {off : Int} {t p1 : Nat} (h1 : decode Y.2.2.1 pc = .ok (.lcmp, 1)) (hp : pc + 1 = p1) (hd : decode Y.2.2.1 p1 = .ok (.ifCond .eq off, 3)) (ht : (p1 : Int) + off = (t : Int)) (hc : x = y) (k : mr X d Y t lv st M r) : mr X d Y pc lv (.long y :: .long x :: st) M r := mr_lcmp h1 hp (mr_if_eq_t hd ht ((lgc_eq x y).mpr hc) k)
theorem mr_lcmp_eq_f {x y : Int64} {off : Int} {t p1 : Nat} (h1 : decode Y.2.2.1 pc = .ok (.lcmp, 1)) (hp : pc + 1 = p1) (hd : decode Y.2.2.1 p1 = .ok (.ifCond .eq off, 3)) (ht : (p1 : Int) + off = (t : Int)) (hq : p1 + 3 = pc') (hc : ¬ (x = y)) (k : mr X d Y pc' lv st M r) : mr X d Y pc lv (.long y :: .long x :: st) M r := mr_lcmp h1 hp (mr_if_eq_f hd ht hq (fun z => hc ((lgc_eq x y).mp z)) k)
theorem mr_lcmp_ne_t {x y : Int64} {off : Int} {t p1 : Nat} (h1 : decode Y.2.2.1 pc = .ok (.lcmp, 1)) (hp : pc + 1 = p1) (hd : decode Y.2.2.1 p1 = .ok (.ifCond .ne off, 3)) (ht : (p1 : Int) + off = (t : Int)) (hc : ¬ x = y) (k : mr X d Y t lv st M r) : mr X d Y pc lv (.long y :: .long x :: st) M r := mr_lcmp h1 hp (mr_if_ne_t hd ht ((lgc_ne x y).mpr hc) k)
theorem mr_lcmp_ne_f {x y : Int64} {off : Int} {t p1 : Nat} (h1 : decode Y.2.2.1 pc = .ok (.lcmp, 1)) (hp : pc + 1 = p1) (hd : decode Y.2.2.1 p1 = .ok (.ifCond .ne off, 3)) (ht : (p1 : Int) + off = (t : Int)) (hq : p1 + 3 = pc') (hc : ¬ (¬ x = y)) (k : mr X d Y pc' lv st M r) : mr X d Y pc lv (.long y :: .long x :: st) M r := mr_lcmp h1 hp (mr_if_ne_f hd ht hq (fun z => hc ((lgc_ne x y).mp z)) k)
theorem mr_lcmp_lt_t {x y : Int64} {off : Int} {t p1 : Nat} (h1 : decode Y.2.2.1 pc = .ok (.lcmp, 1)) (hp : pc + 1 = p1) (hd : decode Y.2.2.1 p1 = .ok (.ifCond .lt off, 3)) (ht : (p1 : Int) + off = (t : Int)) (hc : x < y) (k : mr X d Y t lv st M r) : mr X d Y pc lv (.long y :: .long x :: st) M r := mr_lcmp h1 hp (mr_if_lt_t hd ht ((lgc_lt x y).mpr hc) k)
theorem mr_lcmp_lt_f {x y : Int64} {off : Int} {t p1 : Nat} (h1 : decode Y.2.2.1 pc = .ok (.lcmp, 1)) (hp : pc + 1 = p1) (hd : decode Y.2.2.1 p1 = .ok (.ifCond .lt off, 3)) (ht : (p1 : Int) + off = (t : Int)) (hq : p1 + 3 = pc') (hc : ¬ (x < y)) (k : mr X d Y pc' lv st M r) : mr X d Y pc lv (.long y :: .long x :: st) M r := mr_lcmp h1 hp (mr_if_lt_f hd ht hq (fun z => hc ((lgc_lt x y).mp z)) k)
theorem mr_lcmp_ge_t {x y : Int64} {off : Int} {t p1 : Nat} (h1 : decode Y.2.2.1 pc = .ok (.lcmp, 1)) (hp : pc + 1 = p1) (hd : decode Y.2.2.1 p1 = .ok (.ifCond .ge off, 3)) (ht : (p1 : Int) + off = (t : Int)) (hc : y ≤ x) (k : mr X d Y t lv st M r) : mr X d Y pc lv (.long y :: .long x :: st) M r := mr_lcmp h1 hp (mr_if_ge_t hd ht ((lgc_ge x y).mpr hc) k)
theorem mr_lcmp_ge_f {x y : Int64} {off : Int} {t p1 : Nat} (h1 : decode Y.2.2.1 pc = .ok (.lcmp, 1)) (hp : pc + 1 = p1) (hd : decode Y.2.2.1 p1 = .ok (.ifCond .ge off, 3)) (ht : (p1 : Int) + off = (t : Int)) (hq : p1 + 3 = pc') (hc : ¬ (y ≤ x)) (k : mr X d Y pc' lv st M r) : mr X d Y pc lv (.long y :: .long x :: st) M r := mr_lcmp h1 hp (mr_if_ge_f hd ht hq (fun z => hc ((lgc_ge x y).mp z)) k)
theorem mr_lcmp_gt_t {x y : Int64} {off : Int} {t p1 : Nat} (h1 : decode Y.2.2.1 pc = .ok (.lcmp, 1)) (hp : pc + 1 = p1) (hd : decode Y.2.2.1 p1 = .ok (.ifCond .gt off, 3)) (ht : (p1 : Int) + off = (t : Int)) (hc : y < x) (k : mr X d Y t lv st M r) : mr X d Y pc lv (.long y :: .long x :: st) M r := mr_lcmp h1 hp (mr_if_gt_t hd ht ((lgc_gt x y).mpr hc) k)
theorem mr_lcmp_gt_f {x y : Int64} {off : Int} {t p1 : Nat} (h1 : decode Y.2.2.1 pc = .ok (.lcmp, 1)) (hp : pc + 1 = p1) (hd : decode Y.2.2.1 p1 = .ok (.ifCond .gt off, 3)) (ht : (p1 : Int) + off = (t : Int)) (hq : p1 + 3 = pc') (hc : ¬ (y < x)) (k : mr X d Y pc' lv st M r) : mr X d Y pc lv (.long y :: .long x :: st) M r := mr_lcmp h1 hp (mr_if_gt_f hd ht hq (fun z => hc ((lgc_gt x y).mp z)) k)
theorem mr_lcmp_le_t {x y : Int64} {off : Int} {t p1 : Nat} (h1 : decode Y.2.2.1 pc = .ok (.lcmp, 1)) (hp : pc + 1 = p1) (hd : decode Y.2.2.1 p1 = .ok (.ifCond .le off, 3)) (ht : (p1 : Int) + off = (t : Int)) (hc : x ≤ y) (k : mr X d Y t lv st M r) : mr X d Y pc lv (.long y :: .long x :: st) M r := mr_lcmp h1 hp (mr_if_le_t hd ht ((lgc_le x y).mpr hc) k)
theorem mr_lcmp_le_f {x y : Int64} {off : Int} {t p1 : Nat} (h1 : decode Y.2.2.1 pc = .ok (.lcmp, 1)) (hp : pc + 1 = p1) (hd : decode Y.2.2.1 p1 = .ok (.ifCond .le off, 3)) (ht : (p1 : Int) + off = (t : Int)) (hq : p1 + 3 = pc') (hc : ¬ (x ≤ y)) (k : mr X d Y pc' lv st M r) : mr X d Y pc lv (.long y :: .long x :: st) M r := mr_lcmp h1 hp (mr_if_le_f hd ht hq (fun z => hc ((lgc_le x y).mp z)) k)
theorem mr_swg {dd lo hi : Int} {offs : Array Int} {len : Nat} {q : Nat × List Value} (hd : decode Y.2.2.1 pc = .ok (.tableswitch dd lo hi offs, len)) (hb : mm_sw pc dd lo hi offs st = some q) (k : mr X d Y q.1 lv q.2 M r) : mr X d Y pc lv st M r := by
  refine mr_next (o := (q.1, lv, q.2, M)) hd ?_ k
  show (match mm_sw pc dd lo hi offs st with | some q => if len = 3 ∨ true = true then some (q.1, lv, q.2, M) else none | none => none) = _
  rw [hb]
  dsimp only
  rw [if_pos (Or.inr rfl)]
theorem mr_sw_in {dd lo hi : Int} {offs : Array Int} {len t : Nat} {x v : Int32} (hd : decode Y.2.2.1 pc = .ok (.tableswitch dd lo hi offs, len)) (hx : x = v) (hb : mm_sw pc dd lo hi offs [.int v] = some (t, [])) (k : mr X d Y t lv st M r) : mr X d Y pc lv (.int x :: st) M r := by
  subst hx
  refine mr_swg (q := (t, st)) hd ?_ k
  have hb : (if x.toInt < lo ∨ hi < x.toInt then (mm_tg pc dd).map (·, ([] : List Value)) else (offs[(x.toInt - lo).toNat]?).bind (fun o => (mm_tg pc o).map (·, ([] : List Value)))) = some (t, []) := hb
  show (if x.toInt < lo ∨ hi < x.toInt then (mm_tg pc dd).map (·, st) else (offs[(x.toInt - lo).toNat]?).bind (fun o => (mm_tg pc o).map (·, st))) = _
  by_cases hr : x.toInt < lo ∨ hi < x.toInt
  · rw [if_pos hr] at hb ⊢
    obtain ⟨t', h1, h2⟩ := Option.map_eq_some_iff.mp hb
    cases h2
    rw [h1]
    rfl
  · rw [if_neg hr] at hb ⊢
    obtain ⟨o, h1, h2⟩ := Option.bind_eq_some_iff.mp hb
    obtain ⟨t', h3, h4⟩ := Option.map_eq_some_iff.mp h2
    cases h4
    rw [h1]
    show (mm_tg pc o).map (·, st) = _
    rw [h3]
    rfl
theorem mr_sw_out {dd lo hi : Int} {offs : Array Int} {len t : Nat} {x : Int32} (hd : decode Y.2.2.1 pc = .ok (.tableswitch dd lo hi offs, len)) (hx : x.toInt < lo ∨ hi < x.toInt) (ht : (pc : Int) + dd = (t : Int)) (k : mr X d Y t lv st M r) : mr X d Y pc lv (.int x :: st) M r := by
  refine mr_swg (q := (t, st)) hd ?_ k
  show (if x.toInt < lo ∨ hi < x.toInt then (mm_tg pc dd).map (·, st) else _) = _
  rw [if_pos hx, mm_tg_of ht]
  rfl
theorem i32ne {x c : Int32} {k : Int} (h : ¬ x = c) (hk : c.toInt = k) : x.toInt ≠ k := fun e => h (Int32.toInt_inj.mp (e.trans hk.symm))
theorem mr_hpg {i : Instr} {len : Nat} {q : Nat × List Value × mm_M} (hd : decode Y.2.2.1 pc = .ok (i, len)) (ha : mm_ar i st = none) (hbr : mm_br i pc st = none) (hb : mm_hp X Y i st M = some q) (hl : len = q.1) (k : mr X d Y (pc + q.1) lv q.2.1 q.2.2 r) : mr X d Y pc lv st M r := by
  refine mr_next (o := (pc + q.1, lv, q.2.1, q.2.2)) hd ?_ k
  obtain ⟨n1, n2⟩ := mm_hp_nold (nL := Y.2.2.2.1) (lv' := lv) hb
  unfold mm_next
  rw [ha, n1, n2, hbr, hb]
  dsimp only
  rw [if_pos hl]
theorem mr_ldc {cp : Nat} {v : Int32} (hd : decode Y.2.2.1 pc = .ok (.ldc cp, 2)) (hp : pc + 2 = pc') (hv : mm_ki Y.1 cp = some v) (k : mr X d Y pc' lv (.int v :: st) M r) : mr X d Y pc lv st M r := by
  subst hp
  refine mr_hpg (q := (2, .int v :: st, M)) hd rfl rfl ?_ rfl k
  show mm_ldc Y cp st M = _
  unfold mm_ldc
  rw [hv]
theorem mr_ldcS {cp i : Nat} (hd : decode Y.2.2.1 pc = .ok (.ldc cp, 2)) (hp : pc + 2 = pc') (hn : mm_ki Y.1 cp = none) (hv : mm_ks Y.1 cp = some i) (k : mr X d Y pc' lv (.ref (mm_ext + 10 + i) :: st) M r) : mr X d Y pc lv st M r := by
  subst hp
  refine mr_hpg (q := (2, .ref (mm_ext + 10 + i) :: st, M)) hd rfl rfl ?_ rfl k
  show mm_ldc Y cp st M = _
  unfold mm_ldc
  rw [hn, hv]
  rfl
theorem mr_ldc2 {cp : Nat} {v : Int64} (hd : decode Y.2.2.1 pc = .ok (.ldc2_w cp, 3)) (hp : pc + 3 = pc') (hv : mm_kl Y.1 cp = some v) (k : mr X d Y pc' lv (.long v :: st) M r) : mr X d Y pc lv st M r := by
  subst hp
  refine mr_hpg (q := (3, .long v :: st, M)) hd rfl rfl ?_ rfl k
  show (mm_kl Y.1 cp).map (fun v => (3, Value.long v :: st, M)) = _
  rw [hv]
  rfl
theorem mr_getg {cp ci j a t : Nat} (hd : decode Y.2.2.1 pc = .ok (.getfield cp, 3)) (hf : mm_fl Y.1 cp = some (ci, j)) (ht : tg a = ci) (hc : ci ≠ 99) (hj : j < mm_nf ci) (hty : mm_tk (mm_ft ci j) = t) (k : mr X d Y (pc + 3) lv (mm_fa (MM RR S) a j t :: st) (MM RR S) r) : mr X d Y pc lv (.ref a :: st) (MM RR S) r := by
  refine mr_hpg (q := (3, mm_fa (MM RR S) a j t :: st, MM RR S)) hd rfl rfl ?_ rfl k
  show (if a < mm_ext then (mm_fl Y.1 cp).bind (fun q => if mm_tag (MM RR S) a = q.1 ∧ q.2 < mm_nf q.1 then some (3, mm_fa (MM RR S) a q.2 (mm_tk (mm_ft q.1 q.2)) :: st, MM RR S) else none) else _) = _
  rw [if_pos (tg_ext (by rw [ht]; exact hc)), hf]
  show (if tg a = ci ∧ j < mm_nf ci then some (3, mm_fa (MM RR S) a j (mm_tk (mm_ft ci j)) :: st, MM RR S) else none) = _
  rw [if_pos ⟨ht, hj⟩, hty]
theorem mr_getI {cp ci j a : Nat} (hd : decode Y.2.2.1 pc = .ok (.getfield cp, 3)) (hp : pc + 3 = pc') (hf : mm_fl Y.1 cp = some (ci, j)) (ht : tg a = ci) (hc : ci ≠ 99) (hj : j < mm_nf ci) (hty : mm_tk (mm_ft ci j) = 0) (k : mr X d Y pc' lv (.int (S.1 a j) :: st) (MM RR S) r) : mr X d Y pc lv (.ref a :: st) (MM RR S) r := by
  subst hp
  exact mr_getg hd hf ht hc hj hty k
theorem mr_getL {cp ci j a : Nat} (hd : decode Y.2.2.1 pc = .ok (.getfield cp, 3)) (hp : pc + 3 = pc') (hf : mm_fl Y.1 cp = some (ci, j)) (ht : tg a = ci) (hc : ci ≠ 99) (hj : j < mm_nf ci) (hty : mm_tk (mm_ft ci j) = 1) (k : mr X d Y pc' lv (.long (S.2 a j) :: st) (MM RR S) r) : mr X d Y pc lv (.ref a :: st) (MM RR S) r := by
  subst hp
  exact mr_getg hd hf ht hc hj hty k
theorem mr_getR {cp ci j a b : Nat} (hR : RRok RR) (hd : decode Y.2.2.1 pc = .ok (.getfield cp, 3)) (hp : pc + 3 = pc') (hf : mm_fl Y.1 cp = some (ci, j)) (ht : tg a = ci) (hc : ci ≠ 99) (hj : j < mm_nf ci) (hj2 : j < 41) (hty : mm_tk (mm_ft ci j) = 2) (hb : RRt a j = some b) (k : mr X d Y pc' lv (.ref b :: st) (MM RR S) r) : mr X d Y pc lv (.ref a :: st) (MM RR S) r := by
  subst hp
  refine mr_getg (S := S) hd hf ht hc hj hty ?_
  have e : mm_fa (MM RR S) a j 2 = .ref b := by
    show mm_rv (RR a j) = _
    rw [hR a j (tg_lt (by rw [ht]; exact hc)) hj2, hb]
    rfl
  rw [e]
  exact k
theorem mr_putg {cp ci j a : Nat} {v : Value} {M' : mm_M} (hd : decode Y.2.2.1 pc = .ok (.putfield cp, 3)) (hp : pc + 3 = pc') (hf : mm_fl Y.1 cp = some (ci, j)) (ht : tg a = ci) (hc : ci ≠ 99) (hj : j < mm_nf ci) (hfin : (mm_T ci j).2.2.2 = false) (hw : mm_wr (MM RR S) a j (mm_ft ci j) v = some M') (k : mr X d Y pc' lv st M' r) : mr X d Y pc lv (v :: .ref a :: st) (MM RR S) r := by
  subst hp
  refine mr_hpg (q := (3, st, M')) hd ?_ ?_ ?_ rfl k
  · cases v <;> rfl
  · cases v <;> rfl
  · have e : mm_hp X Y (.putfield cp) (v :: .ref a :: st) (MM RR S) = (mm_fl Y.1 cp).bind (fun q => if a < mm_ext ∧ mm_tag (MM RR S) a = q.1 ∧ q.2 < mm_nf q.1 ∧ ((mm_T q.1 q.2).2.2.2 = false ∨ (Y.2.1.name = "<init>" ∧ q.1 = Y.1)) then (mm_wr (MM RR S) a q.2 (mm_ft q.1 q.2) v).map (fun M' => (3, st, M')) else none) := by cases v <;> rfl
    rw [e, hf]
    show (if a < mm_ext ∧ tg a = ci ∧ j < mm_nf ci ∧ ((mm_T ci j).2.2.2 = false ∨ (Y.2.1.name = "<init>" ∧ ci = Y.1)) then (mm_wr (MM RR S) a j (mm_ft ci j) v).map (fun M' => (3, st, M')) else none) = _
    rw [if_pos ⟨tg_ext (by rw [ht]; exact hc), ht, hj, Or.inl hfin⟩, hw]
    rfl
theorem mr_putI {cp ci j a : Nat} {x : Int32} (hd : decode Y.2.2.1 pc = .ok (.putfield cp, 3)) (hp : pc + 3 = pc') (hf : mm_fl Y.1 cp = some (ci, j)) (ht : tg a = ci) (hc : ci ≠ 99) (hj : j < mm_nf ci) (hfin : (mm_T ci j).2.2.2 = false) (hty : mm_ft ci j = .int) (k : mr X d Y pc' lv st (MM RR (pI S a j x)) r) : mr X d Y pc lv (.int x :: .ref a :: st) (MM RR S) r :=
  mr_putg hd hp hf ht hc hj hfin (by rw [hty]; show (if FieldType.int = .int ∨ (FieldType.int = .boolean ∧ (x = 0 ∨ x = 1)) then some (MM RR (pI S a j x)) else none) = _; rw [if_pos (Or.inl rfl)]) k
theorem mr_putZ {cp ci j a : Nat} {x : Int32} (hx : x = 0 ∨ x = 1) (hd : decode Y.2.2.1 pc = .ok (.putfield cp, 3)) (hp : pc + 3 = pc') (hf : mm_fl Y.1 cp = some (ci, j)) (ht : tg a = ci) (hc : ci ≠ 99) (hj : j < mm_nf ci) (hfin : (mm_T ci j).2.2.2 = false) (hty : mm_ft ci j = .boolean) (k : mr X d Y pc' lv st (MM RR (pI S a j x)) r) : mr X d Y pc lv (.int x :: .ref a :: st) (MM RR S) r :=
  mr_putg hd hp hf ht hc hj hfin (by rw [hty]; show (if FieldType.boolean = .int ∨ (FieldType.boolean = .boolean ∧ (x = 0 ∨ x = 1)) then some (MM RR (pI S a j x)) else none) = _; rw [if_pos (Or.inr ⟨rfl, hx⟩)]) k
theorem mr_putL {cp ci j a : Nat} {x : Int64} (hd : decode Y.2.2.1 pc = .ok (.putfield cp, 3)) (hp : pc + 3 = pc') (hf : mm_fl Y.1 cp = some (ci, j)) (ht : tg a = ci) (hc : ci ≠ 99) (hj : j < mm_nf ci) (hfin : (mm_T ci j).2.2.2 = false) (hty : mm_ft ci j = .long) (k : mr X d Y pc' lv st (MM RR (pL S a j x)) r) : mr X d Y pc lv (.long x :: .ref a :: st) (MM RR S) r :=
  mr_putg hd hp hf ht hc hj hfin (by rw [hty]; rfl) k
theorem mr_iald {a n : Nat} {i v : Int32} (hd : decode Y.2.2.1 pc = .ok (.iaload, 1)) (hp : pc + 1 = pc') (ht : tg a = 100) (hn : ln a = n) (hv : gI S a n i = some v) (k : mr X d Y pc' lv (.int v :: st) (MM RR S) r) : mr X d Y pc lv (.int i :: .ref a :: st) (MM RR S) r := by
  subst hp
  subst hn
  obtain ⟨h1, h2⟩ := ifn_some hv
  cases h2
  refine mr_hpg (q := (1, .int (S.1 a i.toNatClampNeg) :: st, MM RR S)) hd rfl rfl ?_ rfl k
  show (if a < mm_ext then (if tg a = 100 ∧ ¬ (i < 0 ∨ ln a ≤ i.toNatClampNeg) then some (1, .int (S.1 a i.toNatClampNeg) :: st, MM RR S) else none) else _) = _
  rw [if_pos (tg_ext (by rw [ht]; decide)), if_pos ⟨ht, h1⟩]
theorem mr_bald {a n : Nat} {i v : Int32} (hd : decode Y.2.2.1 pc = .ok (.baload, 1)) (hp : pc + 1 = pc') (ht : tg a = 102 ∨ tg a = 103) (hn : ln a = n) (hv : gI S a n i = some v) (k : mr X d Y pc' lv (.int v :: st) (MM RR S) r) : mr X d Y pc lv (.int i :: .ref a :: st) (MM RR S) r := by
  subst hp
  subst hn
  obtain ⟨h1, h2⟩ := ifn_some hv
  cases h2
  refine mr_hpg (q := (1, .int (S.1 a i.toNatClampNeg) :: st, MM RR S)) hd rfl rfl ?_ rfl k
  show (if a < mm_ext then (if (tg a = 102 ∨ tg a = 103) ∧ ¬ (i < 0 ∨ ln a ≤ i.toNatClampNeg) then some (1, .int (S.1 a i.toNatClampNeg) :: st, MM RR S) else none) else _) = _
  rw [if_pos (tg_ext (by rcases ht with h | h <;> rw [h] <;> decide)), if_pos ⟨ht, h1⟩]
theorem mr_lald {a n : Nat} {i : Int32} {v : Int64} (hd : decode Y.2.2.1 pc = .ok (.laload, 1)) (hp : pc + 1 = pc') (ht : tg a = 101) (hn : ln a = n) (hv : gL S a n i = some v) (k : mr X d Y pc' lv (.long v :: st) (MM RR S) r) : mr X d Y pc lv (.int i :: .ref a :: st) (MM RR S) r := by
  subst hp
  subst hn
  obtain ⟨h1, h2⟩ := ifn_some hv
  cases h2
  refine mr_hpg (q := (1, .long (S.2 a i.toNatClampNeg) :: st, MM RR S)) hd rfl rfl ?_ rfl k
  show (if a < mm_ext ∧ tg a = 101 ∧ ¬ (i < 0 ∨ ln a ≤ i.toNatClampNeg) then some (1, .long (S.2 a i.toNatClampNeg) :: st, MM RR S) else none) = _
  rw [if_pos ⟨tg_ext (by rw [ht]; decide), ht, h1⟩]
theorem mr_xald {i v : Int32} (hL : X.1 < 100000) (hd : decode Y.2.2.1 pc = .ok (.iaload, 1)) (hp : pc + 1 = pc') (hv : gX X i = some v) (k : mr X d Y pc' lv (.int v :: st) M r) : mr X d Y pc lv (.int i :: .ref mm_ext :: st) M r := by
  subst hp
  obtain ⟨h1, h2⟩ := ifn_some hv
  cases h2
  refine mr_hpg (q := (1, .int (X.2 i.toNatClampNeg) :: st, M)) hd rfl rfl ?_ rfl k
  show mm_ial X (.int i :: .ref mm_ext :: st) M = _
  unfold mm_ial
  dsimp only
  rw [if_neg (Nat.lt_irrefl _), if_pos rfl, if_pos ⟨hL, h1⟩]
theorem mr_xlen (hL : X.1 < 100000) (hd : decode Y.2.2.1 pc = .ok (.arraylength, 1)) (hp : pc + 1 = pc') (k : mr X d Y pc' lv (.int (Int32.ofNat X.1) :: st) M r) : mr X d Y pc lv (.ref mm_ext :: st) M r := by
  subst hp
  refine mr_hpg (q := (1, .int (Int32.ofNat X.1) :: st, M)) hd rfl rfl ?_ rfl k
  show mm_alen X (.ref mm_ext :: st) M = _
  unfold mm_alen
  dsimp only
  rw [if_neg (Nat.lt_irrefl _), if_pos rfl, if_pos hL]
theorem mr_tald {i v : Int32} (hd : decode Y.2.2.1 pc = .ok (.iaload, 1)) (hp : pc + 1 = pc') (hv : gB i = some v) (k : mr X d Y pc' lv (.int v :: st) M r) : mr X d Y pc lv (.int i :: .ref (mm_ext + 1) :: st) M r := by
  subst hp
  obtain ⟨h1, h2⟩ := ifn_some hv
  cases h2
  refine mr_hpg (q := (1, .int (mm_bd.getD i.toNatClampNeg 0) :: st, M)) hd rfl rfl ?_ rfl k
  show mm_ial X (.int i :: .ref (mm_ext + 1) :: st) M = _
  unfold mm_ial
  dsimp only
  rw [if_neg (by decide), if_neg (by decide), if_pos ⟨rfl, h1⟩]
theorem mr_tget (hY : Y.1 = 5) (hd : decode Y.2.2.1 pc = .ok (.getstatic 113, 3)) (hp : pc + 3 = pc') (k : mr X d Y pc' lv (.ref (mm_ext + 1) :: st) M r) : mr X d Y pc lv st M r := by
  subst hp
  refine mr_hpg (q := (3, .ref (mm_ext + 1) :: st, M)) hd rfl rfl ?_ rfl k
  show (if Y.1 = 5 ∧ 113 = 113 then _ else _) = _
  rw [if_pos ⟨hY, rfl⟩]
theorem mr_aald22 {i : Int32} {b : Nat} (hR : RRok RR) (hd : decode Y.2.2.1 pc = .ok (.aaload, 1)) (hp : pc + 1 = pc') (hv : gA22 i = some b) (k : mr X d Y pc' lv (.ref b :: st) (MM RR S) r) : mr X d Y pc lv (.int i :: .ref 22 :: st) (MM RR S) r := by
  subst hp
  obtain ⟨h1, h2⟩ := ifn_some hv
  cases h2
  have hlt : i.toNatClampNeg < 4 := Nat.not_le.mp fun q => h1 (Or.inr q)
  refine mr_hpg (q := (1, .ref (51 + 19 * i.toNatClampNeg) :: st, MM RR S)) hd rfl rfl ?_ rfl k
  show (if 22 < mm_ext ∧ (tg 22 = 114 ∨ tg 22 = 116) ∧ ¬ (i < 0 ∨ ln 22 ≤ i.toNatClampNeg) then some (1, mm_rv (RR 22 i.toNatClampNeg) :: st, MM RR S) else none) = _
  rw [if_pos ⟨by decide, by decide, h1⟩, hR 22 _ (by decide) (by omega), (show ∀ j, j < 4 → RRt 22 j = some (51 + 19 * j) by decide) _ hlt]
  rfl
theorem mr_aald23 {i : Int32} {b : Nat} (hR : RRok RR) (hd : decode Y.2.2.1 pc = .ok (.aaload, 1)) (hp : pc + 1 = pc') (hv : gA23 i = some b) (k : mr X d Y pc' lv (.ref b :: st) (MM RR S) r) : mr X d Y pc lv (.int i :: .ref 23 :: st) (MM RR S) r := by
  subst hp
  obtain ⟨h1, h2⟩ := ifn_some hv
  cases h2
  have hlt : i.toNatClampNeg < 6 := Nat.not_le.mp fun q => h1 (Or.inr q)
  refine mr_hpg (q := (1, .ref (127 + 3 * i.toNatClampNeg) :: st, MM RR S)) hd rfl rfl ?_ rfl k
  show (if 23 < mm_ext ∧ (tg 23 = 114 ∨ tg 23 = 116) ∧ ¬ (i < 0 ∨ ln 23 ≤ i.toNatClampNeg) then some (1, mm_rv (RR 23 i.toNatClampNeg) :: st, MM RR S) else none) = _
  rw [if_pos ⟨by decide, by decide, h1⟩, hR 23 _ (by decide) (by omega), (show ∀ j, j < 6 → RRt 23 j = some (127 + 3 * j) by decide) _ hlt]
  rfl
theorem mr_iast {a n : Nat} {i x : Int32} (hd : decode Y.2.2.1 pc = .ok (.iastore, 1)) (hp : pc + 1 = pc') (ht : tg a = 100) (hn : ln a = n) (hv : sI S a n i x = some S1) (k : mr X d Y pc' lv st (MM RR S1) r) : mr X d Y pc lv (.int x :: .int i :: .ref a :: st) (MM RR S) r := by
  subst hp
  subst hn
  obtain ⟨h1, h2⟩ := ifn_some hv
  cases h2
  refine mr_hpg (q := (1, st, MM RR (pI S a i.toNatClampNeg x))) hd rfl rfl ?_ rfl k
  show (if a < mm_ext ∧ tg a = 100 ∧ ¬ (i < 0 ∨ ln a ≤ i.toNatClampNeg) then some (1, st, MM RR (pI S a i.toNatClampNeg x)) else none) = _
  rw [if_pos ⟨tg_ext (by rw [ht]; decide), ht, h1⟩]
theorem mr_last {a n : Nat} {i : Int32} {x : Int64} (hd : decode Y.2.2.1 pc = .ok (.lastore, 1)) (hp : pc + 1 = pc') (ht : tg a = 101) (hn : ln a = n) (hv : sL S a n i x = some S1) (k : mr X d Y pc' lv st (MM RR S1) r) : mr X d Y pc lv (.long x :: .int i :: .ref a :: st) (MM RR S) r := by
  subst hp
  subst hn
  obtain ⟨h1, h2⟩ := ifn_some hv
  cases h2
  refine mr_hpg (q := (1, st, MM RR (pL S a i.toNatClampNeg x))) hd rfl rfl ?_ rfl k
  show (if a < mm_ext ∧ tg a = 101 ∧ ¬ (i < 0 ∨ ln a ≤ i.toNatClampNeg) then some (1, st, MM RR (pL S a i.toNatClampNeg x)) else none) = _
  rw [if_pos ⟨tg_ext (by rw [ht]; decide), ht, h1⟩]
theorem mr_bast {a n : Nat} {i x : Int32} (hd : decode Y.2.2.1 pc = .ok (.bastore, 1)) (hp : pc + 1 = pc') (ht : tg a = 102) (hn : ln a = n) (hv : sI S a n i x.toInt8.toInt32 = some S1) (k : mr X d Y pc' lv st (MM RR S1) r) : mr X d Y pc lv (.int x :: .int i :: .ref a :: st) (MM RR S) r := by
  subst hp
  subst hn
  obtain ⟨h1, h2⟩ := ifn_some hv
  cases h2
  refine mr_hpg (q := (1, st, MM RR (pI S a i.toNatClampNeg x.toInt8.toInt32))) hd rfl rfl ?_ rfl k
  show (if a < mm_ext ∧ ¬ (i < 0 ∨ ln a ≤ i.toNatClampNeg) then (if tg a = 102 then some (1, st, MM RR (pI S a i.toNatClampNeg x.toInt8.toInt32)) else _) else none) = _
  rw [if_pos ⟨tg_ext (by rw [ht]; decide), h1⟩, if_pos ht]
theorem mr_zast {a n : Nat} {i x : Int32} (hd : decode Y.2.2.1 pc = .ok (.bastore, 1)) (hp : pc + 1 = pc') (ht : tg a = 103) (hn : ln a = n) (hv : sI S a n i (vp_nar .boolean x) = some S1) (k : mr X d Y pc' lv st (MM RR S1) r) : mr X d Y pc lv (.int x :: .int i :: .ref a :: st) (MM RR S) r := by
  subst hp
  subst hn
  obtain ⟨h1, h2⟩ := ifn_some hv
  cases h2
  refine mr_hpg (q := (1, st, MM RR (pI S a i.toNatClampNeg (vp_nar .boolean x)))) hd rfl rfl ?_ rfl k
  show (if a < mm_ext ∧ ¬ (i < 0 ∨ ln a ≤ i.toNatClampNeg) then (if tg a = 102 then _ else if tg a = 103 then some (1, st, MM RR (pI S a i.toNatClampNeg (vp_nar .boolean x))) else none) else none) = _
  rw [if_pos ⟨tg_ext (by rw [ht]; decide), h1⟩, if_neg (by rw [ht]; decide), if_pos ht]
theorem mr_cpyI {cp a b n : Nat} {nn : Int32} (hd : decode Y.2.2.1 pc = .ok (.invokestatic cp, 3)) (hp : pc + 3 = pc') (hb : mm_bi Y.1 cp = some 1) (hr : (st.map fun v => v.category).sum ≤ 8) (ha : tg a = 100 ∧ n ≤ ln a) (hb2 : tg b = 100 ∧ n ≤ ln b) (hn : ¬ nn < 0) (hn2 : nn.toNatClampNeg = n) (k : mr X d Y pc' lv st (MM RR (cI S a b n)) r) : mr X d Y pc lv (.int nn :: .int 0 :: .ref b :: .int 0 :: .ref a :: st) (MM RR S) r := by
  subst hp
  subst hn2
  refine mr_hpg (q := (3, st, MM RR (cI S a b nn.toNatClampNeg))) hd rfl rfl ?_ rfl k
  show (if mm_bi Y.1 cp = some 1 ∧ (st.map fun v => v.category).sum ≤ 8 ∧ a < mm_ext ∧ b < mm_ext ∧ ¬ (0 : Int32) < 0 ∧ ¬ (0 : Int32) < 0 ∧ ¬ nn < 0 ∧ (0 : Int32).toNatClampNeg + nn.toNatClampNeg ≤ ln a ∧ (0 : Int32).toNatClampNeg + nn.toNatClampNeg ≤ ln b then (if tg a = 100 ∧ tg b = 100 then some (3, st, MM RR (mm_row S.1 b (va_cpy (S.1 a) (S.1 b) (0 : Int32).toNatClampNeg (0 : Int32).toNatClampNeg nn.toNatClampNeg), S.2)) else _) else none) = _
  have e0 : (0 : Int32).toNatClampNeg = 0 := sb_cl0
  rw [e0, Nat.zero_add, if_pos ⟨hb, hr, tg_ext (by rw [ha.1]; decide), tg_ext (by rw [hb2.1]; decide), by decide, by decide, hn, ha.2, hb2.2⟩, if_pos ⟨ha.1, hb2.1⟩]
  rfl
theorem mr_cpyL {cp a b n : Nat} {nn : Int32} (hd : decode Y.2.2.1 pc = .ok (.invokestatic cp, 3)) (hp : pc + 3 = pc') (hb : mm_bi Y.1 cp = some 1) (hr : (st.map fun v => v.category).sum ≤ 8) (ha : tg a = 101 ∧ n ≤ ln a) (hb2 : tg b = 101 ∧ n ≤ ln b) (hn : ¬ nn < 0) (hn2 : nn.toNatClampNeg = n) (k : mr X d Y pc' lv st (MM RR (cL S a b n)) r) : mr X d Y pc lv (.int nn :: .int 0 :: .ref b :: .int 0 :: .ref a :: st) (MM RR S) r := by
  subst hp
  subst hn2
  refine mr_hpg (q := (3, st, MM RR (cL S a b nn.toNatClampNeg))) hd rfl rfl ?_ rfl k
  show (if mm_bi Y.1 cp = some 1 ∧ (st.map fun v => v.category).sum ≤ 8 ∧ a < mm_ext ∧ b < mm_ext ∧ ¬ (0 : Int32) < 0 ∧ ¬ (0 : Int32) < 0 ∧ ¬ nn < 0 ∧ (0 : Int32).toNatClampNeg + nn.toNatClampNeg ≤ ln a ∧ (0 : Int32).toNatClampNeg + nn.toNatClampNeg ≤ ln b then (if tg a = 100 ∧ tg b = 100 then _ else if tg a = 101 ∧ tg b = 101 then some (3, st, MM RR (S.1, mm_row S.2 b (va_cpy (S.2 a) (S.2 b) (0 : Int32).toNatClampNeg (0 : Int32).toNatClampNeg nn.toNatClampNeg))) else none) else none) = _
  have e0 : (0 : Int32).toNatClampNeg = 0 := sb_cl0
  rw [e0, Nat.zero_add, if_pos ⟨hb, hr, tg_ext (by rw [ha.1]; decide), tg_ext (by rw [hb2.1]; decide), by decide, by decide, hn, ha.2, hb2.2⟩, if_neg (fun z => by rw [ha.1] at z; exact absurd z.1 (by decide)), if_pos ⟨ha.1, hb2.1⟩]
  rfl
theorem mr_cv {d1 cp np a : Nat} {Y' : mm_Y} {as rest : List Value} {r1 : Option Value} {M1 : mm_M} (hd : decode Y.2.2.1 pc = .ok (.invokevirtual cp, 3)) (hp : pc + 3 = pc') (hu : va_nd (lv.map (fun q => q.1)) = true) (hm : mm_ml Y.1 cp = some (0, np, Y')) (hs : st.drop np = .ref a :: rest) (ha : (st.take np).reverse = as) (ht : tg a = Y'.1) (hY : Y'.1 < 12) (hf : mm_fit Y' (.ref a :: as) rest = true) (h1 : d1 ≤ d) (k1 : mr X d1 Y' 0 (lv_args 0 (.ref a :: as)) [] (MM RR S) (r1, M1)) (k : mr X (d + 1) Y pc' lv (r1.toList ++ rest) M1 r) : mr X (d + 1) Y pc lv st (MM RR S) r := by
  subst hp
  subst ha
  refine mr_callg (mm_nd_uq hu) hd rfl ?_ h1 k1 k
  show (mm_ml Y.1 cp).bind _ = _
  rw [hm]
  show (match st.drop np with | Value.ref a :: r => if 0 = 0 ∧ mm_rc Y' (MM RR S) a = true ∧ mm_fit Y' (Value.ref a :: (st.take np).reverse) r = true then some (Y', Value.ref a :: (st.take np).reverse, r) else none | _ => none) = _
  have hrc : mm_rc Y' (MM RR S) a = true := by
    unfold mm_rc
    rw [if_pos (tg_ext (by rw [ht]; omega))]
    exact decide_eq_true ⟨ht, hY⟩
  rw [hs]
  dsimp only
  rw [if_pos ⟨rfl, hrc, hf⟩]
theorem mr_cs {d1 cp np kd : Nat} {Y' : mm_Y} {as rest : List Value} {r1 : Option Value} {M1 : mm_M} (hd : decode Y.2.2.1 pc = .ok (.invokestatic cp, 3)) (hp : pc + 3 = pc') (hu : va_nd (lv.map (fun q => q.1)) = true) (hbi : mm_bi Y.1 cp = none) (hm : mm_ml Y.1 cp = some (kd, np, Y')) (hk : kd = 1 ∨ kd = 3) (hn : np ≤ st.length) (hs : st.drop np = rest) (ha : (st.take np).reverse = as) (hf : mm_fit Y' as rest = true) (h1 : d1 ≤ d) (k1 : mr X d1 Y' 0 (lv_args 0 as) [] M (r1, M1)) (k : mr X (d + 1) Y pc' lv (r1.toList ++ rest) M1 r) : mr X (d + 1) Y pc lv st M r := by
  subst hp
  subst ha
  subst hs
  refine mr_callg (mm_nd_uq hu) hd ?_ ?_ h1 k1 k
  · have e : mm_cpy Y cp st M = none := by
      cases h : mm_cpy Y cp st M with
      | none => rfl
      | some q =>
        exfalso
        unfold mm_cpy at h
        split at h
        · obtain ⟨h2, -⟩ := mm_ifs h
          rw [hbi] at h2
          cases h2.1
        · exact mm_no h
    show (match mm_cpy Y cp st M with | some q => if 3 = q.1 then some (pc + q.1, lv, q.2.1, q.2.2) else none | none => none) = _
    rw [e]
  · show (mm_ml Y.1 cp).bind _ = _
    rw [hm]
    show (if (kd = 1 ∨ kd = 3) ∧ np ≤ st.length ∧ mm_fit Y' (st.take np).reverse (st.drop np) = true then some (Y', (st.take np).reverse, st.drop np) else none) = _
    rw [if_pos ⟨hk, hn, hf⟩]
end MR
