section
/-! copies; what a scene is, and how each side holds it -/
theorem cI_get {S : fS} {a b n x k : Nat} : (cI S a b n).1 x k = if x = b ∧ k < n then S.1 a k else S.1 x k := by
  unfold cI mm_row va_cpy
  by_cases h : x = b
  · subst h
    dsimp only
    rw [if_pos rfl]
    by_cases hk : k < n
    · rw [if_pos (by omega), if_pos ⟨rfl, hk⟩, show 0 + (k - 0) = k by omega]
    · rw [if_neg (by omega), if_neg (fun q => hk q.2)]
  · dsimp only
    rw [if_neg h, if_neg (fun q => h q.1)]
theorem cL_get {S : fS} {a b n x k : Nat} : (cL S a b n).2 x k = if x = b ∧ k < n then S.2 a k else S.2 x k := by
  unfold cL mm_row va_cpy
  by_cases h : x = b
  · subst h
    dsimp only
    rw [if_pos rfl]
    by_cases hk : k < n
    · rw [if_pos (by omega), if_pos ⟨rfl, hk⟩, show 0 + (k - 0) = k by omega]
    · rw [if_neg (by omega), if_neg (fun q => hk q.2)]
  · dsimp only
    rw [if_neg h, if_neg (fun q => h q.1)]
theorem cI_ne {S : fS} {a b n x k : Nat} (h : x ≠ b) : (cI S a b n).1 x k = S.1 x k := by rw [cI_get, if_neg (fun q => h q.1)]
theorem cL_ne {S : fS} {a b n x k : Nat} (h : x ≠ b) : (cL S a b n).2 x k = S.2 x k := by rw [cL_get, if_neg (fun q => h q.1)]
theorem cI_eq {S : fS} {a b n k : Nat} (h : k < n) : (cI S a b n).1 b k = S.1 a k := by rw [cI_get, if_pos ⟨rfl, h⟩]
theorem cL_eq {S : fS} {a b n k : Nat} (h : k < n) : (cL S a b n).2 b k = S.2 a k := by rw [cL_get, if_pos ⟨rfl, h⟩]
theorem cI_2 {S : fS} {a b n : Nat} : (cI S a b n).2 = S.2 := rfl
theorem cL_1 {S : fS} {a b n : Nat} : (cL S a b n).1 = S.1 := rfl
theorem c_copyT {S : fS} {b c : Nat} (hd : b + 6 < c ∨ c + 6 < b) : ∃ Y, f_X8_copyFrom b c S = some Y ∧ Y.1 b 6 = S.1 c 6 ∧ Y.1 b 7 = S.1 c 7 ∧ (∀ k, k < 10 → Y.2 (b + 1) k = S.2 (c + 1) k) ∧ (∀ k, k < 12 → Y.1 (b + 2) k = S.1 (c + 2) k ∧ Y.1 (b + 3) k = S.1 (c + 3) k ∧ Y.1 (b + 4) k = S.1 (c + 4) k ∧ Y.2 (b + 5) k = S.2 (c + 5) k) ∧ (∀ k, k < 100 → Y.1 (b + 6) k = S.1 (c + 6) k) ∧ (∀ a k, ¬ (b ≤ a ∧ a ≤ b + 6) → Y.1 a k = S.1 a k ∧ Y.2 a k = S.2 a k) := by
  unfold f_X8_copyFrom
  simp only [bd_some]
  refine ⟨_, rfl, ?_, ?_, fun k hk => ?_, fun k hk => ⟨?_, ?_, ?_, ?_⟩, fun k hk => ?_, fun a k h => ⟨?_, ?_⟩⟩
  · rw [pI_ne (by omega), pI_eq, cI_ne (by omega), cL_1, cI_ne (by omega), cI_ne (by omega), cI_ne (by omega), cL_1]
  · rw [pI_eq, pI_ne (by omega), cI_ne (by omega), cL_1, cI_ne (by omega), cI_ne (by omega), cI_ne (by omega), cL_1]
  · rw [pI_2, pI_2, cI_2, cL_ne (by omega), cI_2, cI_2, cI_2, cL_eq hk]
  · rw [pI_ne (by omega), pI_ne (by omega), cI_ne (by omega), cL_1, cI_ne (by omega), cI_ne (by omega), cI_eq hk, cL_1]
  · rw [pI_ne (by omega), pI_ne (by omega), cI_ne (by omega), cL_1, cI_ne (by omega), cI_eq hk, cI_ne (by omega), cL_1]
  · rw [pI_ne (by omega), pI_ne (by omega), cI_ne (by omega), cL_1, cI_eq hk, cI_ne (by omega), cI_ne (by omega), cL_1]
  · rw [pI_2, pI_2, cI_2, cL_eq hk, cI_2, cI_2, cI_2, cL_ne (by omega)]
  · rw [pI_ne (by omega), pI_ne (by omega), cI_eq hk, cL_1, cI_ne (by omega), cI_ne (by omega), cI_ne (by omega), cL_1]
  · rw [pI_ne (by omega), pI_ne (by omega), cI_ne (by omega), cL_1, cI_ne (by omega), cI_ne (by omega), cI_ne (by omega), cL_1]
  · rw [pI_2, pI_2, cI_2, cL_ne (by omega), cI_2, cI_2, cI_2, cL_ne (by omega)]
theorem c_copyC {S : fS} {b c : Nat} (hd : b + 5 < c ∨ c + 5 < b) : ∃ Y, f_X0_copyFrom b c S = some Y ∧ Y.1 b 5 = S.1 c 5 ∧ Y.1 b 6 = S.1 c 6 ∧ (∀ k, k < 8 → Y.1 (b + 1) k = S.1 (c + 1) k ∧ Y.1 (b + 2) k = S.1 (c + 2) k ∧ Y.1 (b + 3) k = S.1 (c + 3) k ∧ Y.1 (b + 4) k = S.1 (c + 4) k ∧ Y.2 (b + 5) k = S.2 (c + 5) k) ∧ (∀ a k, ¬ (b ≤ a ∧ a ≤ b + 5) → Y.1 a k = S.1 a k ∧ Y.2 a k = S.2 a k) := by
  unfold f_X0_copyFrom
  simp only [bd_some]
  refine ⟨_, rfl, ?_, ?_, fun k hk => ⟨?_, ?_, ?_, ?_, ?_⟩, fun a k h => ⟨?_, ?_⟩⟩
  · rw [pI_ne (by omega), pI_eq, cL_1, cI_ne (by omega), cI_ne (by omega), cI_ne (by omega), cI_ne (by omega)]
  · rw [pI_eq, pI_ne (by omega), cL_1, cI_ne (by omega), cI_ne (by omega), cI_ne (by omega), cI_ne (by omega)]
  · rw [pI_ne (by omega), pI_ne (by omega), cL_1, cI_ne (by omega), cI_ne (by omega), cI_ne (by omega), cI_eq hk]
  · rw [pI_ne (by omega), pI_ne (by omega), cL_1, cI_ne (by omega), cI_ne (by omega), cI_eq hk, cI_ne (by omega)]
  · rw [pI_ne (by omega), pI_ne (by omega), cL_1, cI_ne (by omega), cI_eq hk, cI_ne (by omega), cI_ne (by omega)]
  · rw [pI_ne (by omega), pI_ne (by omega), cL_1, cI_eq hk, cI_ne (by omega), cI_ne (by omega), cI_ne (by omega)]
  · rw [pI_2, pI_2, cL_eq hk, cI_2, cI_2, cI_2, cI_2]
  · rw [pI_ne (by omega), pI_ne (by omega), cL_1, cI_ne (by omega), cI_ne (by omega), cI_ne (by omega), cI_ne (by omega)]
  · rw [pI_2, pI_2, cL_ne (by omega), cI_2, cI_2, cI_2, cI_2]
theorem c_copyP {S : fS} {b c : Nat} (hd : b + 4 < c ∨ c + 4 < b) : ∃ Y, f_X2_copyFrom b c S = some Y ∧ Y.1 b 4 = S.1 c 4 ∧ (∀ k, k < 12 → Y.1 (b + 1) k = S.1 (c + 1) k ∧ Y.1 (b + 2) k = S.1 (c + 2) k ∧ Y.1 (b + 3) k = S.1 (c + 3) k ∧ Y.1 (b + 4) k = S.1 (c + 4) k) ∧ (∀ a k, ¬ (b ≤ a ∧ a ≤ b + 4) → Y.1 a k = S.1 a k) ∧ Y.2 = S.2 := by
  unfold f_X2_copyFrom
  simp only [bd_some]
  refine ⟨_, rfl, ?_, fun k hk => ⟨?_, ?_, ?_, ?_⟩, fun a k h => ?_, rfl⟩
  · rw [pI_eq, cI_ne (by omega), cI_ne (by omega), cI_ne (by omega), cI_ne (by omega)]
  · rw [pI_ne (by omega), cI_ne (by omega), cI_ne (by omega), cI_ne (by omega), cI_eq hk]
  · rw [pI_ne (by omega), cI_ne (by omega), cI_ne (by omega), cI_eq hk, cI_ne (by omega)]
  · rw [pI_ne (by omega), cI_ne (by omega), cI_eq hk, cI_ne (by omega), cI_ne (by omega)]
  · rw [pI_ne (by omega), cI_eq hk, cI_ne (by omega), cI_ne (by omega), cI_ne (by omega)]
  · rw [pI_ne (by omega), cI_ne (by omega), cI_ne (by omega), cI_ne (by omega), cI_ne (by omega)]
/-! a crowd: how many, now, place, way, gone, goal, ages -/
abbrev Cw : Type := Nat × Nat × (Nat → Int32) × (Nat → Int32) × (Nat → Int32) × (Nat → Int32) × (Nat → Int64)
def cwC (S : fS) (c : Nat) (C : Cw) : Prop := S.1 c 5 = o3 C.1 ∧ S.1 c 6 = o3 C.2.1 ∧ ∀ k, k < C.1 → S.1 (c + 1) k = C.2.2.1 k ∧ S.1 (c + 2) k = C.2.2.2.1 k ∧ S.1 (c + 3) k = C.2.2.2.2.1 k ∧ S.1 (c + 4) k = C.2.2.2.2.2.1 k ∧ S.2 (c + 5) k = C.2.2.2.2.2.2 k
def cwM (I : Nat → Int32) (A : Nat → Int64) (C : Cw) : Prop := I 2 = o3 C.1 ∧ I 3 = o3 C.2.1 ∧ ∀ k, k < C.1 → I (90 + 4 * k) = C.2.2.1 k ∧ I (90 + 4 * k + 1) = C.2.2.2.1 k ∧ I (90 + 4 * k + 2) = C.2.2.2.2.1 k ∧ I (90 + 4 * k + 3) = C.2.2.2.2.2.1 k ∧ A k = C.2.2.2.2.2.2 k
def cw0 (H : List Nat) : Cw := (H.length, 0, fun k => o3 (H.getD k 0), fun _ => -1, fun _ => 0, fun _ => -1, fun _ => 0)
theorem cwC_0 {S : fS} {c : Nat} {H : List Nat} (h : cwC0 S c H) : cwC S c (cw0 H) := h
theorem cwM_0 {I : Nat → Int32} {A : Nat → Int64} {H : List Nat} (h : cwM0 I A H) : cwM I A (cw0 H) := h
/-- a thing stands on a floor, or is on a stair and goes to one of its ends -/
def okT (m : Nat) (E : List (Nat × Nat × Nat × Nat × Nat)) (p w g e : Int32) : Prop := (∃ f, f < m ∧ p = o3 f ∧ w = -1 ∧ g = 0 ∧ e = -1) ∨ (∃ s j f, s < E.length ∧ p = -1 ∧ w = o3 s ∧ g = o3 j ∧ j < (E.getD s d5).2.2.1 ∧ e = o3 f ∧ (f = (E.getD s d5).1 ∨ f = (E.getD s d5).2.1))
def okC (m : Nat) (E : List (Nat × Nat × Nat × Nat × Nat)) (C : Cw) : Prop := C.1 ≤ 8 ∧ C.2.1 ≤ 9999 ∧ ∀ k, k < C.1 → okT m E (C.2.2.1 k) (C.2.2.2.1 k) (C.2.2.2.2.1 k) (C.2.2.2.2.2.1 k) ∧ 0 ≤ (C.2.2.2.2.2.2 k).toInt ∧ (C.2.2.2.2.2.2 k).toInt ≤ 4655851200 * C.2.1
def okD (m : Nat) (E : List (Nat × Nat × Nat × Nat × Nat)) (C : Cw) : Prop := C.1 ≤ 8 ∧ C.2.1 ≤ 10199 ∧ ∀ k, k < C.1 → okT m E (C.2.2.1 k) (C.2.2.2.1 k) (C.2.2.2.2.1 k) (C.2.2.2.2.2.1 k) ∧ 0 ≤ (C.2.2.2.2.2.2 k).toInt ∧ (C.2.2.2.2.2.2 k).toInt ≤ 4655851200 * C.2.1
theorem okD_of {m : Nat} {E : List (Nat × Nat × Nat × Nat × Nat)} {C : Cw} (h : okC m E C) : okD m E C := ⟨h.1, by have := h.2.1; omega, h.2.2⟩
theorem okC_of {m : Nat} {E : List (Nat × Nat × Nat × Nat × Nat)} {C : Cw} (h : okD m E C) (h9 : C.2.1 ≤ 9999) : okC m E C := ⟨h.1, h9, h.2.2⟩
/-! letters: how many, from, to, sent -/
abbrev Po : Type := Nat × (Nat → Nat) × (Nat → Nat) × (Nat → Nat)
def poC (S : fS) (b : Nat) (D : Mx) (P : Po) : Prop := S.1 b 4 = o3 P.1 ∧ ∀ k, k < P.1 → S.1 (b + 1) k = o3 (P.2.1 k) ∧ S.1 (b + 2) k = o3 (P.2.2.1 k) ∧ S.1 (b + 3) k = o3 (P.2.2.2 k) ∧ S.1 (b + 4) k = o3 (P.2.2.2 k + D (P.2.1 k) (P.2.2.1 k))
def poM (I : Nat → Int32) (P : Po) : Prop := I 4 = o3 P.1 ∧ ∀ k, k < P.1 → I (122 + 3 * k) = o3 (P.2.1 k) ∧ I (122 + 3 * k + 1) = o3 (P.2.2.1 k) ∧ I (122 + 3 * k + 2) = o3 (P.2.2.2 k)
def okP (m : Nat) (D : Mx) (P : Po) : Prop := P.1 ≤ 12 ∧ ∀ k, k < P.1 → P.2.1 k < m ∧ P.2.2.1 k < m ∧ P.2.2.2 k ≤ 9999 ∧ D (P.2.1 k) (P.2.2.1 k) < 99999
/-! a scene -/
abbrev Sn : Type := List (Nat × Nat) × List (Nat × Nat × Nat × Nat × Nat) × Cw × Po
def rWm (S : fS) (r m : Nat) (w : Mx) : Prop := ∀ a b, a < m → b < m → S.1 r (10 * a + b) = cwv (w a b)
def rHm (S : fS) (m : Nat) (w : Mx) : Prop := ∀ a b, a < m → b < m → S.2 161 (10 * a + b) = o6 (w a b)
def scC (S : fS) (b : Nat) (s : Sn) : Prop := twC S (b + 1) s.1 s.2.1 ∧ rWm S (b + 7) s.1.length (dst s.2.1) ∧ cwC S (b + 8) s.2.2.1 ∧ poC S (b + 14) (dst s.2.1) s.2.2.2 ∧ 0 ≤ (S.1 b 3).toInt
def scM (I : Nat → Int32) (A : Nat → Int64) (s : Sn) : Prop := twM I s.1 s.2.1 ∧ cwM I A s.2.2.1 ∧ poM I s.2.2.2 ∧ 0 ≤ (I 5).toInt
def okN (s : Sn) : Prop := s.1.length ≤ 10 ∧ s.2.1.length ≤ 12 ∧ (∀ q ∈ s.1, okF q) ∧ (∀ q ∈ s.2.1, okS s.1.length q) ∧ okC s.1.length s.2.1 s.2.2.1 ∧ okP s.1.length (dst s.2.1) s.2.2.2
def sn0 (B : TB) : Sn := (B.1, B.2.1, cw0 B.2.2, (0, fun _ => 0, fun _ => 0, fun _ => 0))
theorem okN_0 {B : TB} (h : okB B) : okN (sn0 B) := by
  obtain ⟨b1, b2, b3, b4, b5, b6⟩ := h
  refine ⟨b1, b2, b4, b5, ⟨b3, Nat.zero_le _, fun k hk => ⟨Or.inl ⟨B.2.2.getD k 0, b6 _ (gd_mem hk), rfl, rfl, rfl, rfl⟩, ?_, ?_⟩⟩, ⟨Nat.zero_le _, fun k hk => absurd hk (Nat.not_lt_zero _)⟩⟩
  · show 0 ≤ (0 : Int64).toInt
    decide
  · show (0 : Int64).toInt ≤ 4655851200 * ((0 : Nat) : Int)
    decide
end
