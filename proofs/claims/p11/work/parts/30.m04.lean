section
/-! the class's rule() -/
def wU (a k : Nat) : Prop := (a = 1 ∧ 1 ≤ k ∧ k ≤ 4) ∨ (38 ≤ a ∧ a ≤ 42)
theorem gA23_o {r : Nat} (h : r < 6) : gA23 (o3 r) = some (127 + 3 * r) := by
  unfold gA23
  rw [if_neg (ix_ok h (by omega)), o3_nat (by omega)]
theorem c_rule {S : fS} {n r : Nat} (hn : S.1 1 1 = o3 n) (hl : n ≤ 400) (hr : S.1 0 10 = o3 r) (h6 : r ≤ 6) : ∃ Y, f_X10_rule S = some (if r = 6 then -1 else if (ru0 (S.1 2) n).1 = 0 then o3 r else -2 - o3 (ru0 (S.1 2) n).1, Y) ∧ (r = 6 → Y = S) ∧ (r < 6 → Y.1 1 1 = 0 ∧ (∀ a k, ¬ wU a k → ¬ (a = 0 ∧ k = 10) → ¬ (a = 127 + 3 * r ∨ a = 128 + 3 * r) → Y.1 a k = S.1 a k) ∧ Y.2 = S.2 ∧ (¬ (ru0 (S.1 2) n).1 = 0 → ∀ a k, ¬ wU a k → Y.1 a k = S.1 a k) ∧ ((ru0 (S.1 2) n).1 = 0 → Y.1 0 10 = o3 (r + 1) ∧ cdC Y (127 + 3 * r) (ccode (ru0 (S.1 2) n).2))) := by
  unfold f_X10_rule
  rw [hr]
  by_cases hr6 : r = 6
  · rw [if_neg (show ¬ o3 _ < (6 : Int32) from fun q => by have := (o3_lt (b := 6) (by omega) (by omega)).mp q; omega), if_pos hr6]
    exact ⟨S, rfl, fun _ => rfl, fun q => by omega⟩
  · rw [if_pos (show o3 _ < (6 : Int32) from (o3_lt (b := 6) (by omega) (by omega)).mpr (by omega)), if_neg hr6]
    obtain ⟨Y1, e1, y1, y2⟩ := c_rread hn hl
    have hF := fr_f_X5_read e1
    rw [e1, bd_some, bd_some]
    dsimp only
    have hF1 : ∀ a k, ¬ wU a k → (pI Y1 1 1 0).1 a k = S.1 a k := fun a k h => by
      have hk : ¬ (a = 1 ∧ k = 1) := fun q => h (Or.inl (by omega))
      rw [pI_ne hk]
      refine hF.1 a k (fun q => h ?_)
      unfold w1_f_X5_read at q
      unfold wU
      omega
    have hF2 : (pI Y1 1 1 0).2 = S.2 := by
      funext a
      funext k
      refine hF.2 a k (fun q => ?_)
      unfold w2_f_X5_read at q
      exact q
    by_cases hz : (ru0 (S.1 2) n).1 = 0
    · obtain ⟨d1, d2, d3⟩ := y1 hz
      rw [if_pos hz, if_pos hz, if_neg (show ¬ (1 : Int32) = 0 by decide)]
      generalize hX : pI Y1 1 1 0 = X at hF1 hF2
      have hX1 : X.1 1 1 = 0 := by rw [← hX, pI_eq]
      have xe : ∀ a k, a ≠ 1 → X.1 a k = Y1.1 a k := fun a k h => by rw [← hX, pI_ne (by omega)]
      rw [hF1 0 10 (by unfold wU; omega), hr, gA23_o (by omega), bd_some]
      unfold f_X4_copyFrom
      rw [bd_some, bd_some, bd_some, bd_some, cI_ne (x := 40) (by omega), pI_ne (a := 127 + 3 * r) (b := 0) (j := 10) (by omega), cI_ne (x := 0) (by omega), hF1 0 10 (by unfold wU; omega), hr, o3_s, pI_eq, show (1 : Int32) = o3 1 from rfl, o3_sub (by omega), show r + 1 - 1 = r by omega]
      refine ⟨_, rfl, fun q => absurd q hr6, fun _ => ⟨?_, fun a k h1 h2 h3 => ?_, hF2, fun q => absurd hz q, fun _ => ⟨pI_eq, ?_, d2, fun k hk => ?_⟩⟩⟩
      · rw [pI_ne (by omega), pI_ne (by omega), cI_ne (by omega)]; exact hX1
      · rw [pI_ne h2, pI_ne (by omega), cI_ne (by omega)]; exact hF1 a k h1
      · rw [pI_ne (by omega), pI_eq, xe 40 2 (by omega)]; exact d1
      · rw [pI_ne (by omega), pI_ne (by omega), cI_eq (by omega), xe (40 + 1) k (by omega)]; exact d3 k hk
    · rw [if_neg hz, if_neg hz, if_pos (show (0 : Int32) = 0 from rfl), pI_ne (by omega), y2 hz]
      exact ⟨pI Y1 1 1 0, rfl, fun q => absurd q hr6, fun _ => ⟨pI_eq, fun a k h1 _ _ => hF1 a k h1, hF2, fun _ => hF1, fun q => absurd q hz⟩⟩
end
section
/-! a sign held, or written at once: the same to what stands behind a value -/
theorem brk_c {s : Nat} {H : List Nat} (h : s ≠ 16) : brk (s :: H) = brk H := by
  show brk H + _ = _
  rw [if_neg h]
  rfl
theorem stO_c {b s : Nat} {H : List Nat} (h : b ≤ bnd s) : stO b (s :: H) = (s, 0) :: stO b H := by
  show (if b ≤ bnd s then _ else _) = _
  rw [if_pos h]
theorem stR_c {b s : Nat} {H : List Nat} (h : b ≤ bnd s) : stR b (s :: H) = stR b H := by
  show (if b ≤ bnd s then _ else _) = _
  rw [if_pos h]
theorem clo_c {t : Nat → Int32} {n f i s : Nat} {H : List Nat} (h : s ≠ 16) (h1 : 1 ≤ bnd s) : (clo t n f i (s :: H)).2.1 = (clo t n f i H).2.1 ∧ (((clo t n f i (s :: H)).1 = (s, 0) :: (clo t n f i H).1 ∧ (clo t n f i (s :: H)).2.2 = (clo t n f i H).2.2) ∨ ((clo t n f i (s :: H)).1 = [] ∧ (clo t n f i H).1 = [] ∧ (clo t n f i (s :: H)).2.2 = s :: (clo t n f i H).2.2)) := by
  cases f with
  | zero => exact ⟨rfl, Or.inr ⟨rfl, rfl, rfl⟩⟩
  | succ f =>
    rw [clo_s, clo_s, brk_c h]
    by_cases hb : 0 < brk H
    · rw [if_pos hb, if_pos hb]
      by_cases hc : sk t n i < n ∧ t (sk t n i) = 93
      · rw [if_pos hc, if_pos hc, stO_c h1, stR_c h1]
        exact ⟨rfl, Or.inl ⟨rfl, rfl⟩⟩
      · rw [if_neg hc, if_neg hc]
        exact ⟨rfl, Or.inr ⟨rfl, rfl, rfl⟩⟩
    · rw [if_neg hb, if_neg hb]
      exact ⟨rfl, Or.inr ⟨rfl, rfl, rfl⟩⟩
theorem bnd_jn : ∀ x, x = 5 ∨ x = 6 ∨ x = 0 → bnd x ≤ 2 := by
  intro x h
  rcases h with rfl | rfl | rfl <;> decide
theorem jn_or (t : Nat → Int32) (n j : Nat) : jn t n j = 5 ∨ jn t n j = 6 ∨ jn t n j = 0 := by
  unfold jn
  split
  · exact Or.inl rfl
  · split
    · exact Or.inr (Or.inl rfl)
    · exact Or.inr (Or.inr rfl)
theorem aft_hold {t : Nat → Int32} {n m i s : Nat} {cp : Bool} {c : List (Nat × Nat)} {H : List Nat} (h : s ≠ 16) (h4 : 4 ≤ bnd s) (hr : rk t n (sk t n i) = 0 ∨ bnd (rk t n (sk t n i)) ≤ bnd s) : aft t n cp m c (s :: H) i = aft t n cp m (c ++ [(s, 0)]) H i := by
  unfold aft
  by_cases k1 : rk t n (sk t n i) = 0
  · rw [if_pos k1, if_pos k1]
    by_cases k2 : cp = true
    · rw [if_pos k2, if_pos k2, brk_c h]
      obtain ⟨e1, e2⟩ := clo_c (t := t) (n := n) (f := brk H + 1) (i := sk t n i) (H := H) h (by omega)
      generalize clo t n (brk H + 1) (sk t n i) (s :: H) = Q at e1 e2
      generalize clo t n (brk H + 1) (sk t n i) H = P at e1 e2
      rw [e1]
      have hj : bnd (jn t n (sk t n P.2.1)) ≤ 2 := bnd_jn _ (jn_or t n _)
      have hk : brk Q.2.2 = brk P.2.2 := by
        rcases e2 with ⟨_, q⟩ | ⟨_, _, q⟩
        · rw [q]
        · rw [q, brk_c h]
      have hO : ∀ b, b ≤ 2 → 0 < b ∨ True → c ++ Q.1 ++ stO b Q.2.2 = c ++ [(s, 0)] ++ P.1 ++ stO b P.2.2 ∧ stR b Q.2.2 = stR b P.2.2 := by
        intro b hb _
        rcases e2 with ⟨p, q⟩ | ⟨p, p', q⟩
        · rw [p, q]
          refine ⟨?_, rfl⟩
          rw [List.append_assoc c [(s, 0)] P.1]
          rfl
        · rw [p, p', q, stO_c (by omega), stR_c (by omega), List.append_nil, List.append_nil, List.append_assoc]
          exact ⟨rfl, rfl⟩
      rw [hk, (hO 1 (by omega) (Or.inr trivial)).1, (hO _ hj (Or.inr trivial)).1, (hO _ hj (Or.inr trivial)).2]
    · rw [if_neg k2, if_neg k2, stO_c h4, stR_c h4, List.append_assoc]
      rfl
  · rw [if_neg k1, if_neg k1]
    have hb : bnd (rk t n (sk t n i)) ≤ bnd s := by
      rcases hr with q | q
      · exact absurd q k1
      · exact q
    rw [stO_c hb, stR_c hb, List.append_assoc]
    rfl
end
section
/-! the reference: a word of the rules, a value -/
section MV
variable {S : fS} {n : Nat} {w u : Int32}
theorem mv_name (hn : S.1 145 1 = o3 n) (hl : n ≤ 400) {j : Nat} (hj : j ≤ n) (hs : sk (S.1 146) n j = j) : f_X11_wordHere (mS S (o3 j) w u) = some (if nmI (S.1 146) n j < 8 then o3 (nmI (S.1 146) n j) else -1, mS S (o3 j) w u) := by
  unfold f_X11_wordHere nmI
  rw [mr_word hn hl 7237495 6 (by decide) (by decide) hj, bd_some, hs]
  by_cases h0 : wat (S.1 146) n (mm_sb.getD 6 []) j = true
  · simp only [if_pos h0]; rw [if_neg (by decide), if_pos (by omega)]; rfl
  simp only [if_neg h0]
  rw [if_pos trivial, mr_word hn hl 499967946343 7 (by decide) (by decide) hj, bd_some, hs]
  by_cases h1 : wat (S.1 146) n (mm_sb.getD 7 []) j = true
  · simp only [if_pos h1]; rw [if_neg (by decide), if_pos (by omega)]; rfl
  simp only [if_neg h1]
  rw [if_pos trivial, mr_word hn hl 439905906546 8 (by decide) (by decide) hj, bd_some, hs]
  by_cases h2 : wat (S.1 146) n (mm_sb.getD 8 []) j = true
  · simp only [if_pos h2]; rw [if_neg (by decide), if_pos (by omega)]; rfl
  simp only [if_neg h2]
  rw [if_pos trivial, mr_word hn hl 6383461 9 (by decide) (by decide) hj, bd_some, hs]
  by_cases h3 : wat (S.1 146) n (mm_sb.getD 9 []) j = true
  · simp only [if_pos h3]; rw [if_neg (by decide), if_pos (by omega)]; rfl
  simp only [if_neg h3]
  rw [if_pos trivial, mr_word hn hl 1751478885 10 (by decide) (by decide) hj, bd_some, hs]
  by_cases h4 : wat (S.1 146) n (mm_sb.getD 10 []) j = true
  · simp only [if_pos h4]; rw [if_neg (by decide), if_pos (by omega)]; rfl
  simp only [if_neg h4]
  rw [if_pos trivial, mr_word hn hl 1918989413 11 (by decide) (by decide) hj, bd_some, hs]
  by_cases h5 : wat (S.1 146) n (mm_sb.getD 11 []) j = true
  · simp only [if_pos h5]; rw [if_neg (by decide), if_pos (by omega)]; rfl
  simp only [if_neg h5]
  rw [if_pos trivial, mr_word hn hl 122511331521396 12 (by decide) (by decide) hj, bd_some, hs]
  by_cases h6 : wat (S.1 146) n (mm_sb.getD 12 []) j = true
  · simp only [if_pos h6]; rw [if_neg (by decide), if_pos (by omega)]; rfl
  simp only [if_neg h6]
  rw [if_pos trivial, mr_word hn hl 8750341718045717364 13 (by decide) (by decide) hj, bd_some, hs]
  by_cases h7 : wat (S.1 146) n (mm_sb.getD 13 []) j = true
  · simp only [if_pos h7]; rw [if_neg (by decide), if_pos (by omega)]; rfl
  simp only [if_neg h7]
  rw [if_pos trivial, if_neg (by omega)]
end MV
end
section
/-! the reference: what a rule's text has written so far -/
def mp : Nat → Nat
  | 2 => 0
  | 3 => 1
  | 7 => 2
  | 8 => 3
  | 9 => 4
  | 10 => 5
  | 11 => 6
  | 12 => 7
  | 13 => 8
  | 14 => 9
  | 15 => 10
  | 4 => 11
  | 5 => 12
  | 6 => 13
  | _ => 14
def sgM (q : Nat × Nat) : Int32 := o3 (mp q.1 + 16 * q.2)
/-- text, made, written -/
def RQ (S : fS) (x m : Nat) (c : List (Nat × Nat)) : Prop := S.1 145 16 = o3 x ∧ S.1 145 17 = o3 m ∧ S.1 148 x = o3 c.length ∧ ∀ k, k < c.length → S.1 147 (400 * x + k) = sgM (c.getD k (0, 0))
def wMr (x a k : Nat) : Prop := (a = 145 ∧ (k = 17 ∨ k = 18 ∨ k = 21)) ∨ (a = 148 ∧ k = x) ∨ (a = 147 ∧ 400 * x ≤ k ∧ k < 400 * x + 400) ∨ a = 154
def eMr (x : Nat) (S T : fS) : Prop := (∀ a k, ¬ wMr x a k → T.1 a k = S.1 a k) ∧ T.2 = S.2
theorem eMr.rf {x : Nat} {S : fS} : eMr x S S := ⟨fun _ _ _ => rfl, rfl⟩
theorem eMr.tr {x : Nat} {S T U : fS} (h : eMr x S T) (g : eMr x T U) : eMr x S U := ⟨fun a k n => (g.1 a k n).trans (h.1 a k n), g.2.trans h.2⟩
theorem eMr_pI {x : Nat} {S : fS} {a k : Nat} {y : Int32} (h : wMr x a k) : eMr x S (pI S a k y) := ⟨fun b j n => by
  rw [pI_get]
  by_cases q : b = a ∧ j = k
  · exact absurd (q.1 ▸ q.2 ▸ h) n
  · rw [if_neg q], rfl⟩
theorem gd_r {α : Type} {c : List α} {q d : α} : (c ++ [q]).getD c.length d = q := by
  induction c with
  | nil => rfl
  | cons a c ih => exact ih
theorem gd_l {α : Type} {c e : List α} {d : α} {k : Nat} (h : k < c.length) : (c ++ e).getD k d = c.getD k d := by
  induction c generalizing k with
  | nil => exact absurd h (Nat.not_lt_zero _)
  | cons a c ih =>
    cases k with
    | zero => rfl
    | succ k => exact ih (Nat.lt_of_succ_lt_succ h)
theorem RQ_c {S : fS} {x m : Nat} {c : List (Nat × Nat)} (hR : RQ S x m c) {q : Nat × Nat} : RQ (pI (pI S 147 (400 * x + c.length) (sgM q)) 148 x (o3 (c.length + 1))) x m (c ++ [q]) := by
  obtain ⟨r1, r2, r3, r4⟩ := hR
  refine ⟨?_, ?_, ?_, fun k hk => ?_⟩
  · rw [pI_ne (by omega), pI_ne (by omega)]; exact r1
  · rw [pI_ne (by omega), pI_ne (by omega)]; exact r2
  · rw [pI_eq, List.length_append]; rfl
  · rw [List.length_append] at hk
    have hk' : k < c.length + 1 := hk
    rw [pI_ne (by omega)]
    by_cases e : k = c.length
    · subst e
      rw [pI_eq, gd_r]
    · rw [pI_ne (by omega), gd_l (by omega)]
      exact r4 k (by omega)
theorem RQ_17 {S : fS} {x m m' : Nat} {c : List (Nat × Nat)} (hR : RQ S x m c) : RQ (pI S 145 17 (o3 m')) x m' c := by
  obtain ⟨r1, r2, r3, r4⟩ := hR
  refine ⟨?_, ?_, ?_, fun k hk => ?_⟩
  · rw [pI_ne (by omega)]; exact r1
  · rw [pI_eq]
  · rw [pI_ne (by omega)]; exact r3
  · rw [pI_ne (by omega)]; exact r4 k hk
section MP
variable {S : fS} {x m : Nat} {c : List (Nat × Nat)} {i w u : Int32}
theorem mp_puts (hR : RQ S x m c) (hx : x < 6) (hc : c.length < 400) {s v : Nat} {a b : Int32} (ha : a = o3 (mp s)) (hb : b = o3 v) : ∃ T, f_X11_puts a b (mS S i w u) = some (mS T i w u) ∧ RQ T x m (c ++ [(s, v)]) ∧ eMr x S T := by
  refine ⟨pI (pI S 147 (400 * x + c.length) (sgM (s, v))) 148 x (o3 (c.length + 1)), ?_, RQ_c hR, (eMr_pI (by unfold wMr; omega)).tr (eMr_pI (by unfold wMr; omega))⟩
  obtain ⟨r1, r2, r3, r4⟩ := hR
  unfold f_X11_puts
  rw [mS_ne (by omega), r1, gI_o (by omega) (by omega), bd_some, mS_ne (by omega), r3, ha, hb, show (400 : Int32) = o3 400 from rfl, show (16 : Int32) = o3 16 from rfl, o3_mul, o3_mul, o3_add, o3_add, sI_o (by omega) (by omega), bd_some, mS_p (by omega), mS_ne (by omega), pI_ne (by omega), r1, gI_o (by omega) (by omega), bd_some, mS_ne (by omega), pI_ne (by omega), r3, o3_s, sI_o (by omega) (by omega), bd_some, mS_p (by omega)]
  rfl
theorem mp_makes (hR : RQ S x m c) (hm : m ≤ 60) {j : Nat} : f_X11_makes (o3 j) (mS S i 0 u) = some (if 60 ≤ m then (0, mS S i (o3 (1 + 8 * j + 3)) u) else (1, mS (pI S 145 17 (o3 (m + 1))) i 0 u)) := by
  unfold f_X11_makes
  rw [mS_ne (by omega), hR.2.1]
  by_cases h : 60 ≤ m
  · have e : m = 60 := by omega
    rw [if_pos (show o3 m = (60 : Int32) by rw [e]; rfl), if_pos h, mt_fails mS_14, bd_some, mS_wr, show (8 : Int32) = o3 8 from rfl, show (1 : Int32) = o3 1 from rfl, show (3 : Int32) = o3 3 from rfl, o3_mul, o3_add, o3_add]
    rfl
  · rw [if_neg (show ¬ o3 m = (60 : Int32) from fun q => by have := (o3_inj (b := 60) (by omega) (by omega)).mp q; omega), if_neg h, bd_some, o3_s, mS_p (by omega)]
end MP
end
section
theorem pI_row {S : fS} {a k b : Nat} {y : Int32} (h : b ≠ a) : (pI S a k y).1 b = S.1 b := by
  funext j
  exact pI_ne (fun q => h q.1)
section MV2
variable {S : fS} {x m n : Nat} {c : List (Nat × Nat)} {u : Int32}
theorem mv_value (hn : S.1 145 1 = o3 n) (hl : n ≤ 400) (hR : RQ S x m c) (hx : x < 6) (hm : m ≤ 60) {i : Nat} (hi : i ≤ n) (hc : vlF (S.1 146) n m (sk (S.1 146) n i) = 0 → c.length < 400) : ∃ T i' u', f_X11_value (mS S (o3 i) 0 u) = some (if vlF (S.1 146) n m (sk (S.1 146) n i) = 0 then (1, mS T (o3 (vlP (S.1 146) n (sk (S.1 146) n i))) 0 u') else (0, mS T i' (o3 (vlF (S.1 146) n m (sk (S.1 146) n i))) u')) ∧ eMr x S T ∧ (vlF (S.1 146) n m (sk (S.1 146) n i) = 0 → RQ T x (m + 1) (c ++ [vlC (S.1 146) n (sk (S.1 146) n i)])) := by
  have hj := sk_le (t := S.1 146) hi
  have hs := sk_id (t := S.1 146) (n := n) (i := i)
  unfold f_X11_value
  rw [mt_see hn hl hi, bd_some]
  dsimp only
  generalize sk (S.1 146) n i = j at hj hs hc
  rw [mS_13, mt_digit hl (mS_1.trans hn) (by omega), bd_some, mS_t]
  have hn1 : (pI S 145 17 (o3 (m + 1))).1 145 1 = o3 n := by rw [pI_ne (by omega)]; exact hn
  have ht1 : (pI S 145 17 (o3 (m + 1))).1 146 = S.1 146 := pI_row (by omega)
  have e17 : eMr x S (pI S 145 17 (o3 (m + 1))) := eMr_pI (by unfold wMr; omega)
  unfold vlF vlP vlC at *
  by_cases hd : 0 < dl (S.1 146) n j
  · simp only [if_pos hd] at hc ⊢
    rw [if_neg (by decide)]
    obtain ⟨u', e⟩ := mt_num (u := u) hn hl (lo := 0) (hi := 99999) hj
    rw [show (0 : Int32).toInt = 0 from rfl, show (99999 : Int32).toInt = 99999 from rfl] at e
    rw [e, bd_some]
    by_cases hf : nmf (S.1 146) n j 0 99999 = 0
    · simp only [if_pos hf] at hc ⊢
      rw [if_neg (by decide), mp_makes hR hm, bd_some]
      by_cases h6 : 60 ≤ m
      · simp only [if_pos h6] at hc ⊢
        rw [if_pos trivial]
        exact ⟨S, o3 (nmp (S.1 146) n j), o3 (nmv (S.1 146) n j), by rw [if_neg (show ¬ 1 + 8 * j + 3 = 0 by omega)], eMr.rf, fun q => by omega⟩
      · simp only [if_neg h6] at hc ⊢
        rw [if_neg (by decide), mS_15]
        obtain ⟨T, t1, t2, t3⟩ := mp_puts (i := o3 (nmp (S.1 146) n j)) (w := 0) (u := o3 (nmv (S.1 146) n j)) (RQ_17 (m' := m + 1) hR) hx (hc trivial) (s := 2) (v := nmv (S.1 146) n j) (a := 0) (b := o3 (nmv (S.1 146) n j)) rfl rfl
        rw [t1, bd_some]
        exact ⟨T, 0, o3 (nmv (S.1 146) n j), by rw [if_pos trivial], e17.tr t3, fun _ => t2⟩
    · simp only [if_neg hf]
      rw [if_pos trivial]
      exact ⟨S, o3 (nmp (S.1 146) n j), u', rfl, eMr.rf, fun q => absurd q hf⟩
  · simp only [if_neg hd] at hc ⊢
    rw [if_pos trivial, mv_name hn hl hj hs, bd_some]
    by_cases h8 : nmI (S.1 146) n j < 8
    · simp only [if_pos h8] at hc ⊢
      rw [if_pos (show (0 : Int32) ≤ o3 _ from (o3_le (a := 0) (by omega) (by omega)).mpr (by omega)), mp_makes hR hm, bd_some]
      by_cases h6 : 60 ≤ m
      · simp only [if_pos h6] at hc ⊢
        rw [if_pos trivial]
        exact ⟨S, o3 j, u, by rw [if_neg (show ¬ 1 + 8 * j + 3 = 0 by omega)], eMr.rf, fun q => by omega⟩
      · simp only [if_neg h6] at hc ⊢
        have hll : ll (S.1 146) n j = nmL (nmI (S.1 146) n j) := ((wat_ll _ _ (mw_L _ (by omega))).mp (nmI_wat h8)).1
        rw [if_neg (by decide), mt_pass hn1 hl hj, bd_some, ht1, hll]
        obtain ⟨T, t1, t2, t3⟩ := mp_puts (i := o3 (j + nmL (nmI (S.1 146) n j))) (w := 0) (u := u) (RQ_17 (m' := m + 1) hR) hx (hc trivial) (s := 3) (v := nmI (S.1 146) n j) (a := 1) (b := o3 (nmI (S.1 146) n j)) rfl rfl
        rw [t1, bd_some]
        exact ⟨T, 0, u, by rw [if_pos trivial], e17.tr t3, fun _ => t2⟩
    · simp only [if_neg h8]
      rw [if_neg (by decide), mt_fails mS_14, bd_some, mS_wr, show (8 : Int32) = o3 8 from rfl, show (1 : Int32) = o3 1 from rfl, o3_mul, o3_add]
      refine ⟨S, o3 j, u, ?_, eMr.rf, fun q => by omega⟩
      rw [show o3 (1 + 8 * j) + (0 : Int32) = o3 (1 + 8 * j) from Int32.add_zero _, if_neg (show ¬ 1 + 8 * j = 0 by omega)]
      rfl
end MV2
end
section
/-! the reference: one turn of term() and of sum() -/
section MT1
variable {S : fS} {n : Nat} {w u : Int32}
theorem mt_term1 (hn : S.1 145 1 = o3 n) (hl : n ≤ 400) (hb : ∀ k, byt (S.1 146 k)) {K : fS → Option (Int32 × fS)} {nn i : Nat} (hi : i ≤ n) : lp_X11_term_9 K (nn + 1) (mS S (o3 i) w u) = if rk (S.1 146) n (sk (S.1 146) n i) = 9 ∨ rk (S.1 146) n (sk (S.1 146) n i) = 10 then ((f_X11_value (mS S (o3 (sk (S.1 146) n i + 1)) w u)).bind fun q => if q.1 = (0 : Int32) then some ((0 : Int32), q.2) else (f_X11_puts (if rk (S.1 146) n (sk (S.1 146) n i) = 9 then 4 else 5) 0 q.2).bind fun y => lp_X11_term_9 K nn y) else K (mS S (o3 (sk (S.1 146) n i)) w u) := by
  have hj := sk_le (t := S.1 146) hi
  have hs := sk_id (t := S.1 146) (n := n) (i := i)
  rw [lp_X11_term_9.eq_2, mt_see hn hl hi, bd_some]
  dsimp only
  generalize sk (S.1 146) n i = j at hj hs
  unfold rk
  by_cases h1 : j < n ∧ S.1 146 j = 42
  · have n1 : ¬ (j < n ∧ S.1 146 j = 43) := fun q => absurd (h1.2.symm.trans q.2) (by decide)
    have n2 : ¬ (j < n ∧ S.1 146 j = 45) := fun q => absurd (h1.2.symm.trans q.2) (by decide)
    rw [if_pos ((seen_eq hb (by decide) (by decide)).mpr h1), mS_13, gI_o (by omega) (by omega), bd_some, mS_t, if_pos h1.2, bd_some, mS_nx, o3_s, if_neg n1, if_neg n2, if_pos h1, if_pos (Or.inl rfl), if_pos rfl]
  · rw [if_neg (fun q => h1 ((seen_eq hb (by decide) (by decide)).mp q)), mt_see hn hl hj, bd_some, hs]
    dsimp only
    by_cases h2 : j < n ∧ S.1 146 j = 47
    · have n1 : ¬ (j < n ∧ S.1 146 j = 43) := fun q => absurd (h2.2.symm.trans q.2) (by decide)
      have n2 : ¬ (j < n ∧ S.1 146 j = 45) := fun q => absurd (h2.2.symm.trans q.2) (by decide)
      rw [if_pos ((seen_eq hb (by decide) (by decide)).mpr h2), mS_13, gI_o (by omega) (by omega), bd_some, mS_t, if_neg (fun q => h1 ⟨h2.1, q⟩), bd_some, mS_nx, o3_s, if_neg n1, if_neg n2, if_neg h1, if_pos h2, if_pos (Or.inr rfl), if_neg (by decide)]
    · rw [if_neg (fun q => h2 ((seen_eq hb (by decide) (by decide)).mp q)), if_neg h1, if_neg h2]
      rw [if_neg]
      by_cases n1 : j < n ∧ S.1 146 j = 43
      · rw [if_pos n1]; decide
      · rw [if_neg n1]
        by_cases n2 : j < n ∧ S.1 146 j = 45
        · rw [if_pos n2]; decide
        · rw [if_neg n2]; decide
end MT1
end
section
section MS1
variable {S : fS} {n : Nat} {w u : Int32}
theorem mt_sum1 (hn : S.1 145 1 = o3 n) (hl : n ≤ 400) (hb : ∀ k, byt (S.1 146 k)) {K : fS → Option (Int32 × fS)} {nn i : Nat} (hi : i ≤ n) : lp_X11_sum_9 K (nn + 1) (mS S (o3 i) w u) = if rk (S.1 146) n (sk (S.1 146) n i) = 7 ∨ rk (S.1 146) n (sk (S.1 146) n i) = 8 then ((f_X11_term (mS S (o3 (sk (S.1 146) n i + 1)) w u)).bind fun q => if q.1 = (0 : Int32) then some ((0 : Int32), q.2) else (f_X11_puts (if rk (S.1 146) n (sk (S.1 146) n i) = 7 then 2 else 3) 0 q.2).bind fun y => lp_X11_sum_9 K nn y) else K (mS S (o3 (sk (S.1 146) n i)) w u) := by
  have hj := sk_le (t := S.1 146) hi
  have hs := sk_id (t := S.1 146) (n := n) (i := i)
  rw [lp_X11_sum_9.eq_2, mt_see hn hl hi, bd_some]
  dsimp only
  generalize sk (S.1 146) n i = j at hj hs
  unfold rk
  by_cases h1 : j < n ∧ S.1 146 j = 43
  · rw [if_pos ((seen_eq hb (by decide) (by decide)).mpr h1), mS_13, gI_o (by omega) (by omega), bd_some, mS_t, if_pos h1.2, bd_some, mS_nx, o3_s, if_pos h1, if_pos (Or.inl rfl), if_pos rfl]
  · rw [if_neg (fun q => h1 ((seen_eq hb (by decide) (by decide)).mp q)), mt_see hn hl hj, bd_some, hs]
    dsimp only
    by_cases h2 : j < n ∧ S.1 146 j = 45
    · rw [if_pos ((seen_eq hb (by decide) (by decide)).mpr h2), mS_13, gI_o (by omega) (by omega), bd_some, mS_t, if_neg (fun q => h1 ⟨h2.1, q⟩), bd_some, mS_nx, o3_s, if_neg h1, if_pos h2, if_pos (Or.inr rfl), if_neg (by decide)]
    · rw [if_neg (fun q => h2 ((seen_eq hb (by decide) (by decide)).mp q)), if_neg h1, if_neg h2]
      rw [if_neg]
      by_cases n1 : j < n ∧ S.1 146 j = 42
      · rw [if_pos n1]; decide
      · rw [if_neg n1]
        by_cases n2 : j < n ∧ S.1 146 j = 47
        · rw [if_pos n2]; decide
        · rw [if_neg n2]; decide
end MS1
end
section
/-! the automaton without fuel -/
def jT (n : Nat) (x : TS) : Prop := elH x.2.2.2.2.1 ∧ dep x.2.2.2.2.1 ≤ 10 ∧ x.2.2.2.2.2 ≤ n
section RX
variable {t : Nat → Int32} {n : Nat}
theorem elH_pu {a b : Nat} {H : List Nat} (ha : 4 ≤ a ∧ a < 17) (h : elH H) : elH (a :: stR b H) := fun y hy => by
  rcases List.mem_cons.mp hy with rfl | hy
  · exact ha
  · exact h y (stR_mem H hy)
theorem dep_st {a b : Nat} {H : List Nat} (ha : a ≠ 4 ∧ a ≠ 16) (h : dep H ≤ 10) : dep (a :: stR b H) ≤ 10 := by
  rw [dep_pu ha]
  exact Nat.le_trans (stR_dep H) h
theorem aft_J {cp : Bool} {m i : Nat} {c : List (Nat × Nat)} {H : List Nat} {y : TS} (he : elH H) (hd : dep H ≤ 10) (hi : i ≤ n) (h : aft t n cp m c H i = .inr y) : jT n y ∧ i < y.2.2.2.2.2 := by
  have hj := sk_le (t := t) hi
  have hg := sk_ge (t := t) (n := n) (i := i)
  unfold aft at h
  generalize sk t n i = j at hj hg h
  by_cases hr : rk t n j = 0
  · rw [if_pos hr] at h
    by_cases hc : cp = true
    · rw [if_pos hc] at h
      obtain ⟨q1, q2, q3, q4, q5⟩ := clo_pr (n := n) (t := t) (brk H + 1) H j he (by omega) hj
      generalize clo t n (brk H + 1) j H = Q at h q1 q2 q3 q4 q5
      have hj2 := sk_le (t := t) q5
      have hg2 := sk_ge (t := t) (n := n) (i := Q.2.1)
      generalize sk t n Q.2.1 = e at h hj2 hg2
      by_cases hn : jn t n e = 0
      · rw [if_pos hn] at h
        split at h <;> exact nomatch h
      · rw [if_neg hn] at h
        obtain rfl := Sum.inr.inj h
        obtain ⟨k1, k2, k3⟩ := jn_cs hj2 hn
        exact ⟨⟨elH_pu (by omega) q1, dep_st (by omega) (by omega), k2⟩, by show i < e + jnL (jn t n e); omega⟩
    · rw [if_neg hc] at h
      by_cases hm : cm t n j = 0
      · rw [if_pos hm] at h; exact nomatch h
      · rw [if_neg hm] at h
        by_cases h6 : 60 ≤ m
        · rw [if_pos h6] at h; exact nomatch h
        · rw [if_neg h6] at h
          obtain rfl := Sum.inr.inj h
          obtain ⟨k1, k2, k3⟩ := cm_cs hm
          exact ⟨⟨elH_pu (by omega) he, dep_st (by omega) hd, k2⟩, by show i < j + cmL (cm t n j); omega⟩
  · rw [if_neg hr] at h
    obtain rfl := Sum.inr.inj h
    obtain ⟨k1, k2⟩ := rk_cs hr
    exact ⟨⟨elH_pu (by omega) he, dep_st (by omega) hd, by show j + 1 ≤ n; omega⟩, by show i < j + 1; omega⟩
theorem tval_J {cp : Bool} {m i : Nat} {c : List (Nat × Nat)} {H : List Nat} {y : TS} (he : elH H) (hd : dep H ≤ 10) (hi : i ≤ n) (h : tval t n cp m c H i = .inr y) : jT n y ∧ i < y.2.2.2.2.2 := by
  have hj := sk_le (t := t) hi
  have hg := sk_ge (t := t) (n := n) (i := i)
  unfold tval at h
  by_cases hv : vlF t n m (sk t n i) = 0
  · rw [if_pos hv] at h
    obtain ⟨v1, v2, v3⟩ := vl_gt hj sk_id hv
    obtain ⟨a, b⟩ := aft_J he hd v2 h
    exact ⟨a, by omega⟩
  · rw [if_neg hv] at h; exact nomatch h
theorem stp_J {x y : TS} (hx : jT n x) (h : stp t n x = .inr y) : jT n y ∧ x.2.2.2.2.2 < y.2.2.2.2.2 := by
  obtain ⟨due, cp, m, c, H, i⟩ := x
  obtain ⟨he, hd, hi⟩ := hx
  dsimp only at he hd hi ⊢
  unfold stp at h
  dsimp only at h
  by_cases hu : due = true
  · rw [if_pos hu] at h
    have hp := opn_pr (t := t) (n := n) (11 - dep H) i H hi hd
    generalize opn t n (11 - dep H) i H = Q at h hp
    by_cases hq : Q.1 = 0
    · rw [if_pos hq] at h
      obtain ⟨P, p1, p2, p3, p4, p5, p6⟩ := hp hq
      obtain ⟨a, b⟩ := tval_J (H := Q.2.2) (fun z hz => by
        rw [p1] at hz
        rcases List.mem_append.mp hz with hz | hz
        · have := p2 z hz; omega
        · exact he z hz) p3 p5 h
      exact ⟨a, by omega⟩
    · rw [if_neg hq] at h; exact nomatch h
  · rw [if_neg hu] at h
    exact tval_J he hd hi h
theorem run_F : ∀ F F' (x : TS), jT n x → n < x.2.2.2.2.2 + F → n < x.2.2.2.2.2 + F' → run t n F x = run t n F' x := by
  intro F
  induction F with
  | zero => intro F' x hx h; exact absurd hx.2.2 (by omega)
  | succ F ih =>
    intro F' x hx h h'
    obtain ⟨F', rfl⟩ : ∃ k, F' = k + 1 := ⟨F' - 1, by have := hx.2.2; omega⟩
    rw [run_s, run_s]
    cases hs : stp t n x with
    | inl r => rfl
    | inr y =>
      obtain ⟨a, b⟩ := stp_J hx hs
      exact ih F' y a (by omega) (by omega)
def RUN (t : Nat → Int32) (n : Nat) (x : TS) : TR := run t n (n + 1) x
def GO (t : Nat → Int32) (n : Nat) (y : TR ⊕ TS) : TR := match y with
  | .inl r => r
  | .inr y => RUN t n y
theorem RUN_s {x : TS} (hx : jT n x) : RUN t n x = GO t n (stp t n x) := by
  unfold RUN GO
  rw [run_s]
  cases hs : stp t n x with
  | inl r => rfl
  | inr y =>
    obtain ⟨a, b⟩ := stp_J hx hs
    exact run_F n (n + 1) y a (by omega) (by omega)
def AR (t : Nat → Int32) (n : Nat) (cp : Bool) (m : Nat) (c : List (Nat × Nat)) (H : List Nat) (i : Nat) : TR := GO t n (aft t n cp m c H i)
def VR (t : Nat → Int32) (n : Nat) (cp : Bool) (m : Nat) (c : List (Nat × Nat)) (H : List Nat) (i : Nat) : TR := GO t n (tval t n cp m c H i)
theorem RUN_V {cp : Bool} {m i : Nat} {c : List (Nat × Nat)} {H : List Nat} (he : elH H) (hd : dep H ≤ 10) (hi : i ≤ n) : RUN t n (false, cp, m, c, H, i) = VR t n cp m c H i := RUN_s (x := (false, cp, m, c, H, i)) ⟨he, hd, hi⟩
theorem VR_e {cp : Bool} {m i : Nat} {c : List (Nat × Nat)} {H : List Nat} : VR t n cp m c H i = if vlF t n m (sk t n i) = 0 then AR t n cp (m + 1) (c ++ [vlC t n (sk t n i)]) H (vlP t n (sk t n i)) else (vlF t n m (sk t n i), 0, 0, []) := by
  unfold VR tval
  by_cases h : vlF t n m (sk t n i) = 0
  · rw [if_pos h, if_pos h]; rfl
  · rw [if_neg h, if_neg h]; rfl
/-- what is held binds less tight than b -/
def tp (b : Nat) (H : List Nat) : Prop := stO b H = [] ∧ stR b H = H
theorem tp_c {b s : Nat} {H : List Nat} (h : bnd s < b) : tp b (s :: H) := by
  constructor
  · show (if b ≤ bnd s then _ else _) = _
    rw [if_neg (by omega)]
  · show (if b ≤ bnd s then _ else _) = _
    rw [if_neg (by omega)]
theorem tp_mo {b b' : Nat} {H : List Nat} (h : tp b H) (hb : b ≤ b') : tp b' H := by
  cases H with
  | nil => exact ⟨rfl, rfl⟩
  | cons s H =>
    refine tp_c (Nat.lt_of_not_le fun q => ?_)
    have := h.1
    rw [show stO b (s :: H) = if b ≤ bnd s then (s, 0) :: stO b H else [] from rfl, if_pos (by omega)] at this
    exact nomatch this
theorem AR_rk {cp : Bool} {m i r : Nat} {c : List (Nat × Nat)} {H : List Nat} (he : elH H) (hd : dep H ≤ 10) (hi : i ≤ n) (hr : rk t n (sk t n i) = r) (h0 : r ≠ 0) (ht : tp (bnd r) H) : AR t n cp m c H i = VR t n cp m c (r :: H) (sk t n i + 1) := by
  obtain ⟨k1, k2⟩ := rk_cs (t := t) (n := n) (j := sk t n i) (by omega)
  have e : aft t n cp m c H i = .inr (false, cp, m, c, r :: H, sk t n i + 1) := by
    unfold aft
    rw [if_neg (by omega), hr, ht.1, ht.2, List.append_nil]
  have el : elH (r :: H) := fun y hy => by
    rcases List.mem_cons.mp hy with rfl | hy
    · omega
    · exact he y hy
  unfold AR
  rw [e]
  exact RUN_V el (by rw [dep_pu (by omega)]; exact hd) (by omega)
theorem AR_hold {cp : Bool} {m i s : Nat} {c : List (Nat × Nat)} {H : List Nat} (h : s ≠ 16) (h4 : 4 ≤ bnd s) (hr : rk t n (sk t n i) = 0 ∨ bnd (rk t n (sk t n i)) ≤ bnd s) : AR t n cp m c (s :: H) i = AR t n cp m (c ++ [(s, 0)]) H i := by
  unfold AR
  rw [aft_hold h h4 hr]
end RX
/-! kinds: true a fact, false a number -/
def tyS (q : Nat × Nat) (τ : List Bool) : Option (List Bool) :=
  if q.1 = 2 ∨ q.1 = 3 then some (false :: τ)
  else if q.1 = 4 then (match τ with
    | true :: r => some (true :: r)
    | _ => none)
  else if q.1 = 5 ∨ q.1 = 6 then (match τ with
    | true :: true :: r => some (true :: r)
    | _ => none)
  else if 7 ≤ q.1 ∧ q.1 ≤ 10 then (match τ with
    | false :: false :: r => some (false :: r)
    | _ => none)
  else if 11 ≤ q.1 ∧ q.1 ≤ 15 then (match τ with
    | false :: false :: r => some (true :: r)
    | _ => none)
  else none
def tyc : List (Nat × Nat) → List Bool → Option (List Bool)
  | [], τ => some τ
  | q :: e, τ => (tyS q τ).bind (tyc e)
theorem tyc_app : ∀ (e f : List (Nat × Nat)) (τ : List Bool), tyc (e ++ f) τ = (tyc e τ).bind (tyc f) := by
  intro e
  induction e with
  | nil => intro f τ; rfl
  | cons q e ih =>
    intro f τ
    show (tyS q τ).bind (tyc (e ++ f)) = ((tyS q τ).bind (tyc e)).bind (tyc f)
    cases tyS q τ with
    | none => rfl
    | some σ => exact ih f σ
theorem tyS_v {q : Nat × Nat} {τ : List Bool} (h : q.1 = 2 ∨ q.1 = 3) : tyS q τ = some (false :: τ) := by
  unfold tyS
  rw [if_pos h]
theorem vlC_k {t : Nat → Int32} {n j : Nat} : (vlC t n j).1 = 2 ∨ (vlC t n j).1 = 3 := by
  unfold vlC
  split
  · exact Or.inl rfl
  · exact Or.inr rfl
theorem tyS_r {r v : Nat} {τ : List Bool} (h : 7 ≤ r ∧ r ≤ 10) : tyS (r, v) (false :: false :: τ) = some (false :: τ) := by
  unfold tyS
  rw [if_neg (show ¬ (r = 2 ∨ r = 3) by omega), if_neg (show ¬ r = 4 by omega), if_neg (show ¬ (r = 5 ∨ r = 6) by omega), if_pos h]
theorem tyS_c {r v : Nat} {τ : List Bool} (h : 11 ≤ r ∧ r ≤ 15) : tyS (r, v) (false :: false :: τ) = some (true :: τ) := by
  unfold tyS
  rw [if_neg (show ¬ (r = 2 ∨ r = 3) by omega), if_neg (show ¬ r = 4 by omega), if_neg (show ¬ (r = 5 ∨ r = 6) by omega), if_neg (show ¬ (7 ≤ r ∧ r ≤ 10) by omega), if_pos h]
def tyL (e : List (Nat × Nat)) : Prop := ∀ τ, tyc e (false :: τ) = some (false :: τ)
def tyV (e : List (Nat × Nat)) : Prop := ∀ τ, tyc e τ = some (false :: τ)
def tyB (e : List (Nat × Nat)) : Prop := ∀ τ, tyc e τ = some (true :: τ)
theorem tyL_c {q : Nat × Nat} {r : Nat} {e : List (Nat × Nat)} (hq : q.1 = 2 ∨ q.1 = 3) (hr : 7 ≤ r ∧ r ≤ 10) (he : tyL e) : tyL ([q] ++ [(r, 0)] ++ e) := fun τ => by
  show (tyS q (false :: τ)).bind (fun σ => (tyS (r, 0) σ).bind (tyc e)) = _
  rw [tyS_v hq, Option.bind_some, tyS_r hr, Option.bind_some]
  exact he τ
theorem tyV_c {q : Nat × Nat} {e : List (Nat × Nat)} (hq : q.1 = 2 ∨ q.1 = 3) (he : tyL e) : tyV ([q] ++ e) := fun τ => by
  show (tyS q τ).bind (tyc e) = _
  rw [tyS_v hq, Option.bind_some]
  exact he τ
theorem tyL_s {r : Nat} {e f : List (Nat × Nat)} (hr : 7 ≤ r ∧ r ≤ 10) (he : tyV e) (hf : tyL f) : tyL (e ++ [(r, 0)] ++ f) := fun τ => by
  rw [tyc_app, tyc_app, he, Option.bind_some]
  show ((tyS (r, 0) (false :: false :: τ)).bind (tyc [])).bind (tyc f) = _
  rw [tyS_r hr, Option.bind_some]
  exact hf τ
theorem tyV_s {e f : List (Nat × Nat)} (he : tyV e) (hf : tyL f) : tyV (e ++ f) := fun τ => by
  rw [tyc_app, he, Option.bind_some]
  exact hf τ
theorem tyB_c {r : Nat} {e f : List (Nat × Nat)} (hr : 11 ≤ r ∧ r ≤ 15) (he : tyV e) (hf : tyV f) : tyB (e ++ f ++ [(r, 0)]) := fun τ => by
  rw [tyc_app, tyc_app, he, Option.bind_some, hf, Option.bind_some]
  show (tyS (r, 0) (false :: false :: τ)).bind (tyc []) = _
  rw [tyS_c hr, Option.bind_some]
  rfl
end
section
/-! the reference: term(), sum(), compare() against the automaton -/
/-- what a piece of the reader leaves: fault F or the place, made and written; and that the automaton goes on alike -/
def pce (t : Nat → Int32) (n x m : Nat) (c : List (Nat × Nat)) (i : Nat) (S T : fS) (F i' m' : Nat) (c' : List (Nat × Nat)) : Prop := eMr x S T ∧ (F = 0 → RQ T x m' c' ∧ i ≤ i' ∧ i' ≤ n ∧ sk t n i' = i' ∧ m' ≤ 60 ∧ c'.length + i ≤ c.length + i')
theorem eMr_1 {x : Nat} {S T : fS} (h : eMr x S T) : T.1 145 1 = S.1 145 1 := h.1 145 1 (by unfold wMr; omega)
theorem eMr_t {x : Nat} {S T : fS} (h : eMr x S T) : T.1 146 = S.1 146 := funext fun k => h.1 146 k (by unfold wMr; omega)
section MT2
variable {t : Nat → Int32} {n x : Nat}
theorem mx_termlp (hl : n ≤ 400) (hx : x < 6) (hb : ∀ k, byt (t k)) {K : fS → Option (Int32 × fS)} : ∀ d i m c (S : fS) (u : Int32) nn, n - i ≤ d → d < nn → S.1 145 1 = o3 n → S.1 146 = t → RQ S x m c → m ≤ 60 → c.length ≤ i → i ≤ n → ∃ F T i' m' c' w' u', lp_X11_term_9 K nn (mS S (o3 i) 0 u) = (if F = 0 then K (mS T (o3 i') 0 u') else some (0, mS T w' (o3 F) u')) ∧ pce t n x m c i S T F i' m' c' ∧ (F = 0 → ¬ (rk t n i' = 9 ∨ rk t n i' = 10) ∧ ∃ e, c' = c ++ e ∧ tyL e) ∧ ∀ cp H, elH H → dep H ≤ 10 → tp 6 H → AR t n cp m c H i = if F = 0 then AR t n cp m' c' H i' else (F, 0, 0, []) := by
  intro d
  induction d with
  | zero =>
    intro i m c S u nn hd hnn hn ht hR hm hc hi
    obtain ⟨nn, rfl⟩ : ∃ k, nn = k + 1 := ⟨nn - 1, by omega⟩
    subst ht
    have hj := sk_le (t := S.1 146) hi
    have hg := sk_ge (t := S.1 146) (n := n) (i := i)
    rw [mt_term1 hn hl hb hi]
    have hr : ¬ (rk (S.1 146) n (sk (S.1 146) n i) = 9 ∨ rk (S.1 146) n (sk (S.1 146) n i) = 10) := fun q => by
      obtain ⟨_, q2⟩ := rk_cs (t := S.1 146) (n := n) (j := sk (S.1 146) n i) (by omega)
      omega
    rw [if_neg hr]
    refine ⟨0, S, sk (S.1 146) n i, m, c, 0, u, rfl, ⟨eMr.rf, fun _ => ⟨hR, hg, hj, sk_id, hm, by omega⟩⟩, fun _ => ⟨hr, [], (List.append_nil c).symm, fun τ => rfl⟩, fun cp H _ _ _ => ?_⟩
    rw [if_pos rfl]
    unfold AR aft
    rw [sk_id]
  | succ d ih =>
    intro i m c S u nn hd hnn hn ht hR hm hc hi
    obtain ⟨nn, rfl⟩ : ∃ k, nn = k + 1 := ⟨nn - 1, by omega⟩
    subst ht
    have hj := sk_le (t := S.1 146) hi
    have hg := sk_ge (t := S.1 146) (n := n) (i := i)
    rw [mt_term1 hn hl hb hi]
    by_cases hr : rk (S.1 146) n (sk (S.1 146) n i) = 9 ∨ rk (S.1 146) n (sk (S.1 146) n i) = 10
    · rw [if_pos hr]
      obtain ⟨_, q2⟩ := rk_cs (t := S.1 146) (n := n) (j := sk (S.1 146) n i) (by omega)
      have hj2 := sk_le (t := S.1 146) (n := n) (i := sk (S.1 146) n i + 1) (by omega)
      have hg2 := sk_ge (t := S.1 146) (n := n) (i := sk (S.1 146) n i + 1)
      obtain ⟨T1, w1, u1, a1, a2, a3⟩ := mv_value (u := u) hn hl hR hx hm (i := sk (S.1 146) n i + 1) (by omega) (fun hv => by have := vl_gt hj2 sk_id hv; omega)
      rw [a1, bd_some]
      have key : ∀ cp H, elH H → dep H ≤ 10 → tp 6 H → AR (S.1 146) n cp m c H i = VR (S.1 146) n cp m c (rk (S.1 146) n (sk (S.1 146) n i) :: H) (sk (S.1 146) n i + 1) := fun cp H h1 h2 h3 => AR_rk h1 h2 hi rfl (by omega) (by rcases hr with e | e <;> rw [e] <;> exact h3)
      generalize hrk : rk (S.1 146) n (sk (S.1 146) n i) = r at hr key
      by_cases hv : vlF (S.1 146) n m (sk (S.1 146) n (sk (S.1 146) n i + 1)) = 0
      · obtain ⟨v1, v2, v3⟩ := vl_gt hj2 sk_id hv
        rw [if_pos hv]
        dsimp only
        rw [if_neg (show ¬ (1 : Int32) = 0 by decide)]
        obtain ⟨T2, b1, b2, b3⟩ := mp_puts (i := o3 (vlP (S.1 146) n (sk (S.1 146) n (sk (S.1 146) n i + 1)))) (w := 0) (u := u1) (a3 hv) hx (by rw [ln_app]; omega) (s := r) (v := 0) (a := if r = 9 then 4 else 5) (b := 0) (by rcases hr with e | e <;> subst e <;> rfl) rfl
        rw [b1, bd_some]
        have hE := a2.tr b3
        obtain ⟨F, T, i', m', c', w', u', c1, ⟨c2, c3⟩, c4, c5⟩ := ih (vlP (S.1 146) n (sk (S.1 146) n (sk (S.1 146) n i + 1))) (m + 1) (c ++ [vlC (S.1 146) n (sk (S.1 146) n (sk (S.1 146) n i + 1))] ++ [(r, 0)]) T2 u1 nn (by omega) (by omega) ((eMr_1 hE).trans hn) (eMr_t hE) b2 (by omega) (by rw [ln_app, ln_app]; omega) v2
        refine ⟨F, T, i', m', c', w', u', c1, ⟨hE.tr c2, fun q => ?_⟩, fun q => ⟨(c4 q).1, ?_⟩, fun cp H h1 h2 h3 => ?_⟩
        · obtain ⟨d1, d2, d3, d4, d5, d6⟩ := c3 q
          rw [ln_app, ln_app] at d6
          exact ⟨d1, by omega, d3, d4, d5, by omega⟩
        · obtain ⟨_, e, ee, et⟩ := c4 q
          exact ⟨_, by rw [ee]; simp only [List.append_assoc], tyL_c (vlC_k (t := S.1 146) (n := n) (j := sk (S.1 146) n (sk (S.1 146) n i + 1))) (show 7 ≤ r ∧ r ≤ 10 by omega) et⟩
        · rw [key cp H h1 h2 h3, VR_e, if_pos hv, AR_hold (by omega) (by rcases hr with e | e <;> subst e <;> decide) (Or.inr (by rcases hr with e | e <;> subst e <;> exact bnd_6 _)), c5 cp H h1 h2 h3]
      · rw [if_neg hv]
        dsimp only
        rw [if_pos rfl]
        refine ⟨_, T1, 0, 0, [], w1, u1, (if_neg hv).symm, ⟨a2, fun q => absurd q hv⟩, fun q => absurd q hv, fun cp H h1 h2 h3 => ?_⟩
        rw [key cp H h1 h2 h3, VR_e, if_neg hv, if_neg hv]
    · rw [if_neg hr]
      refine ⟨0, S, sk (S.1 146) n i, m, c, 0, u, rfl, ⟨eMr.rf, fun _ => ⟨hR, hg, hj, sk_id, hm, by omega⟩⟩, fun _ => ⟨hr, [], (List.append_nil c).symm, fun τ => rfl⟩, fun cp H _ _ _ => ?_⟩
      rw [if_pos rfl]
      unfold AR aft
      rw [sk_id]
theorem mx_term (hl : n ≤ 400) (hx : x < 6) (hb : ∀ k, byt (t k)) {S : fS} {m i : Nat} {c : List (Nat × Nat)} {u : Int32} (hn : S.1 145 1 = o3 n) (ht : S.1 146 = t) (hR : RQ S x m c) (hm : m ≤ 60) (hc : c.length ≤ i) (hi : i ≤ n) : ∃ F T i' m' c' w' u', f_X11_term (mS S (o3 i) 0 u) = some (if F = 0 then (1, mS T (o3 i') 0 u') else (0, mS T w' (o3 F) u')) ∧ pce t n x m c i S T F i' m' c' ∧ (F = 0 → i < i' ∧ ¬ (rk t n i' = 9 ∨ rk t n i' = 10) ∧ ∃ e, c' = c ++ e ∧ tyV e) ∧ ∀ cp H, elH H → dep H ≤ 10 → tp 6 H → VR t n cp m c H i = if F = 0 then AR t n cp m' c' H i' else (F, 0, 0, []) := by
  subst ht
  have hj := sk_le (t := S.1 146) hi
  have hg := sk_ge (t := S.1 146) (n := n) (i := i)
  obtain ⟨T1, w1, u1, a1, a2, a3⟩ := mv_value (u := u) hn hl hR hx hm hi (fun hv => by have := vl_gt hj sk_id hv; omega)
  unfold f_X11_term
  rw [a1, bd_some]
  by_cases hv : vlF (S.1 146) n m (sk (S.1 146) n i) = 0
  · obtain ⟨v1, v2, v3⟩ := vl_gt hj sk_id hv
    rw [if_pos hv]
    dsimp only
    rw [if_neg (show ¬ (1 : Int32) = 0 by decide)]
    obtain ⟨F, T, i', m', c', w', u', c1, ⟨c2, c3⟩, c4, c5⟩ := mx_termlp hl hx hb (K := fun S61 => some ((1 : Int32), S61)) n (vlP (S.1 146) n (sk (S.1 146) n i)) (m + 1) (c ++ [vlC (S.1 146) n (sk (S.1 146) n i)]) T1 u1 FU (by omega) (FU_lt (by omega)) ((eMr_1 a2).trans hn) (eMr_t a2) (a3 hv) (by omega) (by rw [ln_app]; omega) v2
    refine ⟨F, T, i', m', c', w', u', ?_, ⟨a2.tr c2, fun q => ?_⟩, fun q => ⟨?_, (c4 q).1, ?_⟩, fun cp H h1 h2 h3 => ?_⟩
    · rw [c1]
      by_cases hF : F = 0
      · rw [if_pos hF, if_pos hF]
      · rw [if_neg hF, if_neg hF]
    · obtain ⟨d1, d2, d3, d4, d5, d6⟩ := c3 q
      rw [ln_app] at d6
      exact ⟨d1, by omega, d3, d4, d5, by omega⟩
    · have := (c3 q).2.1
      omega
    · obtain ⟨_, e, ee, et⟩ := c4 q
      exact ⟨_, by rw [ee]; simp only [List.append_assoc], tyV_c (vlC_k (t := S.1 146) (n := n) (j := sk (S.1 146) n i)) et⟩
    · rw [VR_e, if_pos hv, c5 cp H h1 h2 h3]
  · rw [if_neg hv]
    dsimp only
    rw [if_pos rfl]
    refine ⟨_, T1, 0, 0, [], w1, u1, by rw [if_neg hv], ⟨a2, fun q => absurd q hv⟩, fun q => absurd q hv, fun cp H h1 h2 h3 => ?_⟩
    rw [VR_e, if_neg hv, if_neg hv]
theorem mx_sumlp (hl : n ≤ 400) (hx : x < 6) (hb : ∀ k, byt (t k)) {K : fS → Option (Int32 × fS)} : ∀ d i m c (S : fS) (u : Int32) nn, n - i ≤ d → d < nn → S.1 145 1 = o3 n → S.1 146 = t → RQ S x m c → m ≤ 60 → c.length ≤ i → i ≤ n → sk t n i = i → ¬ (rk t n i = 9 ∨ rk t n i = 10) → ∃ F T i' m' c' w' u', lp_X11_sum_9 K nn (mS S (o3 i) 0 u) = (if F = 0 then K (mS T (o3 i') 0 u') else some (0, mS T w' (o3 F) u')) ∧ pce t n x m c i S T F i' m' c' ∧ (F = 0 → rk t n i' = 0 ∧ ∃ e, c' = c ++ e ∧ tyL e) ∧ ∀ cp H, elH H → dep H ≤ 10 → tp 5 H → AR t n cp m c H i = if F = 0 then AR t n cp m' c' H i' else (F, 0, 0, []) := by
  intro d
  induction d with
  | zero =>
    intro i m c S u nn hd hnn hn ht hR hm hc hi hs hno
    obtain ⟨nn, rfl⟩ : ∃ k, nn = k + 1 := ⟨nn - 1, by omega⟩
    subst ht
    rw [mt_sum1 hn hl hb hi, hs]
    have hr : rk (S.1 146) n i = 0 := Decidable.byContradiction fun q => by
      obtain ⟨_, q2⟩ := rk_cs (t := S.1 146) (n := n) (j := i) q
      omega
    rw [if_neg (by omega)]
    refine ⟨0, S, i, m, c, 0, u, rfl, ⟨eMr.rf, fun _ => ⟨hR, Nat.le_refl _, hi, hs, hm, Nat.le_refl _⟩⟩, fun _ => ⟨hr, [], (List.append_nil c).symm, fun τ => rfl⟩, fun cp H _ _ _ => ?_⟩
    rw [if_pos rfl]
  | succ d ih =>
    intro i m c S u nn hd hnn hn ht hR hm hc hi hs hno
    obtain ⟨nn, rfl⟩ : ∃ k, nn = k + 1 := ⟨nn - 1, by omega⟩
    subst ht
    rw [mt_sum1 hn hl hb hi, hs]
    by_cases hr : rk (S.1 146) n i = 7 ∨ rk (S.1 146) n i = 8
    · rw [if_pos hr]
      obtain ⟨_, q2⟩ := rk_cs (t := S.1 146) (n := n) (j := i) (by omega)
      have hbr : bnd (rk (S.1 146) n i) = 5 := by rcases hr with e | e <;> rw [e] <;> rfl
      have key : ∀ cp H, elH H → dep H ≤ 10 → tp 5 H → AR (S.1 146) n cp m c H i = VR (S.1 146) n cp m c (rk (S.1 146) n i :: H) (i + 1) := fun cp H h1 h2 h3 => by
        have := AR_rk (t := S.1 146) (cp := cp) (m := m) (c := c) h1 h2 hi (by rw [hs]) (show rk (S.1 146) n i ≠ 0 by omega) (by rw [hbr]; exact h3)
        rw [this, hs]
      obtain ⟨F1, T1, i1, m1, c1, w1, u1, a1, ⟨a2, a3⟩, a4, a5⟩ := mx_term hl hx hb (u := u) hn rfl hR hm (show c.length ≤ i + 1 by omega) (by omega)
      rw [a1, bd_some]
      generalize hrk : rk (S.1 146) n i = r at hr key hbr
      have el : ∀ H, elH H → elH (r :: H) := fun H he y hy => by
        rcases List.mem_cons.mp hy with rfl | hy
        · omega
        · exact he y hy
      by_cases hF : F1 = 0
      · obtain ⟨d1, d2, d3, d4, d5, d6⟩ := a3 hF
        obtain ⟨e1, e2, e3, e4, e5⟩ := a4 hF
        rw [if_pos hF]
        dsimp only
        rw [if_neg (show ¬ (1 : Int32) = 0 by decide)]
        obtain ⟨T2, b1, b2, b3⟩ := mp_puts (i := o3 i1) (w := 0) (u := u1) d1 hx (by omega) (s := r) (v := 0) (a := if r = 7 then 2 else 3) (b := 0) (by rcases hr with e | e <;> subst e <;> rfl) rfl
        rw [b1, bd_some]
        have hE := a2.tr b3
        obtain ⟨F, T, i', m', c', w', u', g1, ⟨g2, g3⟩, g4, g5⟩ := ih i1 m1 (c1 ++ [(r, 0)]) T2 u1 nn (by omega) (by omega) ((eMr_1 hE).trans hn) (eMr_t hE) b2 (by omega) (by rw [ln_app]; omega) d3 d4 e2
        refine ⟨F, T, i', m', c', w', u', g1, ⟨hE.tr g2, fun q => ?_⟩, fun q => ⟨(g4 q).1, ?_⟩, fun cp H h1 h2 h3 => ?_⟩
        · obtain ⟨k1, k2, k3, k4, k5, k6⟩ := g3 q
          rw [ln_app] at k6
          exact ⟨k1, by omega, k3, k4, k5, by omega⟩
        · obtain ⟨_, e, ee, et⟩ := g4 q
          exact ⟨_, by rw [ee, e4]; simp only [List.append_assoc], tyL_s (show 7 ≤ r ∧ r ≤ 10 by omega) e5 et⟩
        · rw [key cp H h1 h2 h3, a5 cp (r :: H) (el H h1) (by rw [dep_pu (by omega)]; exact h2) (tp_c (by omega)), if_pos hF, AR_hold (by omega) (by omega) ?_, g5 cp H h1 h2 h3]
          rw [d4]
          by_cases z : rk (S.1 146) n i1 = 0
          · exact Or.inl z
          · obtain ⟨z1, _⟩ := rk_cs (t := S.1 146) (n := n) (j := i1) z
            have : rk (S.1 146) n i1 = 7 ∨ rk (S.1 146) n i1 = 8 := by omega
            exact Or.inr (by rw [hbr]; rcases this with e | e <;> rw [e] <;> decide)
      · rw [if_neg hF]
        dsimp only
        rw [if_pos rfl]
        refine ⟨F1, T1, 0, 0, [], w1, u1, (if_neg hF).symm, ⟨a2, fun q => absurd q hF⟩, fun q => absurd q hF, fun cp H h1 h2 h3 => ?_⟩
        rw [key cp H h1 h2 h3, a5 cp (r :: H) (el H h1) (by rw [dep_pu (by omega)]; exact h2) (tp_c (by omega)), if_neg hF, if_neg hF]
    · rw [if_neg hr]
      have h0 : rk (S.1 146) n i = 0 := Decidable.byContradiction fun q => by
        obtain ⟨q1, q2⟩ := rk_cs (t := S.1 146) (n := n) (j := i) q
        omega
      exact ⟨0, S, i, m, c, 0, u, rfl, ⟨eMr.rf, fun _ => ⟨hR, Nat.le_refl _, hi, hs, hm, Nat.le_refl _⟩⟩, fun _ => ⟨h0, [], (List.append_nil c).symm, fun τ => rfl⟩, fun cp H _ _ _ => by rw [if_pos rfl]⟩
theorem mx_sum (hl : n ≤ 400) (hx : x < 6) (hb : ∀ k, byt (t k)) {S : fS} {m i : Nat} {c : List (Nat × Nat)} {u : Int32} (hn : S.1 145 1 = o3 n) (ht : S.1 146 = t) (hR : RQ S x m c) (hm : m ≤ 60) (hc : c.length ≤ i) (hi : i ≤ n) : ∃ F T i' m' c' w' u', f_X11_sum (mS S (o3 i) 0 u) = some (if F = 0 then (1, mS T (o3 i') 0 u') else (0, mS T w' (o3 F) u')) ∧ pce t n x m c i S T F i' m' c' ∧ (F = 0 → i < i' ∧ rk t n i' = 0 ∧ ∃ e, c' = c ++ e ∧ tyV e) ∧ ∀ cp H, elH H → dep H ≤ 10 → tp 5 H → VR t n cp m c H i = if F = 0 then AR t n cp m' c' H i' else (F, 0, 0, []) := by
  obtain ⟨F1, T1, i1, m1, c1, w1, u1, a1, ⟨a2, a3⟩, a4, a5⟩ := mx_term hl hx hb (u := u) hn ht hR hm hc hi
  unfold f_X11_sum
  rw [a1, bd_some]
  by_cases hF : F1 = 0
  · obtain ⟨d1, d2, d3, d4, d5, d6⟩ := a3 hF
    obtain ⟨e1, e2, e3, e4, e5⟩ := a4 hF
    rw [if_pos hF]
    dsimp only
    rw [if_neg (show ¬ (1 : Int32) = 0 by decide)]
    obtain ⟨F, T, i', m', c', w', u', g1, ⟨g2, g3⟩, g4, g5⟩ := mx_sumlp hl hx hb (K := fun S61 => some ((1 : Int32), S61)) n i1 m1 c1 T1 u1 FU (by omega) (FU_lt (by omega)) ((eMr_1 a2).trans hn) ((eMr_t a2).trans ht) d1 d5 (by omega) d3 d4 e2
    refine ⟨F, T, i', m', c', w', u', ?_, ⟨a2.tr g2, fun q => ?_⟩, fun q => ⟨?_, (g4 q).1, ?_⟩, fun cp H h1 h2 h3 => ?_⟩
    · rw [g1]
      by_cases hG : F = 0
      · rw [if_pos hG, if_pos hG]
      · rw [if_neg hG, if_neg hG]
    · obtain ⟨k1, k2, k3, k4, k5, k6⟩ := g3 q
      exact ⟨k1, by omega, k3, k4, k5, by omega⟩
    · have := (g3 q).2.1
      omega
    · obtain ⟨_, e, ee, et⟩ := g4 q
      exact ⟨_, by rw [ee, e4]; simp only [List.append_assoc], tyV_s e5 et⟩
    · rw [a5 cp H h1 h2 (tp_mo h3 (by omega)), if_pos hF, g5 cp H h1 h2 h3]
  · rw [if_neg hF]
    dsimp only
    rw [if_pos rfl]
    refine ⟨F1, T1, 0, 0, [], w1, u1, by rw [if_neg hF], ⟨a2, fun q => absurd q hF⟩, fun q => absurd q hF, fun cp H h1 h2 h3 => ?_⟩
    rw [a5 cp H h1 h2 (tp_mo h3 (by omega)), if_neg hF, if_neg hF]
end MT2
end
section
section MC
variable {t : Nat → Int32} {n x : Nat}
theorem mc_105 {p1 s0 p2 : Int32} {k : Nat} {X : fS} (h : (p1 = 60 ∧ s0 = 0 ∧ k = 11) ∨ (p1 = 60 ∧ s0 = 1 ∧ k = 12) ∨ (p1 = 61 ∧ s0 = 0 ∧ k = 13) ∨ (p1 = 62 ∧ s0 = 1 ∧ k = 14) ∨ (p1 = 62 ∧ s0 = 0 ∧ k = 15)) : j_X11_compare_105 p1 p2 s0 X = (f_X11_makes p2 X).bind fun q => if q.1 = (0 : Int32) then some ((0 : Int32), q.2) else j_X11_compare_152 (o3 (k - 11)) q.2 := by
  unfold j_X11_compare_105
  congr 1
  funext q
  by_cases hq : q.1 = (0 : Int32)
  · rw [if_pos hq, if_pos hq]
  rw [if_neg hq, if_neg hq]
  rcases h with ⟨rfl, rfl, rfl⟩ | ⟨rfl, rfl, rfl⟩ | ⟨rfl, rfl, rfl⟩ | ⟨rfl, rfl, rfl⟩ | ⟨rfl, rfl, rfl⟩
  · rw [if_pos (by decide), if_pos (by decide)]; rfl
  · rw [if_pos (by decide), if_neg (by decide)]; rfl
  · rw [if_neg (by decide), if_pos (by decide)]; rfl
  · rw [if_neg (by decide), if_neg (by decide), if_neg (by decide)]; rfl
  · rw [if_neg (by decide), if_neg (by decide), if_pos (by decide)]; rfl
theorem mc_44 {S : fS} {j : Nat} {u p1 : Int32} (hl : n ≤ 400) (hn : S.1 145 1 = o3 n) (h : j < n) (hp : S.1 146 j = p1) (h3 : p1 = 60 ∨ p1 = 61 ∨ p1 = 62) : j_X11_compare_44 p1 (o3 j) (mS S (o3 j) 0 u) = (f_X11_makes (o3 j) (mS S (o3 (j + cmL (cm (S.1 146) n j))) 0 u)).bind fun q => if q.1 = (0 : Int32) then some ((0 : Int32), q.2) else j_X11_compare_152 (o3 (cm (S.1 146) n j - 11)) q.2 := by
  unfold j_X11_compare_44 cm
  rw [bd_some, mS_nx, mS_13, o3_s]
  by_cases h1 : p1 = 61
  · rw [if_pos h1, if_pos ⟨h, hp.trans h1⟩]
    unfold j_X11_compare_89 j_X11_compare_90
    rw [if_pos rfl, mc_105 (k := 13) (by subst h1; decide)]
    rfl
  · rw [if_neg h1, mS_1, hn, mS_13, if_neg (show ¬ (j < n ∧ S.1 146 j = 61) from fun q => h1 (hp.symm.trans q.2))]
    by_cases h2 : j + 1 < n
    · rw [if_neg (show ¬ o3 n ≤ o3 (j + 1) from fun q => by have := (o3_le (by omega) (by omega)).mp q; omega), gI_o (by omega) (by omega), bd_some, mS_t]
      by_cases h4 : S.1 146 (j + 1) = 61
      · rw [if_pos h4]
        unfold j_X11_compare_90
        rw [if_neg (by decide), bd_some, mS_nx, mS_13, o3_s]
        rcases h3 with e | e | e
        · rw [if_pos ⟨h, hp.trans e⟩, if_pos ⟨h2, h4⟩, mc_105 (k := 12) (by subst e; decide)]; rfl
        · exact absurd e h1
        · rw [if_neg (show ¬ (j < n ∧ S.1 146 j = 60) from fun q => absurd (e.symm.trans (hp.symm.trans q.2)) (by decide)), if_pos ⟨h, hp.trans e⟩, if_pos ⟨h2, h4⟩, mc_105 (k := 14) (by subst e; decide)]; rfl
      · rw [if_neg h4]
        unfold j_X11_compare_89 j_X11_compare_90
        rw [if_pos rfl]
        rcases h3 with e | e | e
        · rw [if_pos ⟨h, hp.trans e⟩, if_neg (fun q => h4 q.2), mc_105 (k := 11) (by subst e; decide)]; rfl
        · exact absurd e h1
        · rw [if_neg (show ¬ (j < n ∧ S.1 146 j = 60) from fun q => absurd (e.symm.trans (hp.symm.trans q.2)) (by decide)), if_pos ⟨h, hp.trans e⟩, if_neg (fun q => h4 q.2), mc_105 (k := 15) (by subst e; decide)]; rfl
    · rw [if_pos (show o3 n ≤ o3 (j + 1) from (o3_le (by omega) (by omega)).mpr (by omega))]
      unfold j_X11_compare_89 j_X11_compare_90
      rw [if_pos rfl]
      rcases h3 with e | e | e
      · rw [if_pos ⟨h, hp.trans e⟩, if_neg (fun q => h2 q.1), mc_105 (k := 11) (by subst e; decide)]; rfl
      · exact absurd e h1
      · rw [if_neg (show ¬ (j < n ∧ S.1 146 j = 60) from fun q => absurd (e.symm.trans (hp.symm.trans q.2)) (by decide)), if_pos ⟨h, hp.trans e⟩, if_neg (fun q => h2 q.1), mc_105 (k := 15) (by subst e; decide)]; rfl
theorem mc_sgn {S : fS} {j : Nat} {u : Int32} (hl : n ≤ 400) (hn : S.1 145 1 = o3 n) (hb : ∀ k, byt (S.1 146 k)) {p1 : Int32} (hp1 : p1 = seen (S.1 146) n j) {Z : Option (Int32 × fS)} : (if p1 = (60 : Int32) then j_X11_compare_44 p1 (o3 j) (mS S (o3 j) 0 u) else if p1 = (61 : Int32) then j_X11_compare_44 p1 (o3 j) (mS S (o3 j) 0 u) else if p1 = (62 : Int32) then j_X11_compare_44 p1 (o3 j) (mS S (o3 j) 0 u) else Z) = if cm (S.1 146) n j = 0 then Z else (f_X11_makes (o3 j) (mS S (o3 (j + cmL (cm (S.1 146) n j))) 0 u)).bind fun q => if q.1 = (0 : Int32) then some ((0 : Int32), q.2) else j_X11_compare_152 (o3 (cm (S.1 146) n j - 11)) q.2 := by
  have key : ∀ a : Int32, a = 60 ∨ a = 61 ∨ a = 62 → p1 = a → (j_X11_compare_44 p1 (o3 j) (mS S (o3 j) 0 u) = if cm (S.1 146) n j = 0 then Z else (f_X11_makes (o3 j) (mS S (o3 (j + cmL (cm (S.1 146) n j))) 0 u)).bind fun q => if q.1 = (0 : Int32) then some ((0 : Int32), q.2) else j_X11_compare_152 (o3 (cm (S.1 146) n j - 11)) q.2) := by
    intro a ha e
    have hh : j < n ∧ S.1 146 j = a := (seen_eq hb (by rcases ha with rfl | rfl | rfl <;> decide) (by rcases ha with rfl | rfl | rfl <;> decide)).mp (hp1.symm.trans e)
    rw [if_neg, e]
    · exact mc_44 hl hn hh.1 hh.2 ha
    · unfold cm
      rcases ha with rfl | rfl | rfl
      · rw [if_neg (fun q => absurd (hh.2.symm.trans q.2) (by decide)), if_pos hh]; split <;> decide
      · rw [if_pos hh]; decide
      · rw [if_neg (fun q => absurd (hh.2.symm.trans q.2) (by decide)), if_neg (fun q => absurd (hh.2.symm.trans q.2) (by decide)), if_pos hh]; split <;> decide
  by_cases h0 : p1 = 60
  · rw [if_pos h0]; exact key 60 (by decide) h0
  rw [if_neg h0]
  by_cases h1 : p1 = 61
  · rw [if_pos h1]; exact key 61 (by decide) h1
  rw [if_neg h1]
  by_cases h2 : p1 = 62
  · rw [if_pos h2]; exact key 62 (by decide) h2
  rw [if_neg h2, if_pos]
  unfold cm
  rw [if_neg (fun q => h1 (hp1.trans ((seen_eq hb (by decide) (by decide)).mpr q))), if_neg (fun q => h0 (hp1.trans ((seen_eq hb (by decide) (by decide)).mpr q))), if_neg (fun q => h2 (hp1.trans ((seen_eq hb (by decide) (by decide)).mpr q)))]
theorem AR_cm {m i k : Nat} {c : List (Nat × Nat)} {H : List Nat} (he : elH H) (hd : dep H ≤ 10) (hi : i ≤ n) (hs : sk t n i = i) (hr : rk t n i = 0) (hk : cm t n i = k) (ht : tp 4 H) : AR t n false m c H i = if k = 0 then (1 + 8 * i, 0, 0, []) else if 60 ≤ m then (1 + 8 * i + 3, 0, 0, []) else VR t n true (m + 1) c (k :: H) (i + cmL k) := by
  unfold AR aft
  rw [hs, if_pos hr, if_neg (by decide), hk]
  by_cases h0 : k = 0
  · rw [if_pos h0, if_pos h0]; rfl
  rw [if_neg h0, if_neg h0]
  by_cases h6 : 60 ≤ m
  · rw [if_pos h6, if_pos h6]; rfl
  rw [if_neg h6, if_neg h6, ht.1, ht.2, List.append_nil]
  obtain ⟨k1, k2, k3⟩ := cm_cs (t := t) (n := n) (j := i) (by omega)
  rw [hk] at k1 k2 k3
  exact RUN_V (fun y hy => by
    rcases List.mem_cons.mp hy with rfl | hy
    · omega
    · exact he y hy) (by rw [dep_pu (by omega)]; exact hd) k2
theorem bnd_cm {k : Nat} (h : 11 ≤ k ∧ k ≤ 15) : bnd k = 4 := (show ∀ a, a < 16 → 11 ≤ a → bnd a = 4 by decide) _ (by omega) (by omega)
theorem mx_cmp (hl : n ≤ 400) (hx : x < 6) (hb : ∀ k, byt (t k)) {S : fS} {m i : Nat} {c : List (Nat × Nat)} {u : Int32} (hn : S.1 145 1 = o3 n) (ht : S.1 146 = t) (hR : RQ S x m c) (hm : m ≤ 60) (hc : c.length ≤ i) (hi : i ≤ n) : ∃ F T i' m' c' w' u', f_X11_compare (mS S (o3 i) 0 u) = some (if F = 0 then (1, mS T (o3 i') 0 u') else (0, mS T w' (o3 F) u')) ∧ pce t n x m c i S T F i' m' c' ∧ (F = 0 → i < i' ∧ rk t n i' = 0 ∧ ∃ e, c' = c ++ e ∧ tyB e) ∧ ∀ H, elH H → dep H ≤ 10 → tp 4 H → VR t n false m c H i = if F = 0 then AR t n true m' c' H i' else (F, 0, 0, []) := by
  obtain ⟨F1, T1, i1, m1, c1, w1, u1, a1, ⟨a2, a3⟩, a4, a5⟩ := mx_sum hl hx hb (u := u) hn ht hR hm hc hi
  unfold f_X11_compare
  rw [a1, bd_some]
  by_cases hF : F1 = 0
  · obtain ⟨d1, d2, d3, d4, d5, d6⟩ := a3 hF
    obtain ⟨e1, e2, x1, x2, x3⟩ := a4 hF
    have hn1 := (eMr_1 a2).trans hn
    have ht1 := (eMr_t a2).trans ht
    rw [if_pos hF]
    dsimp only
    rw [if_neg (show ¬ (1 : Int32) = 0 by decide), mt_see hn1 hl d3, bd_some, ht1, d4]
    dsimp only
    rw [mS_13, mc_sgn hl hn1 (by rw [ht1]; exact hb) (by rw [ht1])]
    rw [ht1]
    have key : ∀ H, elH H → dep H ≤ 10 → tp 4 H → VR t n false m c H i = if cm t n i1 = 0 then (1 + 8 * i1, 0, 0, []) else if 60 ≤ m1 then (1 + 8 * i1 + 3, 0, 0, []) else VR t n true (m1 + 1) c1 (cm t n i1 :: H) (i1 + cmL (cm t n i1)) := fun H h1 h2 h3 => by
      have := a5 false H h1 h2 (tp_mo h3 (by omega))
      rw [if_pos hF, AR_cm h1 h2 d3 d4 e2 rfl h3] at this
      exact this
    by_cases hk : cm t n i1 = 0
    · rw [if_pos hk, mt_fails mS_14, bd_some, mS_wr, show (8 : Int32) = o3 8 from rfl, show (1 : Int32) = o3 1 from rfl, show (0 : Int32) = o3 0 from rfl, o3_mul, o3_add, o3_add]
      refine ⟨1 + 8 * i1, T1, 0, 0, [], o3 i1, u1, ?_, ⟨a2, fun q => by omega⟩, fun q => by omega, fun H h1 h2 h3 => ?_⟩
      · rw [if_neg (by omega)]; rfl
      · rw [key H h1 h2 h3, if_pos hk, if_neg (by omega)]
    · obtain ⟨k1, k2, k3⟩ := cm_cs hk
      rw [if_neg hk, mp_makes d1 d5, bd_some]
      by_cases h6 : 60 ≤ m1
      · rw [if_pos h6]
        dsimp only
        rw [if_pos rfl]
        refine ⟨1 + 8 * i1 + 3, T1, 0, 0, [], o3 (i1 + cmL (cm t n i1)), u1, ?_, ⟨a2, fun q => by omega⟩, fun q => by omega, fun H h1 h2 h3 => ?_⟩
        · rw [if_neg (by omega)]
        · rw [key H h1 h2 h3, if_neg hk, if_pos h6, if_neg (by omega)]
      · rw [if_neg h6]
        dsimp only
        rw [if_neg (show ¬ (1 : Int32) = 0 by decide)]
        have e17 : eMr x T1 (pI T1 145 17 (o3 (m1 + 1))) := eMr_pI (by unfold wMr; omega)
        have hE := a2.tr e17
        obtain ⟨F2, T2, i2, m2, c2, w2, u2, b1, ⟨b2, b3⟩, b4, b5⟩ := mx_sum hl hx hb (u := u1) (i := i1 + cmL (cm t n i1)) ((eMr_1 hE).trans hn) ((eMr_t hE).trans ht) (RQ_17 (m' := m1 + 1) d1) (by omega) (by omega) k2
        unfold j_X11_compare_152
        rw [b1, bd_some]
        generalize hcm : cm t n i1 = k at *
        have hbk := bnd_cm k1
        have el : ∀ H, elH H → elH (k :: H) := fun H he y hy => by
          rcases List.mem_cons.mp hy with rfl | hy
          · omega
          · exact he y hy
        have key2 : ∀ H, elH H → dep H ≤ 10 → tp 4 H → VR t n false m c H i = if F2 = 0 then AR t n true m2 c2 (k :: H) i2 else (F2, 0, 0, []) := fun H h1 h2 h3 => by
          rw [key H h1 h2 h3, if_neg hk, if_neg h6, b5 true (k :: H) (el H h1) (by rw [dep_pu (by omega)]; exact h2) (tp_c (by omega))]
        by_cases hG : F2 = 0
        · obtain ⟨f1, f2, f3, f4, f5, f6⟩ := b3 hG
          obtain ⟨g1, g2, y1, y2, y3⟩ := b4 hG
          rw [if_pos hG]
          dsimp only
          rw [if_neg (show ¬ (1 : Int32) = 0 by decide)]
          obtain ⟨T3, p1, p2, p3⟩ := mp_puts (i := o3 i2) (w := 0) (u := u2) f1 hx (by omega) (s := k) (v := 0) (a := (6 : Int32) + o3 (k - 11)) (b := 0) (by
            have : k = 11 ∨ k = 12 ∨ k = 13 ∨ k = 14 ∨ k = 15 := by omega
            rcases this with rfl | rfl | rfl | rfl | rfl <;> rfl) rfl
          rw [p1, bd_some]
          refine ⟨0, T3, i2, m2, c2 ++ [(k, 0)], 0, u2, ?_, ⟨(hE.tr b2).tr p3, fun _ => ⟨p2, by omega, f3, f4, f5, by rw [ln_app]; omega⟩⟩, fun _ => ⟨by omega, g2, _, by rw [y2, x2]; simp only [List.append_assoc], tyB_c k1 x3 y3⟩, fun H h1 h2 h3 => ?_⟩
          · rw [if_pos rfl]
          · rw [key2 H h1 h2 h3, if_pos hG, if_pos rfl, AR_hold (by omega) (by omega) (Or.inl (by rw [f4]; exact g2))]
        · rw [if_neg hG]
          dsimp only
          rw [if_pos rfl]
          refine ⟨F2, T2, 0, 0, [], w2, u2, ?_, ⟨hE.tr b2, fun q => absurd q hG⟩, fun q => absurd q hG, fun H h1 h2 h3 => ?_⟩
          · rw [if_neg hG]
          · rw [key2 H h1 h2 h3, if_neg hG, if_neg hG]
  · rw [if_neg hF]
    dsimp only
    rw [if_pos rfl]
    refine ⟨F1, T1, 0, 0, [], w1, u1, by rw [if_neg hF], ⟨a2, fun q => absurd q hF⟩, fun q => absurd q hF, fun H h1 h2 h3 => ?_⟩
    rw [a5 false H h1 h2 (tp_mo h3 (by omega)), if_neg hF, if_neg hF]
end MC
end
section
/-! the reference: what is held -/
def hm : Nat → Nat
  | 4 => 11
  | 5 => 12
  | 6 => 13
  | _ => 91
def fH (H : List Nat) : Prop := ∀ y ∈ H, y = 4 ∨ y = 5 ∨ y = 6 ∨ y = 16
def RH (S : fS) (H : List Nat) : Prop := S.1 145 21 = o3 H.length ∧ S.1 145 18 = o3 (dep H) ∧ ∀ k, k < H.length → S.1 154 k = o3 (hm (H.reverse.getD k 0))
theorem fH_el {H : List Nat} (h : fH H) : elH H := fun y hy => by have := h y hy; omega
theorem fH_st {b : Nat} {H : List Nat} (h : fH H) : fH (stR b H) := fun y hy => h y (stR_mem H hy)
theorem fH_tl {H : List Nat} (h : fH H) : fH H.tail := fun y hy => h y (List.mem_of_mem_tail hy)
theorem fH_c {s : Nat} {H : List Nat} (h : fH H) (hs : s = 4 ∨ s = 5 ∨ s = 6 ∨ s = 16) : fH (s :: H) := fun y hy => by
  rcases List.mem_cons.mp hy with rfl | hy
  · exact hs
  · exact h y hy
theorem RH_eq {S T : fS} {H : List Nat} (h : RH S H) (h1 : T.1 145 21 = S.1 145 21) (h2 : T.1 145 18 = S.1 145 18) (h3 : ∀ k, T.1 154 k = S.1 154 k) : RH T H := ⟨h1.trans h.1, h2.trans h.2.1, fun k hk => (h3 k).trans (h.2.2 k hk)⟩
theorem RQ_eq {S T : fS} {x m : Nat} {c : List (Nat × Nat)} (h : RQ S x m c) (h1 : T.1 145 16 = S.1 145 16) (h2 : T.1 145 17 = S.1 145 17) (h3 : ∀ k, T.1 148 k = S.1 148 k) (h4 : ∀ k, T.1 147 k = S.1 147 k) : RQ T x m c := ⟨h1.trans h.1, h2.trans h.2.1, (h3 x).trans h.2.2.1, fun k hk => (h4 _).trans (h.2.2.2 k hk)⟩
theorem RH_fr {w1 w2 : Nat → Nat → Prop} {S T : fS} {i w u i' w' u' : Int32} {H : List Nat} (h : RH S H) (hF : Fr w1 w2 (mS S i w u) (mS T i' w' u')) (h1 : ¬ w1 145 21) (h2 : ¬ w1 145 18) (h3 : ∀ k, ¬ w1 154 k) : RH T H := by
  refine RH_eq h ?_ ?_ (fun k => ?_)
  · have := hF.1 145 21 h1; rw [mS_ne (by omega), mS_ne (by omega)] at this; exact this
  · have := hF.1 145 18 h2; rw [mS_ne (by omega), mS_ne (by omega)] at this; exact this
  · have := hF.1 154 k (h3 k); rw [mS_ne (by omega), mS_ne (by omega)] at this; exact this
section MH
variable {t : Nat → Int32} {n x m : Nat} {c : List (Nat × Nat)} {u : Int32}
theorem RH_pu {S : fS} {H : List Nat} {s d : Nat} (h : RH S H) (hd : d = dep (s :: H)) : RH (pI (pI (pI S 145 18 (o3 d)) 154 H.length (o3 (hm s))) 145 21 (o3 (H.length + 1))) (s :: H) := by
  obtain ⟨r1, r2, r3⟩ := h
  refine ⟨?_, ?_, fun k hk => ?_⟩
  · rw [pI_eq]; rfl
  · rw [pI_ne (by omega), pI_ne (by omega), pI_eq, hd]
  · have hk : k < H.length + 1 := hk
    rw [pI_ne (by omega), List.reverse_cons]
    by_cases e : k = H.length
    · subst e
      rw [pI_eq, show (H.reverse ++ [s]).getD H.length 0 = s by
        have := gd_r (c := H.reverse) (q := s) (d := 0)
        rwa [List.length_reverse] at this]
    · rw [pI_ne (by omega), pI_ne (by omega), gd_l (by rw [List.length_reverse]; omega)]
      exact r3 k (by omega)
theorem mo_opens {S : fS} {H : List Nat} {j s : Nat} {v : Int32} (hR : RQ S x m c) (hH : RH S H) (hd : dep H ≤ 10) (hL : H.length < 400) (hs : s = 4 ∨ s = 16) (hv : v = o3 (hm s)) : ∃ T, f_X11_opens v (mS S (o3 j) 0 u) = some (if 10 ≤ dep H then (0, mS S (o3 j) (o3 (1 + 8 * j + 2)) u) else (1, mS T (o3 j) 0 u)) ∧ RQ T x m c ∧ RH T (s :: H) ∧ eMr x S T := by
  refine ⟨_, ?_, ?_, RH_pu (s := s) (d := dep H + 1) hH (by rcases hs with rfl | rfl <;> rfl), ((eMr_pI (by unfold wMr; omega)).tr (eMr_pI (by unfold wMr; omega))).tr (eMr_pI (by unfold wMr; omega))⟩
  · unfold f_X11_opens
    rw [mS_ne (by omega), hH.2.1]
    by_cases h : 10 ≤ dep H
    · rw [if_pos (show o3 (dep H) = (10 : Int32) by rw [show dep H = 10 by omega]; rfl), if_pos h, mS_13, mt_fails mS_14, bd_some, mS_wr, show (8 : Int32) = o3 8 from rfl, show (1 : Int32) = o3 1 from rfl, show (2 : Int32) = o3 2 from rfl, o3_mul, o3_add, o3_add]
      rfl
    · rw [if_neg (show ¬ o3 (dep H) = (10 : Int32) from fun q => by have := (o3_inj (b := 10) (by omega) (by omega)).mp q; omega), if_neg h, bd_some, o3_s, mS_p (by omega), mS_ne (by omega), pI_ne (by omega), hH.1, sI_o (by omega) (by omega), bd_some, mS_p (by omega), bd_some, mS_ne (by omega), pI_ne (by omega), pI_ne (by omega), hH.1, o3_s, mS_p (by omega), hv]
  · refine RQ_eq hR ?_ ?_ (fun k => ?_) (fun k => ?_) <;> rw [pI_ne (by omega), pI_ne (by omega), pI_ne (by omega)]
theorem mo_fact (hl : n ≤ 400) (hb : ∀ k, byt (t k)) {K : fS → Option (Int32 × fS)} : ∀ d i H (S : fS) nn, dep H + d = 10 → d + 1 < nn → S.1 145 1 = o3 n → S.1 146 = t → RQ S x m c → RH S H → H.length ≤ i → i ≤ n → ∃ T w', lp_X11_fact_2 K nn 1 (mS S (o3 i) 0 u) = (if (opn t n (d + 1) i H).1 = 0 then K (mS T (o3 (opn t n (d + 1) i H).2.1) 0 u) else some (0, mS T w' (o3 (opn t n (d + 1) i H).1) u)) ∧ eMr x S T ∧ ((opn t n (d + 1) i H).1 = 0 → RQ T x m c ∧ RH T (opn t n (d + 1) i H).2.2) := by
  intro d
  induction d with
  | zero =>
    intro i H S nn hd hnn hn ht hR hH hL hi
    obtain ⟨nn, rfl⟩ : ∃ k, nn = k + 2 := ⟨nn - 2, by omega⟩
    subst ht
    have hj := sk_le (t := S.1 146) hi
    have hg := sk_ge (t := S.1 146) (n := n) (i := i)
    rw [lp_X11_fact_2.eq_2, if_neg (by decide), mt_see hn hl hi, bd_some, opn_s]
    dsimp only
    generalize hsk : sk (S.1 146) n i = j at hj hg
    have hid : sk (S.1 146) n j = j := by rw [← hsk]; exact sk_id
    rw [mr_word hn hl 7237492 5 (by decide) (by decide) hj, bd_some, hid]
    dsimp only
    by_cases hw : wat (S.1 146) n (mm_sb.getD 5 []) j = true
    · obtain ⟨T, e1, e2, e3, e4⟩ := mo_opens (u := u) (j := j) hR hH (by omega) (by
        have := (wat_ll (t := S.1 146) (n := n) _ j (mw_L 5 (by decide))).mp hw
        have h2 := ll_le (t := S.1 146) (n := n) _ j rfl hj
        rw [this.1, show (mm_sb.getD 5 []).length = 3 from rfl] at h2
        omega) (s := 4) (Or.inl rfl) (v := 11) rfl
      rw [if_pos hw, if_neg (by decide), e1, bd_some, if_pos (show 10 ≤ dep H by omega), if_pos hw, if_pos (show 10 ≤ dep H by omega)]
      dsimp only
      rw [if_pos rfl]
      exact ⟨S, o3 j, by rw [if_neg (by omega)], eMr.rf, fun q => by omega⟩
    · rw [if_neg hw, if_pos (by decide), if_neg hw]
      by_cases h9 : j < n ∧ S.1 146 j = 91
      · obtain ⟨T, e1, e2, e3, e4⟩ := mo_opens (u := u) (j := j) hR hH (by omega) (by omega) (s := 16) (Or.inr rfl) (v := 91) rfl
        rw [if_pos ((seen_eq hb (by decide) (by decide)).mpr h9), if_pos h9, e1, bd_some, if_pos (show 10 ≤ dep H by omega), if_pos (show 10 ≤ dep H by omega)]
        dsimp only
        rw [if_pos rfl]
        exact ⟨S, o3 j, by rw [if_neg (by omega)], eMr.rf, fun q => by omega⟩
      · rw [if_neg (fun q => h9 ((seen_eq hb (by decide) (by decide)).mp q)), if_neg h9, lp_X11_fact_2.eq_2, if_pos (by decide)]
        exact ⟨S, 0, rfl, eMr.rf, fun _ => ⟨hR, hH⟩⟩
  | succ d ih =>
    intro i H S nn hd hnn hn ht hR hH hL hi
    obtain ⟨nn, rfl⟩ : ∃ k, nn = k + 2 := ⟨nn - 2, by omega⟩
    subst ht
    have hj := sk_le (t := S.1 146) hi
    have hg := sk_ge (t := S.1 146) (n := n) (i := i)
    rw [lp_X11_fact_2.eq_2, if_neg (by decide), mt_see hn hl hi, bd_some, opn_s]
    dsimp only
    generalize hsk : sk (S.1 146) n i = j at hj hg
    have hid : sk (S.1 146) n j = j := by rw [← hsk]; exact sk_id
    rw [mr_word hn hl 7237492 5 (by decide) (by decide) hj, bd_some, hid]
    dsimp only
    by_cases hw : wat (S.1 146) n (mm_sb.getD 5 []) j = true
    · have hl3 := (wat_ll (t := S.1 146) (n := n) _ j (mw_L 5 (by decide))).mp hw
      have h2 := ll_le (t := S.1 146) (n := n) _ j rfl hj
      rw [hl3.1, show (mm_sb.getD 5 []).length = 3 from rfl] at h2
      obtain ⟨T, e1, e2, e3, e4⟩ := mo_opens (u := u) (j := j) hR hH (by omega) (by omega) (s := 4) (Or.inl rfl) (v := 11) rfl
      rw [if_pos hw, if_neg (by decide), e1, bd_some, if_neg (show ¬ 10 ≤ dep H by omega), if_pos hw, if_neg (show ¬ 10 ≤ dep H by omega)]
      dsimp only
      rw [if_neg (by decide), mt_pass ((eMr_1 e4).trans hn) hl hj, bd_some, eMr_t e4, hl3.1, show (mm_sb.getD 5 []).length = 3 from rfl]
      obtain ⟨T2, w', g1, g2, g3⟩ := ih (j + 3) (4 :: H) T (nn + 1) (by rw [dep_4]; omega) (by omega) ((eMr_1 e4).trans hn) (eMr_t e4) e2 e3 (by show H.length + 1 ≤ j + 3; omega) (by omega)
      exact ⟨T2, w', g1, e4.tr g2, g3⟩
    · rw [if_neg hw, if_pos (by decide), if_neg hw]
      by_cases h9 : j < n ∧ S.1 146 j = 91
      · obtain ⟨T, e1, e2, e3, e4⟩ := mo_opens (u := u) (j := j) hR hH (by omega) (by omega) (s := 16) (Or.inr rfl) (v := 91) rfl
        rw [if_pos ((seen_eq hb (by decide) (by decide)).mpr h9), if_pos h9, e1, bd_some, if_neg (show ¬ 10 ≤ dep H by omega), if_neg (show ¬ 10 ≤ dep H by omega)]
        dsimp only
        rw [if_neg (by decide), bd_some, mS_13, mS_nx, o3_s]
        obtain ⟨T2, w', g1, g2, g3⟩ := ih (j + 1) (16 :: H) T (nn + 1) (by rw [dep_16]; omega) (by omega) ((eMr_1 e4).trans hn) (eMr_t e4) e2 e3 (by show H.length + 1 ≤ j + 1; omega) (by omega)
        exact ⟨T2, w', g1, e4.tr g2, g3⟩
      · rw [if_neg (fun q => h9 ((seen_eq hb (by decide) (by decide)).mp q)), if_neg h9, lp_X11_fact_2.eq_2, if_pos (by decide)]
        exact ⟨S, 0, rfl, eMr.rf, fun _ => ⟨hR, hH⟩⟩
end MH
end
section
/-! the reference: settles(), isInside(), closes() -/
theorem st_st {b b' : Nat} (hb : b ≤ b') : ∀ H, stO b' H ++ stO b (stR b' H) = stO b H ∧ stR b (stR b' H) = stR b H := by
  intro H
  induction H with
  | nil => exact ⟨rfl, rfl⟩
  | cons s H ih =>
    by_cases h : b' ≤ bnd s
    · rw [stO_c h, stR_c h, stO_c (show b ≤ bnd s by omega), stR_c (show b ≤ bnd s by omega)]
      exact ⟨congrArg _ ih.1, ih.2⟩
    · have e1 : stO b' (s :: H) = [] := by show (if b' ≤ bnd s then _ else _) = _; rw [if_neg h]
      have e2 : stR b' (s :: H) = s :: H := by show (if b' ≤ bnd s then _ else _) = _; rw [if_neg h]
      rw [e1, e2]
      exact ⟨rfl, rfl⟩
section MS
variable {t : Nat → Int32} {n x m : Nat} {i u : Int32}
theorem ms_str {y : Nat} {S : fS} (h : y = 4 ∨ y = 5 ∨ y = 6 ∨ y = 16) : f_X11_strength (o3 (hm y)) S = some (o3 (bnd y)) := by
  rcases h with rfl | rfl | rfl | rfl <;> rfl
theorem RH_po {S : fS} {H : List Nat} {s : Nat} (h : RH S (s :: H)) : RH (pI (pI S 145 21 (o3 H.length)) 145 18 (o3 (dep H))) H := by
  obtain ⟨r1, r2, r3⟩ := h
  refine ⟨?_, ?_, fun k hk => ?_⟩
  · rw [pI_ne (by omega), pI_eq]
  · rw [pI_eq]
  · rw [pI_ne (by omega), pI_ne (by omega), r3 k (by show k < H.length + 1; omega), List.reverse_cons, gd_l (by rw [List.length_reverse]; exact hk)]
theorem RH_po' {S : fS} {H : List Nat} {s : Nat} (h : RH S (s :: H)) (hs : dep (s :: H) = dep H) : RH (pI S 145 21 (o3 H.length)) H := by
  have := RH_po h
  refine RH_eq this ?_ ?_ (fun k => ?_)
  · rw [pI_eq, pI_ne (by omega), pI_eq]
  · rw [pI_ne (by omega), pI_eq, h.2.1, hs]
  · rw [pI_ne (by omega), pI_ne (by omega), pI_ne (by omega)]
theorem RH_top {S : fS} {H : List Nat} {s : Nat} (h : RH S (s :: H)) : S.1 154 H.length = o3 (hm s) := by
  rw [h.2.2 H.length (by show _ < H.length + 1; omega), List.reverse_cons]
  have := gd_r (c := H.reverse) (q := s) (d := 0)
  rw [List.length_reverse] at this
  rw [this]
theorem ms_settles (hx : x < 6) {b : Nat} (hb : 1 ≤ b) (hb3 : b ≤ 3) {K : fS → Option fS} : ∀ (H : List Nat) (c : List (Nat × Nat)) (S : fS) nn, H.length < nn → RQ S x m c → RH S H → fH H → dep H ≤ 10 → c.length + H.length ≤ 400 → ∃ T, lp_X11_settles_0 (o3 b) K nn (mS S i 0 u) = K (mS T i 0 u) ∧ eMr x S T ∧ RQ T x m (c ++ stO b H) ∧ RH T (stR b H) := by
  intro H
  induction H with
  | nil =>
    intro c S nn hnn hR hH hf hd hc
    obtain ⟨nn, rfl⟩ : ∃ k, nn = k + 1 := ⟨nn - 1, by have : 0 < nn := hnn; omega⟩
    rw [lp_X11_settles_0.eq_2, mS_ne (by omega), hH.1, if_pos (by decide)]
    exact ⟨S, rfl, eMr.rf, by rw [show stO b [] = [] from rfl, List.append_nil]; exact hR, hH⟩
  | cons s H ih =>
    intro c S nn hnn hR hH hf hd hc
    obtain ⟨nn, rfl⟩ : ∃ k, nn = k + 1 := ⟨nn - 1, by have : H.length + 1 < nn := hnn; omega⟩
    have hnn : H.length + 1 < nn + 1 := hnn
    have hc : c.length + (H.length + 1) ≤ 400 := hc
    have hs := hf s List.mem_cons_self
    have hf' : fH H := fun y hy => hf y (List.mem_cons_of_mem _ hy)
    have hb6 := bnd_6 s
    rw [lp_X11_settles_0.eq_2, mS_ne (by omega), hH.1, show (s :: H).length = H.length + 1 from rfl]
    rw [if_neg (show ¬ o3 (H.length + 1) ≤ (0 : Int32) from fun q => by have := (o3_le (b := 0) (by omega) (by omega)).mp q; omega), show (1 : Int32) = o3 1 from rfl, o3_sub (by omega), show H.length + 1 - 1 = H.length by omega, gI_o (by omega) (by omega), bd_some, mS_ne (by omega), RH_top hH, ms_str hs, bd_some]
    by_cases hq : b ≤ bnd s
    · rw [if_neg (show ¬ o3 (bnd s) < o3 b from fun q => by have := (o3_lt (by omega) (by omega)).mp q; omega), bd_some, mS_p (by omega), mS_ne (by omega), pI_eq, gI_o (by omega) (by omega), bd_some, mS_ne (by omega), pI_ne (by omega), RH_top hH]
      have h16 : s ≠ 16 := fun q => by rw [q] at hq; have : bnd 16 = 0 := rfl; omega
      have hR1 : RQ (pI S 145 21 (o3 H.length)) x m c := by
        refine RQ_eq hR ?_ ?_ (fun k => ?_) (fun k => ?_) <;> rw [pI_ne (by omega)]
      obtain ⟨T1, e1, e2, e3⟩ := mp_puts (i := i) (w := 0) (u := u) hR1 hx (by omega) (s := s) (v := 0) (a := o3 (hm s)) (b := 0) (by rcases hs with rfl | rfl | rfl | rfl <;> first | rfl | exact absurd rfl h16) rfl
      have hF := fr_f_X11_puts e1
      have k21 : T1.1 145 21 = o3 H.length := by
        have := hF.1 145 21 (by unfold w1_f_X11_puts; omega)
        rw [mS_ne (by omega), mS_ne (by omega), pI_eq] at this
        exact this
      have k18 : T1.1 145 18 = o3 (dep (s :: H)) := by
        have := hF.1 145 18 (by unfold w1_f_X11_puts; omega)
        rw [mS_ne (by omega), mS_ne (by omega), pI_ne (by omega)] at this
        exact this.trans hH.2.1
      have k154 : ∀ k, T1.1 154 k = S.1 154 k := fun k => by
        have := hF.1 154 k (by unfold w1_f_X11_puts; omega)
        rw [mS_ne (by omega), mS_ne (by omega), pI_ne (by omega)] at this
        exact this
      have hH1 : RH T1 (s :: H) → True := fun _ => trivial
      have e0 : eMr x S (pI S 145 21 (o3 H.length)) := eMr_pI (by unfold wMr; omega)
      rw [e1, bd_some, mS_ne (by omega), k21, gI_o (by omega) (by omega), bd_some, mS_ne (by omega), k154, RH_top hH, stO_c hq, stR_c hq]
      by_cases h4 : s = 4
      · subst h4
        have hd4 : dep (4 :: H) = dep H + 1 := dep_4
        rw [if_pos (show o3 (hm 4) = (11 : Int32) from rfl), bd_some, mS_ne (by omega), k18, hd4, o3_sub (by omega), show dep H + 1 - 1 = dep H by omega, mS_p (by omega)]
        have hH2 : RH (pI T1 145 18 (o3 (dep H))) H := by
          refine RH_eq (RH_po hH) ?_ ?_ (fun k => ?_)
          · rw [pI_ne (by omega), pI_ne (by omega), pI_eq, k21]
          · rw [pI_eq, pI_eq]
          · rw [pI_ne (by omega), pI_ne (by omega), pI_ne (by omega), k154]
        have hR2 : RQ (pI T1 145 18 (o3 (dep H))) x m (c ++ [(4, 0)]) := by
          refine RQ_eq e2 ?_ ?_ (fun k => ?_) (fun k => ?_) <;> rw [pI_ne (by omega)]
        obtain ⟨T, g1, g2, g3, g4⟩ := ih (c ++ [(4, 0)]) _ nn (by omega) hR2 hH2 hf' (by omega) (by rw [ln_app]; omega)
        exact ⟨T, g1, ((e0.tr e3).tr (eMr_pI (by unfold wMr; omega))).tr g2, by rw [List.append_assoc] at g3; exact g3, g4⟩
      · have hde : dep (s :: H) = dep H := dep_pu ⟨h4, h16⟩
        rw [if_neg (show ¬ o3 (hm s) = (11 : Int32) by rcases hs with rfl | rfl | rfl | rfl <;> first | exact absurd rfl h4 | decide)]
        have hH2 : RH T1 H := by
          refine RH_eq (RH_po' hH hde) ?_ ?_ (fun k => ?_)
          · rw [pI_eq, k21]
          · rw [pI_ne (by omega), k18, hH.2.1]
          · rw [pI_ne (by omega), k154]
        obtain ⟨T, g1, g2, g3, g4⟩ := ih (c ++ [(s, 0)]) _ nn (by omega) e2 hH2 hf' (by omega) (by rw [ln_app]; omega)
        exact ⟨T, g1, (e0.tr e3).tr g2, by rw [List.append_assoc] at g3; exact g3, g4⟩
    · have e1 : stO b (s :: H) = [] := by show (if b ≤ bnd s then _ else _) = _; rw [if_neg hq]
      have e2 : stR b (s :: H) = s :: H := by show (if b ≤ bnd s then _ else _) = _; rw [if_neg hq]
      rw [if_pos (show o3 (bnd s) < o3 b from (o3_lt (by omega) (by omega)).mpr (by omega)), e1, e2, List.append_nil]
      exact ⟨S, rfl, eMr.rf, hR, hH⟩
theorem ms_set (hx : x < 6) {b : Nat} (hb : 1 ≤ b) (hb3 : b ≤ 3) {H : List Nat} {c : List (Nat × Nat)} {S : fS} (hR : RQ S x m c) (hH : RH S H) (hf : fH H) (hd : dep H ≤ 10) (hc : c.length + H.length ≤ 400) : ∃ T, f_X11_settles (o3 b) (mS S i 0 u) = some (mS T i 0 u) ∧ eMr x S T ∧ RQ T x m (c ++ stO b H) ∧ RH T (stR b H) := ms_settles hx hb hb3 (K := fun S25 => some S25) H c S FU (FU_lt (by omega)) hR hH hf hd hc
theorem tk_s : ∀ (H : List Nat) (d : Nat), d < H.length → brk (H.take (d + 1)) = brk (H.take d) + (if H.getD d 0 = 16 then 1 else 0) := by
  intro H
  induction H with
  | nil => intro d h; exact absurd h (Nat.not_lt_zero _)
  | cons s H ih =>
    intro d h
    cases d with
    | zero => show brk (List.take 0 H) + _ = _; rw [List.take_zero]; rfl
    | succ d =>
      have := ih d (Nat.lt_of_succ_lt_succ h)
      show brk (List.take (d + 1) H) + _ = brk (List.take d H) + _ + _
      rw [this]
      have : (s :: H).getD (d + 1) 0 = H.getD d 0 := rfl
      rw [this]
      omega
theorem gd_rev : ∀ (H : List Nat) (d : Nat), d < H.length → H.reverse.getD (H.length - 1 - d) 0 = H.getD d 0 := by
  intro H d h
  rw [List.getD_eq_getElem?_getD, List.getElem?_reverse (by omega), List.getD_eq_getElem?_getD, show H.length - 1 - (H.length - 1 - d) = d by omega]
theorem ms_in {S : fS} {H : List Nat} (hH : RH S H) (hL : H.length ≤ 400) (hf : fH H) {K : Unit → Option Int32} : ∀ d p nn, p + d = H.length → d < nn → lp_X11_isInside_2 S K nn (o3 p) = if 0 < brk (H.take d) then some 1 else K () := by
  intro d
  induction d with
  | zero =>
    intro p nn hp hnn
    obtain ⟨nn, rfl⟩ : ∃ k, nn = k + 1 := ⟨nn - 1, by omega⟩
    rw [lp_X11_isInside_2.eq_2, hH.1, if_pos ((o3_le (by omega) (by omega)).mpr (by omega)), List.take_zero, if_neg (by decide)]
  | succ d ih =>
    intro p nn hp hnn
    obtain ⟨nn, rfl⟩ : ∃ k, nn = k + 1 := ⟨nn - 1, by omega⟩
    rw [lp_X11_isInside_2.eq_2, hH.1, if_neg (fun q => by have := (o3_le (by omega) (by omega)).mp q; omega), gI_o (by omega) (by omega), bd_some, hH.2.2 p (by omega), tk_s H d (by omega), show p = H.length - 1 - d by omega, gd_rev H d (by omega)]
    have hy : H.getD d 0 ∈ H := by
      rw [List.getD_eq_getElem?_getD, List.getElem?_eq_getElem (by omega)]
      exact List.getElem_mem _
    have hy := hf _ hy
    by_cases h16 : H.getD d 0 = 16
    · rw [if_pos (by rw [h16]; rfl), if_pos h16, if_pos (by omega)]
    · rw [if_neg (by rcases hy with e | e | e | e <;> first | exact absurd e h16 | (rw [e]; decide)), if_neg h16, Nat.add_zero, o3_s, ih (H.length - 1 - d + 1) nn (by omega) (by omega)]
theorem ms_inside {S : fS} {H : List Nat} (hH : RH S H) (hL : H.length ≤ 400) (hf : fH H) : f_X11_isInside (mS S i 0 u) = some (if 0 < brk H then 1 else 0) := by
  unfold f_X11_isInside
  have hH' : RH (mS S i 0 u) H := RH_eq hH (mS_ne (by omega)) (mS_ne (by omega)) (fun k => mS_ne (by omega))
  have := ms_in hH' hL hf (K := fun _ => some 0) H.length 0 FU (by omega) (FU_lt (by omega))
  rw [show (0 : Int32) = o3 0 from rfl] at *
  rw [this, List.take_length]
  split <;> rfl
end MS
end
section
/-! the reference: closes(), tested() -/
/-- words that join two facts -/
def cnt : List Nat → Nat
  | [] => 0
  | s :: H => cnt H + (if s = 5 ∨ s = 6 then 1 else 0)
theorem cnt_op : ∀ (P H : List Nat), (∀ x ∈ P, x = 4 ∨ x = 16) → cnt (P ++ H) = cnt H := by
  intro P
  induction P with
  | nil => intro H _; rfl
  | cons s P ih =>
    intro H h
    show cnt (P ++ H) + _ = _
    rw [ih H (fun x hx => h x (List.mem_cons_of_mem _ hx)), if_neg (by have := h s List.mem_cons_self; omega)]
    rfl
def rep (k : Nat) : List Bool := List.replicate k true
theorem rep_s {k : Nat} : rep (k + 1) = true :: rep k := rfl
theorem ty_st {b : Nat} (hb : 1 ≤ b) : ∀ H, fH H → tyc (stO b H) (rep (cnt H + 1)) = some (rep (cnt (stR b H) + 1)) := by
  intro H
  induction H with
  | nil => intro _; rfl
  | cons s H ih =>
    intro hf
    have hs := hf s List.mem_cons_self
    have ih := ih (fun y hy => hf y (List.mem_cons_of_mem _ hy))
    by_cases h : b ≤ bnd s
    · rw [stO_c h, stR_c h]
      show (tyS (s, 0) (rep (cnt H + _ + 1))).bind (tyc (stO b H)) = _
      rcases hs with rfl | rfl | rfl | rfl
      · exact ih
      · exact ih
      · exact ih
      · exact absurd h (by show ¬ b ≤ 0; omega)
    · have e1 : stO b (s :: H) = [] := by show (if b ≤ bnd s then _ else _) = _; rw [if_neg h]
      have e2 : stR b (s :: H) = s :: H := by show (if b ≤ bnd s then _ else _) = _; rw [if_neg h]
      rw [e1, e2]
      rfl
theorem ty_clo {t : Nat → Int32} {n : Nat} : ∀ f i H, fH H → tyc (clo t n f i H).1 (rep (cnt H + 1)) = some (rep (cnt (clo t n f i H).2.2 + 1)) := by
  intro f
  induction f with
  | zero => intro i H _; rfl
  | succ f ih =>
    intro i H hf
    rw [clo_s]
    by_cases hb : 0 < brk H
    · rw [if_pos hb]
      by_cases h9 : sk t n i < n ∧ t (sk t n i) = 93
      · rw [if_pos h9]
        obtain ⟨H', p1, p2, p3, p4, p5⟩ := st1_16 H (fH_el hf) hb
        dsimp only
        rw [tyc_app, ty_st (by omega) H hf, Option.bind_some, p1]
        have hf' : fH H' := fun y hy => by
          refine hf y (stR_mem (b := 1) H ?_)
          rw [p1]; exact List.mem_cons_of_mem _ hy
        exact ih _ H' hf'
      · rw [if_neg h9]; rfl
    · rw [if_neg hb]; rfl
section MT8
variable {t : Nat → Int32} {n x : Nat}
theorem fH_len {b : Nat} (H : List Nat) : (stO b H).length + (stR b H).length = H.length := stR_len H
theorem mb_closes (hl : n ≤ 400) (hx : x < 6) (hb : ∀ k, byt (t k)) {K : fS → Option fS} {m : Nat} {u : Int32} : ∀ d (H : List Nat) (c : List (Nat × Nat)) (S : fS) (i nn : Nat), brk H = d → d < nn → S.1 145 1 = o3 n → S.1 146 = t → RQ S x m (c ++ stO 3 H) → RH S (stR 3 H) → fH H → dep H ≤ 10 → c.length + H.length ≤ i → i ≤ n → ∃ T, lp_X11_closes_5 K nn (mS S (o3 i) 0 u) = K (mS T (o3 (sk t n (clo t n (d + 1) i H).2.1)) 0 u) ∧ eMr x S T ∧ RQ T x m (c ++ (clo t n (d + 1) i H).1 ++ stO 3 (clo t n (d + 1) i H).2.2) ∧ RH T (stR 3 (clo t n (d + 1) i H).2.2) ∧ fH (clo t n (d + 1) i H).2.2 := by
  intro d
  induction d with
  | zero =>
    intro H c S i nn hd hnn hn ht hR hH hf hD hc hi
    obtain ⟨nn, rfl⟩ : ∃ k, nn = k + 1 := ⟨nn - 1, by omega⟩
    subst ht
    have hlen := stR_len (b := 3) H
    rw [lp_X11_closes_5.eq_2, mt_see hn hl hi, bd_some, clo_s, if_neg (show ¬ 0 < brk H by omega)]
    dsimp only
    rw [List.append_nil]
    by_cases h9 : seen (S.1 146) n (sk (S.1 146) n i) = 93
    · rw [if_pos h9, ms_inside hH (by omega) (fH_st hf), bd_some, stR_brk (by omega), hd, if_neg (show ¬ 0 < 0 by omega), if_pos rfl]
      exact ⟨S, rfl, eMr.rf, hR, hH, hf⟩
    · rw [if_neg h9]
      exact ⟨S, rfl, eMr.rf, hR, hH, hf⟩
  | succ d ih =>
    intro H c S i nn hd hnn hn ht hR hH hf hD hc hi
    obtain ⟨nn, rfl⟩ : ∃ k, nn = k + 1 := ⟨nn - 1, by omega⟩
    subst ht
    have hlen := stR_len (b := 3) H
    have hlen1 := stR_len (b := 1) H
    have hj := sk_le (t := S.1 146) hi
    have hg := sk_ge (t := S.1 146) (n := n) (i := i)
    rw [lp_X11_closes_5.eq_2, mt_see hn hl hi, bd_some, clo_s, if_pos (show 0 < brk H by omega)]
    dsimp only
    by_cases h9 : sk (S.1 146) n i < n ∧ S.1 146 (sk (S.1 146) n i) = 93
    · obtain ⟨H', p1, p2, p3, p4, p5⟩ := st1_16 H (fH_el hf) (by omega)
      obtain ⟨s1, s2⟩ := st_st (b := 1) (b' := 3) (by omega) H
      rw [if_pos ((seen_eq hb (by decide) (by decide)).mpr h9), if_pos h9, ms_inside hH (by omega) (fH_st hf), bd_some, stR_brk (by omega), if_pos (show 0 < brk H by omega), if_neg (show ¬ (1 : Int32) = 0 by decide)]
      have hcl : (c ++ stO 3 H).length = c.length + (stO 3 H).length := List.length_append
      obtain ⟨T1, e1, e2, e3, e4⟩ := ms_set (i := o3 (sk (S.1 146) n i)) (u := u) hx (b := 1) (by omega) (by omega) hR hH (fH_st hf) (Nat.le_trans (stR_dep H) hD) (by omega)
      rw [s2, p1] at e4
      rw [List.append_assoc, s1] at e3
      have e1' : f_X11_settles 1 (mS S (o3 (sk (S.1 146) n i)) 0 u) = some (mS T1 (o3 (sk (S.1 146) n i)) 0 u) := e1
      have q21 : T1.1 145 21 = o3 (H'.length + 1) := e4.1
      have q18 : T1.1 145 18 = o3 (dep H' + 1) := e4.2.1
      rw [e1', bd_some, bd_some, mS_ne (by omega), q21, show (1 : Int32) = o3 1 from rfl, o3_sub (by omega), show H'.length + 1 - 1 = H'.length by omega, mS_p (by omega), bd_some, mS_ne (by omega), pI_ne (by omega), q18, o3_sub (by omega), show dep H' + 1 - 1 = dep H' by omega, mS_p (by omega), bd_some, mS_13, mS_nx, o3_add]
      have hH2 := RH_po e4
      have hf' : fH H' := fun y hy => by
        refine hf y (stR_mem (b := 1) H ?_)
        rw [p1]; exact List.mem_cons_of_mem _ hy
      have hR2 : RQ (pI (pI T1 145 21 (o3 H'.length)) 145 18 (o3 (dep H'))) x m (c ++ stO 1 H) := by
        refine RQ_eq e3 ?_ ?_ (fun k => ?_) (fun k => ?_) <;> rw [pI_ne (by omega), pI_ne (by omega)]
      have hE : eMr x S (pI (pI T1 145 21 (o3 H'.length)) 145 18 (o3 (dep H'))) := (e2.tr (eMr_pI (by unfold wMr; omega))).tr (eMr_pI (by unfold wMr; omega))
      have hcl2 : (c ++ stO 1 H).length = c.length + (stO 1 H).length := List.length_append
      obtain ⟨T2, g1, g2, g3, g4⟩ := ms_set (i := o3 (sk (S.1 146) n i + 1)) (u := u) hx (b := 3) (by omega) (by omega) hR2 hH2 hf' (by omega) (by omega)
      have g1' : f_X11_settles 3 (mS (pI (pI T1 145 21 (o3 H'.length)) 145 18 (o3 (dep H'))) (o3 (sk (S.1 146) n i + 1)) 0 u) = some (mS T2 (o3 (sk (S.1 146) n i + 1)) 0 u) := g1
      rw [g1', bd_some]
      have hE2 := hE.tr g2
      obtain ⟨T3, k1, k2, k3, k4, k5⟩ := ih H' (c ++ stO 1 H) T2 (sk (S.1 146) n i + 1) nn (by omega) (by omega) ((eMr_1 hE2).trans hn) (eMr_t hE2) g3 g4 hf' (by omega) (by omega) (by omega)
      rw [p1, show (16 :: H').tail = H' from rfl]
      refine ⟨T3, k1, hE2.tr k2, ?_, k4, k5⟩
      rw [← List.append_assoc]
      exact k3
    · rw [if_neg (fun q => h9 ((seen_eq hb (by decide) (by decide)).mp q)), if_neg h9]
      dsimp only
      rw [List.append_nil, sk_id]
      exact ⟨S, rfl, eMr.rf, hR, hH, hf⟩
theorem mb_close (hl : n ≤ 400) (hx : x < 6) (hb : ∀ k, byt (t k)) {m : Nat} {u : Int32} {H : List Nat} {c : List (Nat × Nat)} {S : fS} {i : Nat} (hn : S.1 145 1 = o3 n) (ht : S.1 146 = t) (hR : RQ S x m c) (hH : RH S H) (hf : fH H) (hD : dep H ≤ 10) (hc : c.length + H.length ≤ i) (hi : i ≤ n) : ∃ T, f_X11_closes (mS S (o3 i) 0 u) = some (mS T (o3 (sk t n (clo t n (brk H + 1) i H).2.1)) 0 u) ∧ eMr x S T ∧ RQ T x m (c ++ (clo t n (brk H + 1) i H).1 ++ stO 3 (clo t n (brk H + 1) i H).2.2) ∧ RH T (stR 3 (clo t n (brk H + 1) i H).2.2) ∧ fH (clo t n (brk H + 1) i H).2.2 := by
  unfold f_X11_closes
  obtain ⟨T1, e1, e2, e3, e4⟩ := ms_set (i := o3 i) (u := u) hx (b := 3) (by omega) (by omega) hR hH hf hD (by omega)
  have e1' : f_X11_settles 3 (mS S (o3 i) 0 u) = some (mS T1 (o3 i) 0 u) := e1
  rw [e1', bd_some]
  obtain ⟨T3, k1, k2, k3, k4, k5⟩ := mb_closes hl hx hb (K := fun S27 => some S27) (u := u) (brk H) H c T1 i FU rfl (FU_lt (by have := brk_dep H; omega)) ((eMr_1 e2).trans hn) ((eMr_t e2).trans ht) e3 e4 hf hD hc hi
  exact ⟨T3, k1, e2.tr k2, k3, k4, k5⟩
theorem RUN_due {cp : Bool} {m i : Nat} {c : List (Nat × Nat)} {H : List Nat} (he : elH H) (hd : dep H ≤ 10) (hi : i ≤ n) : RUN t n (true, cp, m, c, H, i) = if (opn t n (11 - dep H) i H).1 = 0 then VR t n false m c (opn t n (11 - dep H) i H).2.2 (opn t n (11 - dep H) i H).2.1 else ((opn t n (11 - dep H) i H).1, 0, 0, []) := by
  rw [RUN_s ⟨he, hd, hi⟩]
  unfold stp
  dsimp only
  rw [if_pos rfl]
  by_cases h : (opn t n (11 - dep H) i H).1 = 0
  · rw [if_pos h, if_pos h]; rfl
  · rw [if_neg h, if_neg h]; rfl
theorem mb_fact (hl : n ≤ 400) (hx : x < 6) (hb : ∀ k, byt (t k)) {S : fS} {m i : Nat} {c : List (Nat × Nat)} {H : List Nat} {u : Int32} (hn : S.1 145 1 = o3 n) (ht : S.1 146 = t) (hR : RQ S x m c) (hH : RH S H) (hf : fH H) (hD : dep H ≤ 10) (hm : m ≤ 60) (hc : c.length + H.length ≤ i) (hi : i ≤ n) : ∃ F T i' m' c' H' w' u', f_X11_fact (mS S (o3 i) 0 u) = some (if F = 0 then (1, mS T (o3 i') 0 u') else (0, mS T w' (o3 F) u')) ∧ eMr x S T ∧ (F = 0 → RQ T x m' c' ∧ RH T H' ∧ fH H' ∧ dep H' ≤ 10 ∧ i < i' ∧ i' ≤ n ∧ sk t n i' = i' ∧ m' ≤ 60 ∧ c'.length + H'.length ≤ i' ∧ rk t n i' = 0 ∧ cnt H' = cnt H ∧ ∃ e, c' = c ++ e ∧ tyB e) ∧ ∀ cp, RUN t n (true, cp, m, c, H, i) = if F = 0 then AR t n true m' c' H' i' else (F, 0, 0, []) := by
  unfold f_X11_fact
  obtain ⟨T1, w1, e1, e2, e3⟩ := mo_fact hl hb (K := fun S24 => (f_X11_compare S24).bind fun q26 => (bZ q26.1).bind fun z29 => some (z29, q26.2)) (u := u) (10 - dep H) i H S FU (by omega) (FU_lt (by omega)) hn ht hR hH (by omega) hi
  rw [show 10 - dep H + 1 = 11 - dep H by omega] at e1 e3
  rw [e1]
  have hr : ∀ cp, _ := fun cp => RUN_due (t := t) (cp := cp) (m := m) (c := c) (fH_el hf) hD hi
  have hpr := opn_pr (t := t) (n := n) (11 - dep H) i H hi hD
  generalize opn t n (11 - dep H) i H = Q at e3 hr hpr
  by_cases hq : Q.1 = 0
  · obtain ⟨P, p1, p2, p3, p4, p5, p6⟩ := hpr hq
    obtain ⟨k1, k2⟩ := e3 hq
    have hfq : fH Q.2.2 := fun y hy => by
      rw [p1] at hy
      rcases List.mem_append.mp hy with hy | hy
      · have := p2 y hy; omega
      · exact hf y hy
    have hlen : Q.2.2.length = P.length + H.length := by rw [p1, List.length_append]
    rw [if_pos hq]
    obtain ⟨F, T, i', m', c', w', u', a1, ⟨a2, a3⟩, a4, a5⟩ := mx_cmp hl hx hb (u := u) ((eMr_1 e2).trans hn) ((eMr_t e2).trans ht) k1 hm (show c.length ≤ Q.2.1 by omega) p5
    rw [a1, bd_some]
    have htp : tp 4 Q.2.2 := by
      cases hQ : Q.2.2 with
      | nil => exact ⟨rfl, rfl⟩
      | cons s G => exact tp_c (by
          have := hfq s (by rw [hQ]; exact List.mem_cons_self)
          rcases this with e | e | e | e <;> rw [e] <;> decide)
    have key : ∀ cp, RUN t n (true, cp, m, c, H, i) = if F = 0 then AR t n true m' c' Q.2.2 i' else (F, 0, 0, []) := fun cp => by
      rw [hr cp, if_pos hq, a5 Q.2.2 (fH_el hfq) p3 htp]
    by_cases hF : F = 0
    · obtain ⟨d1, d2, d3, d4, d5, d6⟩ := a3 hF
      obtain ⟨f1, f2, f3⟩ := a4 hF
      rw [if_pos hF]
      refine ⟨F, T, i', m', c', Q.2.2, w', u', by rw [if_pos hF]; rfl, e2.tr a2, fun _ => ⟨d1, ?_, hfq, p3, by omega, d3, d4, d5, by omega, f2, by rw [p1]; exact cnt_op P H p2, f3⟩, key⟩
      rw [if_pos hF] at a1
      exact RH_fr k2 (fr_f_X11_compare a1) (by unfold w1_f_X11_compare; omega) (by unfold w1_f_X11_compare; omega) (fun k => by unfold w1_f_X11_compare; omega)
    · rw [if_neg hF]
      exact ⟨F, T, i', m', c', Q.2.2, w', u', by rw [if_neg hF]; rfl, e2.tr a2, fun q => absurd q hF, key⟩
  · rw [if_neg hq]
    refine ⟨Q.1, T1, 0, 0, [], [], w1, u, by rw [if_neg hq], e2, fun q => absurd q hq, fun cp => ?_⟩
    rw [hr cp, if_neg hq, if_neg hq]
end MT8
end
