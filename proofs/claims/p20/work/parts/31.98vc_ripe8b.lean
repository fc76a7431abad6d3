section
section SQ
variable {F : List (Nat × Nat)} {E : List St5} {f0 n : Nat}
theorem hB_s {T : fS} {bg : Nat → Nat} {i s : Nat} (hs : s ≤ 4000) (e : bg i = s) (h : i = 0 ∨ hB T bg i) : hB (pI T 47 i (o3 s)) bg i := fun j hj => by
  by_cases z : j = i
  · rw [z, e]; exact ⟨pI_eq, hs⟩
  · rcases h with h | h
    · omega
    · obtain ⟨z1, z2⟩ := h j hj
      exact ⟨by rw [pI_ne (by omega)]; exact z1, z2⟩
theorem hB_n {T : fS} {bg : Nat → Nat} {i s : Nat} (hs : s ≤ 4000) (h : hB T bg i) : hB (pI T 47 (i + 1) (o3 s)) (snA bg (i + 1) s) (i + 1) := fun j hj => by
  by_cases z : j = i + 1
  · rw [z, snA_e]; exact ⟨pI_eq, hs⟩
  · obtain ⟨z1, z2⟩ := h j (by omega)
    rw [snA_n z]
    exact ⟨by rw [pI_ne (by omega)]; exact z1, z2⟩
theorem hA_47 {T : fS} {A : Nat → Nat} {c i : Nat} {x : Int32} (h : hA T A c) : hA (pI T 47 i x) A c := ⟨h.1, (pI_ne (by omega)).trans h.2.1, h.2.2⟩
/-- sources, merging, and on -/
def gmK (t p c : Nat) (R : fS → Option (Int32 × fS)) (V : fS) : Option (Int32 × fS) := (f_X3_gatherSources 4 (o3 t) (o3 p) V).bind fun q11 => if (1 : Int32) = (0 : Int32) then (some ((0 : Int32), q11)) else ((f_X3_merge (o3 c) q11).bind fun q15 => if q15.1 = (0 : Int32) then (some ((0 : Int32), q15.2)) else ((sI q15.2 47 171 (((o3 t * (q15.2.1 4 6)) + o3 p) + (1 : Int32)) (q15.2.1 45 5)).bind fun S19 => R S19))
theorem SI_n {t p c c' : Nat} {U : fS} {A A' bg : Nat → Nat} {lab : Nat → Nat × Nat} (hp : p < F.length) (e : bg (t * F.length + p) = c) (hG : ∀ t' f, f < F.length → t' * F.length + f < t * F.length + p → gBk F E f0 A lab (bg (t' * F.length + f)) (bg (t' * F.length + f + 1)) c t' f) (u2 : hA U A' c') (u3 : hB U bg (t * F.length + p)) (u4 : c ≤ c') (u5 : ∀ j, j < c → A' j = A j) (u6 : gBk F E f0 A' (lbx lab c t p) c c' c' t p) (u7 : LB F E f0 n A' (lbx lab c t p) c' (t * F.length + p + 1)) : SI F E f0 n (pI U 47 (t * F.length + p + 1) (o3 c')) (t * F.length + p + 1) A' (lbx lab c t p) (snA bg (t * F.length + p + 1) c') c' := by
  refine ⟨hA_47 u2, snA_e, Or.inr (hB_n u2.1 u3), fun t' f hf hlt => ?_, u7⟩
  by_cases z : t' * F.length + f = t * F.length + p
  · obtain ⟨z1, z2⟩ := slt_i hf hp z
    rw [z1, z2, snA_e, snA_n (by omega), e]
    exact u6
  · rw [snA_n (by omega), snA_n (by omega)]
    exact gBk_eq (hG t' f hf (by omega)) u4 (fun j hj => ⟨u5 j hj, lbx_l hj⟩)
theorem q_24 {p3 : Int32} (hF : ∀ q ∈ F, okF q) (hE : ∀ q ∈ E, okS F.length q) (hm : F.length ≤ 10) (hl : E.length ≤ 12) (h0 : f0 < F.length) (hn : n ≤ 16) {t : Nat} (ht : t ≤ n) {K : fS → Option (Int32 × fS)} : ∀ d p nn T A lab bg c, p + d = F.length → d < nn → twC T 4 F E → SI F E f0 n T (t * F.length + p) A lab bg c → ∃ U, eRp T U ∧ ((lp_X3_spread_24 4 (o3 f0) p3 (o3 t) K nn (o3 p) T = some (0, U) ∧ Many F E f0 n) ∨ (lp_X3_spread_24 4 (o3 f0) p3 (o3 t) K nn (o3 p) T = K U ∧ ∃ A' lab' bg' c', SI F E f0 n U (t * F.length + F.length) A' lab' bg' c')) := by
  have h16 : t * F.length ≤ 16 * 10 := Nat.mul_le_mul (by omega) hm
  intro d
  induction d with
  | zero =>
    intro p nn T A lab bg c hk hnn b1 hS
    obtain ⟨nn, rfl⟩ : ∃ z, nn = z + 1 := ⟨nn - 1, by omega⟩
    rw [lp_X3_spread_24.eq_2, b1.1, if_pos ((o3_le (by omega) (by omega)).mpr (by omega))]
    have hpe : p = F.length := by omega
    rw [hpe] at hS
    exact ⟨T, eRp.rf, Or.inr ⟨rfl, A, lab, bg, c, hS⟩⟩
  | succ d ih =>
    intro p nn T A lab bg c hk hnn b1 hS
    obtain ⟨nn, rfl⟩ : ∃ z, nn = z + 1 := ⟨nn - 1, by omega⟩
    obtain ⟨hA0, hbg, hW, hG, hL⟩ := hS
    have hp : p < F.length := by omega
    have hc4 := hA0.1
    have W1 : hB (pI T 47 (t * F.length + p) (o3 c)) bg (t * F.length + p) := hB_s hc4 hbg hW
    have A1 : hA (pI T 47 (t * F.length + p) (o3 c)) A c := hA_47 hA0
    have b2 := twC_R b1 (eRp_47 (i := t * F.length + p) (x := o3 c))
    have rest : ∀ V A1 c1, eRp T V → twC V 4 F E → hB V bg (t * F.length + p) → hA V A1 c1 → (∀ i, i < c → A1 i = A i) → ((c1 = c ∧ ¬ (t = 0 ∧ p = f0)) ∨ (c1 = c + 1 ∧ A1 c = 0 ∧ t = 0 ∧ p = f0)) → ∃ Z, eRp T Z ∧ ((gmK t p c (fun S19 => lp_X3_spread_24 4 (o3 f0) p3 (o3 t) K nn (o3 (p + 1)) S19) V = some (0, Z) ∧ Many F E f0 n) ∨ (gmK t p c (fun S19 => lp_X3_spread_24 4 (o3 f0) p3 (o3 t) K nn (o3 (p + 1)) S19) V = K Z ∧ ∃ A' lab' bg' c', SI F E f0 n Z (t * F.length + F.length) A' lab' bg' c')) := fun V A1 c1 eV bV WV hV hAA hini => by
      obtain ⟨X, U, A', c', x1, x2, x3, x4⟩ := q_one hF hE hm hl h0 hn ht hp bV WV hG hL hV hAA hini
      unfold gmK
      rw [x1, bd_some, if_neg (show ¬ (1 : Int32) = 0 by decide)]
      rcases x4 with ⟨u1, u2, u3, u4, u5, u6, u7⟩ | ⟨u1, u2⟩
      · rw [u1, bd_some]
        dsimp only
        have bU := twC_R bV x3
        rw [if_neg (show ¬ (1 : Int32) = 0 by decide), bU.1, u2.2.1, o3_mul, o3_add, o3_s, sI_o (by omega) (by omega), bd_some]
        obtain ⟨Z, z1, z2⟩ := ih (p + 1) nn _ _ _ _ _ (by omega) (by omega) (twC_R bU (eRp_47 (i := t * F.length + p + 1) (x := o3 c'))) (SI_n (n := n) hp hbg hG u2 u3 u4 u5 u6 u7)
        exact ⟨Z, ((eV.tr x3).tr eRp_47).tr z1, z2⟩
      · rw [u1, bd_some]
        dsimp only
        rw [if_pos rfl]
        exact ⟨U, eV.tr x3, Or.inl ⟨rfl, u2⟩⟩
    rw [lp_X3_spread_24.eq_2, b1.1, if_neg (fun q => by have := (o3_le (by omega) (by omega)).mp q; omega), o3_mul, o3_add, hA0.2.1, sI_o (by omega) (by omega), bd_some, o3_s]
    by_cases h1 : (0 : Int32) < o3 t
    · have ht0 : 0 < t := (o3_lt (a := 0) (by omega) (by omega)).mp h1
      rw [if_pos h1]
      exact rest _ A c eRp_47 b2 W1 A1 (fun _ _ => rfl) (Or.inl ⟨rfl, fun z => by omega⟩)
    · have ht0 : t = 0 := by
        have : ¬ 0 < t := fun z => h1 ((o3_lt (a := 0) (by omega) (by omega)).mpr z)
        omega
      rw [if_neg h1]
      by_cases hpf : p = f0
      · rw [if_pos (show o3 p = o3 f0 by rw [hpf])]
        have hs : f_X3_stateOf (0 : Int64) (0 : Int32) (pI T 47 (t * F.length + p) (o3 c)) = some (o6 0) := q5_st (x := 0) (a := 0) (by decide) (by decide)
        rw [hs, bd_some]
        rcases q_keep (st := c) (x := 0) A1 (by decide) with ⟨w1, _⟩ | ⟨w1, w2, Y, w3, w4, w5⟩ | ⟨w1, w2, w3⟩ | w1
        · exact absurd w1 (Nat.lt_irrefl _)
        · rw [w3, bd_some]
          dsimp only
          rw [if_neg (show ¬ (1 : Int32) = 0 by decide)]
          have eY1 : eRp (pI T 47 (t * F.length + p) (o3 c)) Y := ⟨fun a k _ => w5.1 a k (by omega), fun a k _ => w5.2 a k (by omega)⟩
          exact rest Y (snA A c 0) (c + 1) ((eRp_47 (i := t * F.length + p) (x := o3 c)).tr eY1) (twC_R b2 eY1) (hB_eq W1 (fun k => w5.1 _ _ (by omega))) w4 (fun i hi => snA_l hi) (Or.inr ⟨rfl, snA_e, ht0, hpf⟩)
        · rw [w3, bd_some]
          dsimp only
          rw [if_pos rfl]
          obtain ⟨X, _, _, _, _, x1, _, _, x2⟩ := q_ga hF hE hm hl (t := t) (by omega) hp (w := t * F.length + p) (by omega) (by omega) b2 W1
          rw [x1, bd_some, if_pos rfl]
          refine ⟨X, (eRp_47 (i := t * F.length + p) (x := o3 c)).tr (eRp_G x2), Or.inl ⟨rfl, ?_⟩⟩
          subst w2
          refine LB_many (LB_x (c' := 4001) (A' := snA A 4000 0) hL (fun j hj => snA_l hj) hp ht (fun j j1 j2 => ?_) (fun i j i1 i2 i3 => by omega))
          have ej : j = 4000 := by omega
          rw [ej, snA_e, ht0, hpf]
          exact Rch_0
        · exact absurd w1 (by omega)
      · rw [if_neg (show ¬ o3 p = o3 f0 from fun z => hpf ((o3_inj (by omega) (by omega)).mp z))]
        exact rest _ A c eRp_47 b2 W1 A1 (fun _ _ => rfl) (Or.inl ⟨rfl, fun z => hpf z.2⟩)
theorem q_8 (hF : ∀ q ∈ F, okF q) (hE : ∀ q ∈ E, okS F.length q) (hm : F.length ≤ 10) (hl : E.length ≤ 12) (h0 : f0 < F.length) (hn : n ≤ 16) {K : fS → Option (Int32 × fS)} : ∀ d t nn T A lab bg c, t + d = n + 1 → d < nn → twC T 4 F E → SI F E f0 n T (t * F.length) A lab bg c → ∃ U, eRp T U ∧ ((lp_X3_spread_8 4 (o3 f0) (o3 n) K nn (o3 t) T = some (0, U) ∧ Many F E f0 n) ∨ (lp_X3_spread_8 4 (o3 f0) (o3 n) K nn (o3 t) T = K U ∧ ∃ A' lab' bg' c', SI F E f0 n U ((n + 1) * F.length) A' lab' bg' c')) := by
  intro d
  induction d with
  | zero =>
    intro t nn T A lab bg c hk hnn b1 hS
    obtain ⟨nn, rfl⟩ : ∃ z, nn = z + 1 := ⟨nn - 1, by omega⟩
    rw [lp_X3_spread_8.eq_2, if_pos ((o3_lt (by omega) (by omega)).mpr (by omega))]
    have hpe : t = n + 1 := by omega
    rw [hpe] at hS
    exact ⟨T, eRp.rf, Or.inr ⟨rfl, A, lab, bg, c, hS⟩⟩
  | succ d ih =>
    intro t nn T A lab bg c hk hnn b1 hS
    obtain ⟨nn, rfl⟩ : ∃ z, nn = z + 1 := ⟨nn - 1, by omega⟩
    rw [lp_X3_spread_8.eq_2, if_neg (fun q => by have := (o3_lt (by omega) (by omega)).mp q; omega), if_neg (show ¬ (16 : Int32) < o3 t from fun q => by have := (o3_lt (a := 16) (by omega) (by omega)).mp q; omega), o3_s]
    obtain ⟨U, u1, u2⟩ := q_24 (p3 := o3 n) hF hE hm hl h0 hn (t := t) (by omega) (K := fun S63 => lp_X3_spread_8 4 (o3 f0) (o3 n) K nn (o3 (t + 1)) S63) F.length 0 FU T A lab bg c (by omega) (FU_lt (by omega)) b1 hS
    rcases u2 with ⟨u2, u3⟩ | ⟨u2, A', lab', bg', c', u3⟩
    · exact ⟨U, u1, Or.inl ⟨u2, u3⟩⟩
    · have e : t * F.length + F.length = (t + 1) * F.length := by rw [Nat.add_mul, Nat.one_mul]
      rw [e] at u3
      obtain ⟨V, v1, v2⟩ := ih (t + 1) nn U A' lab' bg' c' (by omega) (by omega) (twC_R b1 u1) u3
      refine ⟨V, u1.tr v1, ?_⟩
      rcases v2 with ⟨v2, v3⟩ | ⟨v2, v3⟩
      · exact Or.inl ⟨u2.trans v2, v3⟩
      · exact Or.inr ⟨u2.trans v2, v3⟩
theorem q_spread (hF : ∀ q ∈ F, okF q) (hE : ∀ q ∈ E, okS F.length q) (hm : F.length ≤ 10) (hl : E.length ≤ 12) (h0 : f0 < F.length) (hn : n ≤ 16) {S : fS} (b1 : twC S 4 F E) : ∃ r U, f_X3_spread 4 (o3 f0) (o3 n) S = some (r, U) ∧ eRp S U ∧ ((r = 0 ∧ Many F E f0 n) ∨ (r = 1 ∧ ∃ A lab bg c, SI F E f0 n U ((n + 1) * F.length) A lab bg c)) := by
  unfold f_X3_spread
  rw [bd_some]
  have e0 : eRp S (pI S 45 5 0) := ⟨fun a k h => pI_ne (by omega), fun _ _ _ => rfl⟩
  have hz : (0 : Nat) * F.length = 0 := Nat.zero_mul _
  have hS0 : SI F E f0 n (pI S 45 5 0) (0 * F.length) (fun _ => 0) (fun _ => (0, 0)) (fun _ => 0) 0 := ⟨⟨by omega, pI_eq, fun j hj => absurd hj (Nat.not_lt_zero _)⟩, rfl, Or.inl hz, fun t f hf hlt => by omega, fun j hj => absurd hj (Nat.not_lt_zero _), fun i j _ hj => absurd hj (Nat.not_lt_zero _)⟩
  obtain ⟨U, u1, u2⟩ := q_8 hF hE hm hl h0 hn (K := fun S65 => some ((1 : Int32), S65)) (n + 1) 0 FU (pI S 45 5 0) _ _ _ _ (by omega) (FU_lt (by omega)) (twC_R b1 e0) hS0
  rcases u2 with ⟨u2, u3⟩ | ⟨u2, u3⟩
  · exact ⟨0, U, u2, e0.tr u1, Or.inl ⟨rfl, u3⟩⟩
  · exact ⟨1, U, u2, e0.tr u1, Or.inr ⟨rfl, u3⟩⟩
theorem SI_few (hF : ∀ q ∈ F, okF q) (hE : ∀ q ∈ E, okS F.length q) (h0 : f0 < F.length) {T : fS} {A bg : Nat → Nat} {lab : Nat → Nat × Nat} {c : Nat} (h : SI F E f0 n T ((n + 1) * F.length) A lab bg c) : Few F E f0 n := by
  refine ⟨fun i => ((lab i).1, (lab i).2, A i / 32), fun t f a b hR ht => ?_⟩
  obtain ⟨b1, _, _⟩ := Rch_b hF hE h0 hR
  have hsl := slt (show t < n + 1 by omega) b1
  have hg := h.2.2.2.1 t f b1 (by omega)
  obtain ⟨j, j1, j2, j3, _⟩ := hg.2.2.1 a b hR
  have hc := h.1.1
  have hj := hg.1
  refine ⟨j, by omega, ?_⟩
  show ((lab j).1, (lab j).2, A j / 32) = (t, f, a)
  rw [(hg.2.1 j j1 j2).1, j3]
/-- the best so far -/
def bst (A : Nat → Nat) (s lo hi k : Nat) (r : Int32) : Prop := (r = -2 ∧ ∀ j, s ≤ j → j < k → ¬ (lo ≤ A j / 32 ∧ A j / 32 ≤ hi)) ∨ ∃ j, s ≤ j ∧ j < k ∧ lo ≤ A j / 32 ∧ A j / 32 ≤ hi ∧ r = o3 (A j % 32) ∧ ∀ j', s ≤ j' → j' < k → lo ≤ A j' / 32 → A j' / 32 ≤ hi → A j % 32 ≤ A j' % 32
theorem bst_n {A : Nat → Nat} {s lo hi k : Nat} {r : Int32} (h : bst A s lo hi k r) (hn : ¬ (lo ≤ A k / 32 ∧ A k / 32 ≤ hi)) : bst A s lo hi (k + 1) r := by
  rcases h with ⟨h1, h2⟩ | ⟨j, h1, h2, h3, h4, h5, h6⟩
  · refine Or.inl ⟨h1, fun j a b => ?_⟩
    by_cases z : j = k
    · rw [z]; exact hn
    · exact h2 j a (by omega)
  · refine Or.inr ⟨j, h1, by omega, h3, h4, h5, fun j' a b c d => ?_⟩
    by_cases z : j' = k
    · rw [z] at c d; exact absurd ⟨c, d⟩ hn
    · exact h6 j' a (by omega) c d
theorem bst_k {A : Nat → Nat} {s lo hi k j : Nat} (hs : s ≤ k) (h1 : s ≤ j) (h2 : j < k) (h3 : lo ≤ A j / 32) (h4 : A j / 32 ≤ hi) (h6 : ∀ j', s ≤ j' → j' < k → lo ≤ A j' / 32 → A j' / 32 ≤ hi → A j % 32 ≤ A j' % 32) (hle : A j % 32 ≤ A k % 32) : bst A s lo hi (k + 1) (o3 (A j % 32)) := by
  refine Or.inr ⟨j, h1, by omega, h3, h4, rfl, fun j' a b c d => ?_⟩
  by_cases z : j' = k
  · rw [z]; exact hle
  · exact h6 j' a (by omega) c d
theorem bst_t {A : Nat → Nat} {s lo hi k : Nat} (hs : s ≤ k) (h3 : lo ≤ A k / 32) (h4 : A k / 32 ≤ hi) (h6 : ∀ j', s ≤ j' → j' < k → lo ≤ A j' / 32 → A j' / 32 ≤ hi → A k % 32 ≤ A j' % 32) : bst A s lo hi (k + 1) (o3 (A k % 32)) := by
  refine Or.inr ⟨k, hs, by omega, h3, h4, rfl, fun j' a b c d => ?_⟩
  by_cases z : j' = k
  · rw [z]; exact Nat.le_refl _
  · exact h6 j' a (by omega) c d
theorem q_lc {g lo hi : Nat} (hlo : lo < 9223372036854775808) (hhi : hi < 9223372036854775808) (hm : F.length ≤ 10) (hg : g < F.length) (hn : n ≤ 16) {S : fS} (b1 : twC S 4 F E) {A bg : Nat → Nat} {lab : Nat → Nat × Nat} {c : Nat} (hS : SI F E f0 n S ((n + 1) * F.length) A lab bg c) : ∃ r, f_X3_leastCarried 4 (o3 g) (o3 n) (o6 lo) (o6 hi) S = some r ∧ Best F E f0 n g lo hi r := by
  have h16 : n * F.length ≤ 16 * 10 := Nat.mul_le_mul hn hm
  have e : (n + 1) * F.length = n * F.length + F.length := by rw [Nat.add_mul, Nat.one_mul]
  obtain ⟨hA0, _, hW, hG, _⟩ := hS
  have hc4 := hA0.1
  have hgB := hG n g hg (by omega)
  have hW : hB S bg ((n + 1) * F.length) := by
    rcases hW with z | z
    · omega
    · exact z
  obtain ⟨s2, s1⟩ := hW (n * F.length + g) (by omega)
  obtain ⟨t2, t1⟩ := hW (n * F.length + g + 1) (by omega)
  obtain ⟨g1, g2, g3, _⟩ := hgB
  have n10 : ¬ (1 : Int32) = 0 := by decide
  have key : ∀ d k nn (p8 : Int32), d = bg (n * F.length + g + 1) - k → bg (n * F.length + g) ≤ k → k ≤ 4000 → (k ≤ bg (n * F.length + g + 1) ∨ k = bg (n * F.length + g)) → d < nn → bst A (bg (n * F.length + g)) lo hi k p8 → ∃ r k', bg (n * F.length + g + 1) ≤ k' ∧ (k' ≤ bg (n * F.length + g + 1) ∨ k' = bg (n * F.length + g)) ∧ lp_X3_leastCarried_23 (o6 lo) (o6 hi) (o3 (n * F.length + g)) S (fun u85 => some u85) nn p8 (o3 k) = some r ∧ bst A (bg (n * F.length + g)) lo hi k' r := by
    intro d
    induction d with
    | zero =>
      intro k nn p8 hd hsk hk hke hnn hb
      obtain ⟨nn, rfl⟩ : ∃ z, nn = z + 1 := ⟨nn - 1, by omega⟩
      rw [lp_X3_leastCarried_23.eq_2, o3_s, gI_o (by omega) (by omega), bd_some, t2, if_pos ((o3_le (by omega) (by omega)).mpr (by omega))]
      exact ⟨_, k, by omega, hke, rfl, hb⟩
    | succ d ih =>
      intro k nn p8 hd hsk hk hke hnn hb
      obtain ⟨nn, rfl⟩ : ∃ z, nn = z + 1 := ⟨nn - 1, by omega⟩
      obtain ⟨a1, a2⟩ := hA0.2.2 k (by omega)
      have go : ∀ p8, bst A (bg (n * F.length + g)) lo hi (k + 1) p8 → ∃ r k', bg (n * F.length + g + 1) ≤ k' ∧ (k' ≤ bg (n * F.length + g + 1) ∨ k' = bg (n * F.length + g)) ∧ lp_X3_leastCarried_23 (o6 lo) (o6 hi) (o3 (n * F.length + g)) S (fun u85 => some u85) nn p8 (o3 (k + 1)) = some r ∧ bst A (bg (n * F.length + g)) lo hi k' r := fun p8 hb => ih (k + 1) nn p8 (by omega) (by omega) (by omega) (Or.inl (by omega)) (by omega) hb
      have ag : f_X3_ageOf (o6 (A k)) S = some (o6 (A k / 32)) := q5_age (by omega)
      have ca : f_X3_carriedOf (o6 (A k)) S = some (o3 (A k % 32)) := q5_car (by omega)
      rw [lp_X3_leastCarried_23.eq_2, o3_s, o3_s, gI_o (by omega) (by omega), bd_some, t2, if_neg (fun q => by have := (o3_le (by omega) (by omega)).mp q; omega), gL_o (by omega) (by omega), a1, bd_some, ag, bd_some]
      by_cases z1 : A k / 32 < lo
      · rw [if_pos ((o6_lt (by omega) (by omega)).mpr z1), if_pos rfl]
        exact go _ (bst_n hb (by omega))
      · rw [if_neg (fun z => z1 ((o6_lt (by omega) (by omega)).mp z)), bd_some, ag, bd_some]
        by_cases z2 : hi < A k / 32
        · rw [if_pos ((o6_lt (by omega) (by omega)).mpr z2), if_pos rfl]
          exact go _ (bst_n hb (by omega))
        · rw [if_neg (fun z => z2 ((o6_lt (by omega) (by omega)).mp z)), if_neg n10]
          rcases hb with ⟨v1, v2⟩ | ⟨j, v1, v2, v3, v4, v5, v6⟩
          · rw [v1, if_pos (show (-2 : Int32) < 0 by decide), bd_some, ca, bd_some]
            exact go _ (bst_t hsk (by omega) (by omega) (fun j' x1 x2 x3 x4 => absurd ⟨x3, x4⟩ (v2 j' x1 x2)))
          · rw [v5, if_neg (o3_nn (by omega)), bd_some, ca, bd_some]
            by_cases z3 : A j % 32 ≤ A k % 32
            · rw [if_pos ((o3_le (by omega) (by omega)).mpr z3)]
              exact go _ (bst_k hsk v1 v2 v3 v4 v6 z3)
            · rw [if_neg (fun z => z3 ((o3_le (by omega) (by omega)).mp z)), bd_some, ca, bd_some]
              exact go _ (bst_t hsk (by omega) (by omega) (fun j' x1 x2 x3 x4 => by have := v6 j' x1 x2 x3 x4; omega))
  unfold f_X3_leastCarried
  rw [b1.1, o3_mul, o3_add, gI_o (by omega) (by omega), bd_some, s2]
  obtain ⟨r, k', r0, r3, r1, r2⟩ := key (bg (n * F.length + g + 1) - bg (n * F.length + g)) (bg (n * F.length + g)) FU (-2) rfl (Nat.le_refl _) s1 (Or.inr rfl) (FU_lt (by omega)) (Or.inl ⟨rfl, fun j x1 x2 => absurd x2 (by omega)⟩)
  refine ⟨r, r1, ?_⟩
  rcases r2 with ⟨v1, v2⟩ | ⟨j, v1, v2, v3, v4, v5, v6⟩
  · refine Or.inl ⟨v1, fun a b hR hab => ?_⟩
    obtain ⟨j, j1, j2, j3, _⟩ := g3 a b hR
    exact v2 j j1 (by omega) (by rw [j3]; exact hab)
  · refine Or.inr ⟨A j / 32, A j % 32, v5, (g2 j v1 (by omega)).2, v3, v4, fun a b hR x1 x2 => ?_⟩
    obtain ⟨j', j1, j2, j3, j4⟩ := g3 a b hR
    have := v6 j' j1 (by omega) (by rw [j3]; exact x1) (by rw [j3]; exact x2)
    omega
end SQ
end
