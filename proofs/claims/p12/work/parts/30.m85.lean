section
section KS
variable {F : List (Nat × Nat)} {E : List St5}
theorem k_mg {T : fS} {c st : Nat} (hc : okr T c) (hs : st ≤ c) (hq : okq T) : ∃ r U c', f_X3_merge (o3 st) T = some (r, U) ∧ okr U c' ∧ eMg T U := k_merge 52001 0 FU T c (by omega) (FU_lt (by omega)) hc hs hq
/-- gathering and merging at one place -/
theorem k_one (hE : ∀ q ∈ E, okS F.length q) (hm : F.length ≤ 10) (hl : E.length ≤ 12) {t p st c : Nat} (ht : t ≤ 16) (hp : p < F.length) {T : fS} (b1 : twC T 4 F E) (hW : okW T (t * F.length + p)) (hc : okr T c) (hs : st ≤ c) {G : Int32 × fS → Option (Int32 × fS)} : ∃ V U r c', f_X3_gatherSources 4 (o3 t) (o3 p) T = some V ∧ f_X3_merge (o3 st) V = some (r, U) ∧ okr U c' ∧ okW U (t * F.length + p) ∧ eRp T U ∧ eRp T V := by
  have h16 : t * F.length ≤ 16 * 10 := Nat.mul_le_mul ht hm
  obtain ⟨V, v1, v2, v3⟩ := k_ga hE hm hl ht hp (w := t * F.length + p) (by omega) (by omega) b1 hW
  obtain ⟨r, U, c', u1, u2, u3⟩ := k_mg (T := V) (c := c) (st := st) ⟨(v3.1 _ _ (by omega) (by omega) (by omega)).trans hc.1, hc.2⟩ hs v2
  exact ⟨V, U, r, c', v1, u1, u2, okW_eq hW (fun k => (u3.1 _ _ (by omega) (by omega)).trans (v3.1 _ _ (by omega) (by omega) (by omega))), (eRp_G v3).tr (eRp_M u3), eRp_G v3⟩
theorem okW_s {T : fS} {i s : Nat} (hs : s ≤ 4000) (h : i = 0 ∨ okW T i) : okW (pI T 47 i (o3 s)) i := fun j hj => by
  by_cases e : j = i
  · rw [e]; exact ⟨s, hs, pI_eq⟩
  · rcases h with h | h
    · omega
    · obtain ⟨z, z1, z2⟩ := h j hj
      exact ⟨z, z1, by rw [pI_ne (by omega)]; exact z2⟩
theorem okW_n {T : fS} {i s : Nat} (hs : s ≤ 4000) (h : okW T i) : okW (pI T 47 (i + 1) (o3 s)) (i + 1) := fun j hj => by
  by_cases e : j = i + 1
  · rw [e]; exact ⟨s, hs, pI_eq⟩
  · obtain ⟨z, z1, z2⟩ := h j (by omega)
    exact ⟨z, z1, by rw [pI_ne (by omega)]; exact z2⟩
theorem eRp_47 {T : fS} {i : Nat} {x : Int32} : eRp T (pI T 47 i x) := ⟨fun a k h => pI_ne (by omega), fun _ _ _ => rfl⟩
theorem k_24 {p3 : Int32} {f : Nat} (hE : ∀ q ∈ E, okS F.length q) (hm : F.length ≤ 10) (hl : E.length ≤ 12) (hf : f < F.length) {t : Nat} (ht : t ≤ 16) {K : fS → Option (Int32 × fS)} : ∀ d p nn T c, p + d = F.length → d < nn → twC T 4 F E → okr T c → (t * F.length + p = 0 ∨ okW T (t * F.length + p)) → ∃ U, eRp T U ∧ (lp_X3_spread_24 4 (o3 f) p3 (o3 t) K nn (o3 p) T = some (0, U) ∨ (lp_X3_spread_24 4 (o3 f) p3 (o3 t) K nn (o3 p) T = K U ∧ (∃ c', okr U c') ∧ (t * F.length + F.length = 0 ∨ okW U (t * F.length + F.length)))) := by
  have h16 : t * F.length ≤ 16 * 10 := Nat.mul_le_mul ht hm
  intro d
  induction d with
  | zero =>
    intro p nn T c hk hnn b1 hc hW
    obtain ⟨nn, rfl⟩ : ∃ z, nn = z + 1 := ⟨nn - 1, by omega⟩
    rw [lp_X3_spread_24.eq_2, b1.1, if_pos ((o3_le (by omega) (by omega)).mpr (by omega))]
    refine ⟨T, eRp.rf, Or.inr ⟨rfl, ⟨c, hc⟩, ?_⟩⟩
    rw [show F.length = p by omega] at hW ⊢
    exact hW
  | succ d ih =>
    intro p nn T c hk hnn b1 hc hW
    obtain ⟨nn, rfl⟩ : ∃ z, nn = z + 1 := ⟨nn - 1, by omega⟩
    have hp : p < F.length := by omega
    have W1 : okW (pI T 47 (t * F.length + p) (o3 c)) (t * F.length + p) := okW_s hc.2 hW
    have c1 : okr (pI T 47 (t * F.length + p) (o3 c)) c := ⟨(pI_ne (by omega)).trans hc.1, hc.2⟩
    have b2 := twC_R b1 (eRp_47 (i := t * F.length + p) (x := o3 c))
    /- the rest, from any state with that -/
    have rest : ∀ V c', eRp T V → twC V 4 F E → okr V c' → c ≤ c' → okW V (t * F.length + p) → ∃ X U r, f_X3_gatherSources 4 (o3 t) (o3 p) V = some X ∧ f_X3_merge (o3 c) X = some (r, U) ∧ eRp T U ∧ eRp T X ∧ (∃ Z, eRp T Z ∧ (((sI U 47 171 (((o3 t * (U.1 4 6)) + o3 p) + (1 : Int32)) (U.1 45 5)).bind fun S31 => lp_X3_spread_24 4 (o3 f) p3 (o3 t) K nn (o3 (p + 1)) S31) = some (0, Z) ∨ (((sI U 47 171 (((o3 t * (U.1 4 6)) + o3 p) + (1 : Int32)) (U.1 45 5)).bind fun S31 => lp_X3_spread_24 4 (o3 f) p3 (o3 t) K nn (o3 (p + 1)) S31) = K Z ∧ (∃ c', okr Z c') ∧ (t * F.length + F.length = 0 ∨ okW Z (t * F.length + F.length))))) := fun V c' eV bV cV hcc WV => by
      obtain ⟨X, U, r, c'', x1, u1, u2, u3, u4, u5⟩ := k_one hE hm hl ht hp bV WV cV hcc (G := fun _ => none)
      have bU := twC_R bV u4
      refine ⟨X, U, r, x1, u1, eV.tr u4, eV.tr u5, ?_⟩
      rw [bU.1, u2.1, o3_mul, o3_add, o3_s, sI_o (by omega) (by omega), bd_some]
      obtain ⟨Z, z1, z2⟩ := ih (p + 1) nn (pI U 47 (t * F.length + p + 1) (o3 c'')) c'' (by omega) (by omega) (twC_R bU eRp_47) ⟨(pI_ne (by omega)).trans u2.1, u2.2⟩ (Or.inr (okW_n u2.2 u3))
      exact ⟨Z, ((eV.tr u4).tr eRp_47).tr z1, z2⟩
    have fin : ∀ (X U : fS) (r : Int32), f_X3_merge (o3 c) X = some (r, U) → eRp T U → (∃ Z, eRp T Z ∧ (((sI U 47 171 (((o3 t * (U.1 4 6)) + o3 p) + (1 : Int32)) (U.1 45 5)).bind fun S31 => lp_X3_spread_24 4 (o3 f) p3 (o3 t) K nn (o3 (p + 1)) S31) = some (0, Z) ∨ (((sI U 47 171 (((o3 t * (U.1 4 6)) + o3 p) + (1 : Int32)) (U.1 45 5)).bind fun S31 => lp_X3_spread_24 4 (o3 f) p3 (o3 t) K nn (o3 (p + 1)) S31) = K Z ∧ (∃ c', okr Z c') ∧ (t * F.length + F.length = 0 ∨ okW Z (t * F.length + F.length))))) → ∃ Z, eRp T Z ∧ (((f_X3_merge (o3 c) X).bind fun q15 => if q15.1 = (0 : Int32) then (some ((0 : Int32), q15.2)) else ((sI q15.2 47 171 (((o3 t * (q15.2.1 4 6)) + o3 p) + (1 : Int32)) (q15.2.1 45 5)).bind fun S19 => lp_X3_spread_24 4 (o3 f) p3 (o3 t) K nn (o3 (p + 1)) S19)) = some (0, Z) ∨ (((f_X3_merge (o3 c) X).bind fun q15 => if q15.1 = (0 : Int32) then (some ((0 : Int32), q15.2)) else ((sI q15.2 47 171 (((o3 t * (q15.2.1 4 6)) + o3 p) + (1 : Int32)) (q15.2.1 45 5)).bind fun S19 => lp_X3_spread_24 4 (o3 f) p3 (o3 t) K nn (o3 (p + 1)) S19)) = K Z ∧ (∃ c', okr Z c') ∧ (t * F.length + F.length = 0 ∨ okW Z (t * F.length + F.length)))) := fun X U r u1 eU h => by
      rw [u1, bd_some]
      dsimp only
      by_cases z : r = 0
      · rw [if_pos z]; exact ⟨U, eU, Or.inl rfl⟩
      · rw [if_neg z]; exact h
    rw [lp_X3_spread_24.eq_2, b1.1, if_neg (fun q => by have := (o3_le (by omega) (by omega)).mp q; omega), o3_mul, o3_add, hc.1, sI_o (by omega) (by omega), bd_some, o3_s]
    have n10 : ¬ (1 : Int32) = 0 := by decide
    obtain ⟨X, U, r, x1, u1, eU, eX, h⟩ := rest _ c eRp_47 b2 c1 (Nat.le_refl _) W1
    by_cases h0 : (0 : Int32) < o3 t
    · rw [if_pos h0, x1, bd_some, if_neg n10]
      exact fin X U r u1 eU h
    · rw [if_neg h0]
      by_cases hpf : o3 p = o3 f
      · rw [if_pos hpf]
        unfold f_X3_stateOf
        rw [bd_some]
        obtain ⟨r', Y, c', y1, y2, y3, y4, y5⟩ := k_keep (x := ((0 : Int64) <<< (Int32.toInt64 (5 : Int32) &&& 63)) ||| (Int32.toInt64 (0 : Int32))) c1 (Nat.le_refl c)
        rw [y1, bd_some]
        dsimp only
        have eY1 : eRp (pI T 47 (t * F.length + p) (o3 c)) Y := ⟨fun a k _ => y4 a k (by omega), fun a k _ => y5 a k (by omega)⟩
        have eY : eRp T Y := (eRp_47 (i := t * F.length + p) (x := o3 c)).tr eY1
        have bY := twC_R b2 eY1
        have WY : okW Y (t * F.length + p) := okW_eq W1 (fun k => y4 _ _ (by omega))
        obtain ⟨X, U, r, x1, u1, eU, eX, h⟩ := rest Y c' eY bY y2 y3 WY
        by_cases z : r' = 0
        · rw [if_pos z, x1, bd_some, if_pos rfl]
          exact ⟨X, eX, Or.inl rfl⟩
        · rw [if_neg z, x1, bd_some, if_neg n10]
          exact fin X U r u1 eU h
      · rw [if_neg hpf, x1, bd_some, if_neg n10]
        exact fin X U r u1 eU h
theorem k_8 {f n : Nat} (hE : ∀ q ∈ E, okS F.length q) (hm : F.length ≤ 10) (hl : E.length ≤ 12) (hf : f < F.length) (hn : n ≤ 16) {K : fS → Option (Int32 × fS)} : ∀ d t nn T c, t + d = n + 1 → d < nn → twC T 4 F E → okr T c → (t * F.length = 0 ∨ okW T (t * F.length)) → ∃ U, eRp T U ∧ (lp_X3_spread_8 4 (o3 f) (o3 n) K nn (o3 t) T = some (0, U) ∨ (lp_X3_spread_8 4 (o3 f) (o3 n) K nn (o3 t) T = K U ∧ okW U ((n + 1) * F.length))) := by
  intro d
  induction d with
  | zero =>
    intro t nn T c hk hnn b1 hc hW
    obtain ⟨nn, rfl⟩ : ∃ z, nn = z + 1 := ⟨nn - 1, by omega⟩
    rw [lp_X3_spread_8.eq_2, if_pos ((o3_lt (by omega) (by omega)).mpr (by omega))]
    refine ⟨T, eRp.rf, Or.inr ⟨rfl, ?_⟩⟩
    rcases hW with hW | hW
    · exfalso
      have : 1 * 1 ≤ t * F.length := Nat.mul_le_mul (by omega) (by omega)
      omega
    · rw [show n + 1 = t by omega]; exact hW
  | succ d ih =>
    intro t nn T c hk hnn b1 hc hW
    obtain ⟨nn, rfl⟩ : ∃ z, nn = z + 1 := ⟨nn - 1, by omega⟩
    rw [lp_X3_spread_8.eq_2, if_neg (fun q => by have := (o3_lt (by omega) (by omega)).mp q; omega), if_neg (show ¬ (16 : Int32) < o3 t from fun q => by have := (o3_lt (a := 16) (by omega) (by omega)).mp q; omega), o3_s]
    obtain ⟨U, u1, u2⟩ := k_24 (p3 := o3 n) hE hm hl hf (t := t) (by omega) (K := fun S63 => lp_X3_spread_8 4 (o3 f) (o3 n) K nn (o3 (t + 1)) S63) F.length 0 FU T c (by omega) (FU_lt (by omega)) b1 hc hW
    rcases u2 with u2 | ⟨u2, ⟨c', u3⟩, u4⟩
    · exact ⟨U, u1, Or.inl u2⟩
    · have e : t * F.length + F.length = (t + 1) * F.length := by rw [Nat.add_mul, Nat.one_mul]
      rw [e] at u4
      obtain ⟨V, v1, v2⟩ := ih (t + 1) nn U c' (by omega) (by omega) (twC_R b1 u1) u3 u4
      refine ⟨V, u1.tr v1, ?_⟩
      rcases v2 with v2 | ⟨v2, v3⟩
      · exact Or.inl (u2.trans v2)
      · exact Or.inr ⟨u2.trans v2, v3⟩
theorem k_spread {f n : Nat} (hE : ∀ q ∈ E, okS F.length q) (hm : F.length ≤ 10) (hl : E.length ≤ 12) (hf : f < F.length) (hn : n ≤ 16) {S : fS} (b1 : twC S 4 F E) : ∃ r U, f_X3_spread 4 (o3 f) (o3 n) S = some (r, U) ∧ eRp S U ∧ (r = 0 ∨ (r = 1 ∧ okW U ((n + 1) * F.length))) := by
  unfold f_X3_spread
  rw [bd_some]
  have e0 : eRp S (pI S 45 5 0) := ⟨fun a k h => pI_ne (by omega), fun _ _ _ => rfl⟩
  obtain ⟨U, u1, u2⟩ := k_8 hE hm hl hf hn (K := fun S65 => some ((1 : Int32), S65)) (n + 1) 0 FU (pI S 45 5 0) 0 (by omega) (FU_lt (by omega)) (twC_R b1 e0) ⟨pI_eq, by omega⟩ (Or.inl (Nat.zero_mul _))
  rcases u2 with u2 | ⟨u2, u3⟩
  · exact ⟨0, U, u2, e0.tr u1, Or.inl rfl⟩
  · exact ⟨1, U, u2, e0.tr u1, Or.inr ⟨rfl, u3⟩⟩
theorem k_lc {f n : Nat} {x y : Int64} (hm : F.length ≤ 10) (hf : f < F.length) (hn : n ≤ 16) {S : fS} (b1 : twC S 4 F E) (hW : okW S ((n + 1) * F.length)) : ∃ r, f_X3_leastCarried 4 (o3 f) (o3 n) x y S = some r := by
  have h16 : n * F.length ≤ 16 * 10 := Nat.mul_le_mul hn hm
  have e : (n + 1) * F.length = n * F.length + F.length := by rw [Nat.add_mul, Nat.one_mul]
  obtain ⟨s, s1, s2⟩ := hW (n * F.length + f) (by omega)
  obtain ⟨t, t1, t2⟩ := hW (n * F.length + f + 1) (by omega)
  have key : ∀ d k nn (p8 : Int32), d = t - k → k ≤ 4000 → d < nn → ∃ r, lp_X3_leastCarried_23 x y (o3 (n * F.length + f)) S (fun u85 => some u85) nn p8 (o3 k) = some r := by
    intro d
    induction d with
    | zero =>
      intro k nn p8 hd hk hnn
      obtain ⟨nn, rfl⟩ : ∃ z, nn = z + 1 := ⟨nn - 1, by omega⟩
      rw [lp_X3_leastCarried_23.eq_2, o3_s, gI_o (by omega) (by omega), bd_some, t2, if_pos ((o3_le (by omega) (by omega)).mpr (by omega))]
      exact ⟨_, rfl⟩
    | succ d ih =>
      intro k nn p8 hd hk hnn
      obtain ⟨nn, rfl⟩ : ∃ z, nn = z + 1 := ⟨nn - 1, by omega⟩
      have go : ∀ p8, ∃ r, lp_X3_leastCarried_23 x y (o3 (n * F.length + f)) S (fun u85 => some u85) nn p8 (o3 (k + 1)) = some r := fun p8 => ih (k + 1) nn p8 (by omega) (by omega) (by omega)
      unfold lp_X3_leastCarried_23
      rw [o3_s, gI_o (by omega) (by omega), bd_some, t2, if_neg (fun q => by have := (o3_le (by omega) (by omega)).mp q; omega), gL_o (by omega) (by omega)]
      simp only [bd_some, f_X3_ageOf, f_X3_carriedOf, o3_s]
      repeat' split
      all_goals exact go _
  unfold f_X3_leastCarried
  rw [b1.1, o3_mul, o3_add, gI_o (by omega) (by omega), bd_some, s2]
  exact key (t - s) s FU (-2) rfl s1 (FU_lt (by omega))
end KS
end
