section
/-! tower(), rule(), go(), tick() -/
theorem t_2 (S : fS) (hR : Rel S) : ∃ r S1 S2, f_X10_tower S = some (r, S1) ∧ f_X11_tower S1 = some (r, S2) ∧ Rel S2 := by
  obtain ⟨n, s, L, M, ⟨t1, t2, t3, t4, t5⟩, hS, hL, hM⟩ := hR
  obtain ⟨S1, a1, a2, a3, a4, a5, a6⟩ := c_tower t2 t1
  have e146 : S1.1 146 = S.1 146 := funext fun k => a3 _ _ (by unfold wG1 wF1; omega)
  obtain ⟨S2, b1, b2, b3, b4, b5, b6⟩ := m_tower (S := S1) (n := n) ((a3 145 1 (by unfold wG1 wF1; omega)).trans t3) t1 (by rw [e146]; exact t5)
  rw [e146] at b1 b5 b6
  rw [t4] at a1 a5 a6
  refine ⟨_, S1, S2, a1, b1, ?_⟩
  have e1 : ∀ a k, ¬ wG1 a k → ¬ wT a k → S2.1 a k = S.1 a k := fun a k h1 h2 => (b3 a k h2).trans (a3 a k h1)
  have e2 : ∀ a k, ¬ wG2 a k → a ≠ 158 → a ≠ 161 → S2.2 a k = S.2 a k := fun a k h1 h2 h3 => (b4 a k h2 h3).trans (a4 a k h1)
  have hx : (S2.1 3 3) = S.1 3 3 := e1 3 3 (by unfold wG1 wF1; omega) (by unfold wT wR; omega)
  have hTp : rTp 0 S2 := by
    refine ⟨by omega, ?_, b2, ?_, ?_⟩
    · rw [b3 1 1 (by unfold wT wR; omega)]; exact a2
    · rw [show S2.1 2 = S.1 2 from funext fun k => e1 _ _ (by unfold wG1 wF1; omega) (by unfold wT wR; omega), show S2.1 146 = S.1 146 from funext fun k => e1 _ _ (by unfold wG1 wF1; omega) (by unfold wT wR; omega)]
      exact t4
    · rw [show S2.1 146 = S.1 146 from funext fun k => e1 _ _ (by unfold wG1 wF1; omega) (by unfold wT wR; omega)]
      exact t5
  have hL2 : rRu L S2 := rRu_eq hL (e1 _ _ (by unfold wG1 wF1; omega) (by unfold wT wR; omega)) (e1 _ _ (by unfold wG1 wF1; omega) (by unfold wT wR; omega)) (fun a k _ _ _ => e1 a k (by unfold wG1 wF1; omega) (by unfold wT wR; omega)) (fun a k h => e1 a k (by unfold wG1 wF1; omega) (by unfold wT wR; omega))
  have hM2 : rIm M S2 := rIm_eq hM (fun a k _ _ => e1 a k (by unfold wG1 wF1; omega) (by unfold wT wR; omega)) (fun a k _ _ => e2 a k (by unfold wG2 wF2; omega) (by omega) (by omega)) (fun k => e1 _ _ (by unfold wG1 wF1; omega) (by unfold wT wR; omega)) (fun k => e2 _ k (by unfold wG2 wF2; omega) (by omega) (by omega)) (fun k => e1 _ _ (by unfold wG1 wF1; omega) (by unfold wT wR; omega))
  by_cases hz : (tw0 (S.1 146) n).1 = 0
  · obtain ⟨c1, c2, c3, c4⟩ := a6 hz
    obtain ⟨d1, d2, d3, d4⟩ := b6 hz
    have hB := tw0_ok hz
    generalize (tw0 (S.1 146) n).2 = B at c1 c2 c3 d1 d2 d4 hB
    have f1 : ∀ a k, a < 38 → S2.1 a k = S1.1 a k := fun a k h => b3 a k (by unfold wT wR; omega)
    have f2 : ∀ a k, a < 38 → S2.2 a k = S1.2 a k := fun a k h => b4 a k (by omega) (by omega)
    refine ⟨0, sn0 B, L, M, hTp, ⟨okN_0 hB, ⟨?_, ?_, ?_, ?_, ?_⟩, ⟨d1, cwM_0 d2, ?_, ?_⟩, ?_⟩, hL2, hM2⟩
    · exact twC_eq c1 (fun a k _ _ => f1 a k (by omega)) (fun a k _ _ => f2 a k (by omega))
    · exact fun a b ha hb => (f1 _ _ (by omega)).trans (c2 a b (Nat.lt_of_lt_of_le ha hB.1) (Nat.lt_of_lt_of_le hb hB.1))
    · exact cwC_eq (cwC_0 c3) (fun a k _ _ => f1 a k (by omega)) (fun k => f2 _ k (by omega))
    · exact ⟨(f1 _ _ (by omega)).trans c4, fun k hk => absurd hk (Nat.not_lt_zero _)⟩
    · rw [hx]; exact hS.2.1.2.2.2.2
    · exact ⟨d3, fun k hk => absurd hk (Nat.not_lt_zero _)⟩
    · rw [e1 157 5 (by unfold wG1 wF1; omega) (by unfold wT wR; omega)]; exact hS.2.2.1.2.2.2
    · exact fun a b ha hb => d4 a b (Nat.lt_of_lt_of_le ha hB.1) (Nat.lt_of_lt_of_le hb hB.1)
  · obtain ⟨c1, c2⟩ := a5 hz
    obtain ⟨d1, d2⟩ := b5 hz
    refine ⟨0, s, L, M, hTp, rSc_eq hS (fun a k _ _ => (b3 a k (by unfold wT wR; omega)).trans (c1 a k (by unfold wF1; omega))) (fun a k _ _ => by rw [d2]; exact c2 a k (by unfold wF2; omega)) (by rw [hx]; exact hS.2.1.2.2.2.2) (fun k => (d1 k).trans (c1 157 k (by unfold wF1; omega))) (fun a k _ => by rw [d2]; exact c2 a k (by unfold wF2; omega)), hL2, hM2⟩
/-! rule() -/
theorem cdM_eq2 {S T : fS} {x : Nat} {L : List Cl} (h : cdM S x L) (h1 : ∀ k, k < 400 → T.1 147 (400 * x + k) = S.1 147 (400 * x + k)) (h2 : T.1 148 x = S.1 148 x) (h3 : ∀ k, k < 36 → T.1 149 (36 * x + k) = S.1 149 (36 * x + k)) (h4 : T.1 150 x = S.1 150 x) : cdM T x L := by
  obtain ⟨a, b, c, d, e, f⟩ := h
  exact ⟨clM_eq a h4 (fun k hk => h3 k (by omega)), b, h2.trans c, d, e, fun k hk => (h1 k (by omega)).trans (f k hk)⟩
theorem t_3 (S : fS) (hR : Rel S) : ∃ r S1 S2, f_X10_rule S = some (r, S1) ∧ f_X11_rule S1 = some (r, S2) ∧ Rel S2 := by
  obtain ⟨n, s, L, M, ⟨t1, t2, t3, t4, t5⟩, hS, hL, hM⟩ := hR
  obtain ⟨l1, l2, l3, l4⟩ := hL
  obtain ⟨S1, a1, a2, a3⟩ := c_rule t2 t1 l2 l1
  by_cases h6 : L.length = 6
  · have e := a2 h6
    subst e
    obtain ⟨S2, b1, b2, b3⟩ := m_rule t3 t1 t5 l3 l1
    have e := b2 h6
    subst e
    rw [if_pos h6] at a1 b1
    exact ⟨_, S2, S2, a1, b1, n, s, L, M, ⟨t1, t2, t3, t4, t5⟩, hS, ⟨l1, l2, l3, l4⟩, hM⟩
  · obtain ⟨a4, a5, a6, a7, a8⟩ := a3 (by omega)
    have e146 : S1.1 146 = S.1 146 := funext fun k => a5 _ _ (by unfold wU; omega) (by omega) (by omega)
    obtain ⟨S2, b1, b2, b3⟩ := m_rule (S := S1) (n := n) (r := L.length) ((a5 145 1 (by unfold wU; omega) (by omega) (by omega)).trans t3) t1 (by rw [e146]; exact t5) ((a5 145 2 (by unfold wU; omega) (by omega) (by omega)).trans l3) l1
    obtain ⟨b4, b5, b6, b7, b8⟩ := b3 (by omega)
    rw [e146] at b1 b7 b8
    rw [t4] at a1 a7 a8
    refine ⟨_, S1, S2, a1, b1, ?_⟩
    have f1 : ∀ a k, a ≤ 144 → S2.1 a k = S1.1 a k := fun a k h => b5 a k (by unfold wV wM9 wMr; omega) (by omega)
    have e1 : ∀ a k, ¬ wU a k → ¬ (a = 0 ∧ k = 10) → ¬ (a = 127 + 3 * L.length ∨ a = 128 + 3 * L.length) → ¬ wV L.length a k → ¬ (a = 145 ∧ (k = 2 ∨ k = 16)) → S2.1 a k = S.1 a k := fun a k h1 h2 h3 h4 h5 => (b5 a k h4 h5).trans (a5 a k h1 h2 h3)
    have e2 : ∀ a k, S2.2 a k = S.2 a k := fun a k => by rw [b6, a6]
    have h2 : S2.1 2 = S.1 2 := funext fun k => e1 _ _ (by unfold wU; omega) (by omega) (by omega) (by unfold wV wM9 wMr; omega) (by omega)
    have h146 : S2.1 146 = S.1 146 := funext fun k => e1 _ _ (by unfold wU; omega) (by omega) (by omega) (by unfold wV wM9 wMr; omega) (by omega)
    have hTp : rTp 0 S2 := ⟨by omega, (f1 _ _ (by omega)).trans a4, b4, by rw [h2, h146]; exact t4, by rw [h146]; exact t5⟩
    have hS2 : rSc s S2 := rSc_eq hS (fun a k _ _ => e1 a k (by unfold wU; omega) (by omega) (by omega) (by unfold wV wM9 wMr; omega) (by omega)) (fun a k _ _ => e2 a k) (by rw [e1 3 3 (by unfold wU; omega) (by omega) (by omega) (by unfold wV wM9 wMr; omega) (by omega)]; exact hS.2.1.2.2.2.2) (fun k => e1 _ _ (by unfold wU; omega) (by omega) (by omega) (by unfold wV wM9 wMr; omega) (by omega)) (fun a k _ => e2 a k)
    have hM2 : rIm M S2 := rIm_eq hM (fun a k _ _ => e1 a k (by unfold wU; omega) (by omega) (by omega) (by unfold wV wM9 wMr; omega) (by omega)) (fun a k _ _ => e2 a k) (fun k => e1 _ _ (by unfold wU; omega) (by omega) (by omega) (by unfold wV wM9 wMr; omega) (by omega)) (fun k => e2 _ k) (fun k => e1 _ _ (by unfold wU; omega) (by omega) (by omega) (by unfold wV wM9 wMr; omega) (by omega))
    have hold : ∀ r, r < L.length → cdC S2 (127 + 3 * r) (ccode (L.getD r [])) ∧ cdM S2 r (L.getD r []) := fun r hr => by
      obtain ⟨x, y⟩ := l4 r hr
      exact ⟨cdC_eq x (e1 _ _ (by unfold wU; omega) (by omega) (by omega) (by unfold wV wM9 wMr; omega) (by omega)) (fun k => e1 _ _ (by unfold wU; omega) (by omega) (by omega) (by unfold wV wM9 wMr; omega) (by omega)), cdM_eq2 y (fun k hk => e1 _ _ (by unfold wU; omega) (by omega) (by omega) (by unfold wV wM9 wMr; omega) (by omega)) (e1 _ _ (by unfold wU; omega) (by omega) (by omega) (by unfold wV wM9 wMr; omega) (by omega)) (fun k hk => e1 _ _ (by unfold wU; omega) (by omega) (by omega) (by unfold wV wM9 wMr; omega) (by omega)) (e1 _ _ (by unfold wU; omega) (by omega) (by omega) (by unfold wV wM9 wMr; omega) (by omega))⟩
    by_cases hz : (ru0 (S.1 146) n).1 = 0
    · obtain ⟨c1, c2⟩ := a8 hz
      obtain ⟨d1, d2⟩ := b8 hz
      refine ⟨0, s, L ++ [(ru0 (S.1 146) n).2], M, hTp, hS2, ⟨by rw [ln_app]; omega, by rw [ln_app, f1 0 10 (by omega)]; exact c1, by rw [ln_app]; exact d1, fun r hr => ?_⟩, hM2⟩
      rw [ln_app] at hr
      by_cases e : r = L.length
      · subst e
        rw [gd_r]
        exact ⟨cdC_eq c2 (f1 _ _ (by omega)) (fun k => f1 _ _ (by omega)), d2⟩
      · rw [gd_l (by omega)]
        exact hold r (by omega)
    · have c1 := a7 hz
      have d1 := b7 hz
      exact ⟨0, s, L, M, hTp, hS2, ⟨l1, by rw [f1 0 10 (by omega), c1 0 10 (by unfold wU; omega)]; exact l2, d1, hold⟩, hM2⟩
/-! go() -/
theorem mi_o {S : fS} {i m : Nat} (h : S.1 157 i = o3 m) (hi : i < 158) (hm : m < 2147483648) {v : Int32} : (if v < (0 : Int32) then some (0 : Int32) else (gI S 157 158 (o3 i)).bind fun a2 => if a2 ≤ v then some (0 : Int32) else some (1 : Int32)) = some (if 0 ≤ v.toInt ∧ v.toInt < m then 1 else 0) := by
  by_cases g : v < 0
  · rw [if_pos g, if_neg (by rw [ni_lt, ni_0] at g; omega)]
  · rw [if_neg g, gI_o hi (by omega), bd_some, h]
    rw [ni_lt, ni_0] at g
    by_cases z : v.toInt < m
    · rw [if_neg (by rw [ni_le, o3_int (by omega)]; omega), if_pos ⟨by omega, z⟩]
    · rw [if_pos (by rw [ni_le, o3_int (by omega)]; omega), if_neg (fun q => z q.2)]
theorem ci_floor {S : fS} {m : Nat} (h : S.1 4 6 = o3 m) (hm : m < 2147483648) {v : Int32} : f_X10_isFloor v S = some (if 0 ≤ v.toInt ∧ v.toInt < m then 1 else 0) := by
  unfold f_X10_isFloor
  rw [h, from_o hm, bd_some]
  split <;> rfl
theorem ci_thing {S : fS} {m : Nat} (h : S.1 11 5 = o3 m) (hm : m < 2147483648) {v : Int32} : f_X10_isThing v S = some (if 0 ≤ v.toInt ∧ v.toInt < m then 1 else 0) := by
  unfold f_X10_isThing
  rw [h, from_o hm, bd_some]
  split <;> rfl
theorem mi_floor {S : fS} {m : Nat} (h : S.1 157 0 = o3 m) (hm : m < 2147483648) {v : Int32} : f_X11_isFloor v S = some (if 0 ≤ v.toInt ∧ v.toInt < m then 1 else 0) := mi_o h (by omega) hm
theorem mi_stair {S : fS} {m : Nat} (h : S.1 157 1 = o3 m) (hm : m < 2147483648) {v : Int32} : f_X11_isStair v S = some (if 0 ≤ v.toInt ∧ v.toInt < m then 1 else 0) := mi_o h (by omega) hm
theorem mi_thing {S : fS} {m : Nat} (h : S.1 157 2 = o3 m) (hm : m < 2147483648) {v : Int32} : f_X11_isThing v S = some (if 0 ≤ v.toInt ∧ v.toInt < m then 1 else 0) := mi_o h (by omega) hm
theorem cOff_ok2 {m : Nat} {E : List St5} {C : Cw} {th s f : Nat} (hC : okD m E C) (hE : ∀ q ∈ E, okS m q) (hs : s < E.length) (ho : oeI (E.getD s d5) f ≠ -1) : okD m E (cOff C th s (oeI (E.getD s d5) f)) := by
  unfold oeI at ho
  by_cases h1 : (E.getD s d5).1 = f
  · refine cOff_ok (D := fun a b => if a = f then (E.getD s d5).2.2.1 else 0) (b := 0) hC hE hs (Or.inl ⟨h1, ?_, ?_⟩)
    · have := hE _ (gd_mem (d := d5) hs)
      obtain ⟨_, _, s3, _, s5, _⟩ := this
      dsimp only
      rw [if_neg (by omega)]; omega
    · have := hE _ (gd_mem (d := d5) hs)
      obtain ⟨_, _, s3, _, s5, _⟩ := this
      dsimp only
      rw [if_neg (by omega), if_pos rfl]
      omega
  · rw [if_neg h1] at ho
    by_cases h2 : (E.getD s d5).2.1 = f
    · refine cOff_ok (D := fun a b => if a = f then (E.getD s d5).2.2.1 else 0) (b := 0) hC hE hs (Or.inr ⟨h1, h2, ?_, ?_⟩)
      · dsimp only
        rw [if_neg h1]; omega
      · dsimp only
        rw [if_neg h1, if_pos rfl]
        omega
    · rw [if_neg h2] at ho; exact absurd rfl ho
/-- the crowd of a scene put in another's place -/
def snC (s : Sn) (C : Cw) : Sn := (s.1, s.2.1, C, s.2.2.2)
theorem rSc_cw {s : Sn} {S T : fS} {C : Cw} {p : Nat} (hp : 127 ≤ p ∧ p ≤ 142) (h : rSc s S) (hok : okC s.1.length s.2.1 C) (hc : cwC T 11 C) (hm : cwM (T.1 157) (T.2 158) C) (h1 : ∀ a k, 3 < a → a ≤ 21 → ¬ (11 ≤ a ∧ a ≤ 15) → T.1 a k = S.1 a k) (h2 : ∀ a k, 3 < a → a ≤ 21 → a ≠ 16 → T.2 a k = S.2 a k) (h3 : 0 ≤ (T.1 3 3).toInt) (h4 : ∀ k, ¬ (k = 3 ∨ (90 ≤ k ∧ k < 122)) → T.1 157 k = S.1 157 k) (h5 : ∀ k, T.2 161 k = S.2 161 k) : rSc (snC s C) T := by
  obtain ⟨⟨n1, n2, n3, n4, n5, n6⟩, ⟨b1, b2, b3, b4, b5⟩, ⟨m1, m2, m3, m4⟩, d⟩ := h
  refine ⟨⟨n1, n2, n3, n4, hok, n6⟩, ⟨?_, ?_, hc, ?_, h3⟩, ⟨?_, hm, ?_, ?_⟩, rHm_eq d h5⟩
  · exact twC_eq b1 (fun a k _ _ => h1 a k (by omega) (by omega) (by omega)) (fun a k _ _ => h2 a k (by omega) (by omega) (by omega))
  · exact rWm_eq b2 (fun k => h1 _ k (by omega) (by omega) (by omega))
  · exact poC_eq b4 (fun a k _ _ => h1 a k (by omega) (by omega) (by omega))
  · exact twM_eq n1 n2 m1 (fun k hk => h4 k (by omega))
  · obtain ⟨p1, p2⟩ := m3
    refine ⟨(h4 4 (by omega)).trans p1, fun k hk => ?_⟩
    obtain ⟨q1, q2, q3⟩ := p2 k hk
    exact ⟨(h4 _ (by omega)).trans q1, (h4 _ (by omega)).trans q2, (h4 _ (by omega)).trans q3⟩
  · show 0 ≤ (T.1 157 5).toInt
    rw [h4 5 (by omega)]; exact m4
theorem t_9 (a1 a2 : Int32) (S : fS) (hR : Rel S) : ∃ r S1 S2, f_X10_go a1 a2 S = some (r, S1) ∧ f_X11_go a1 a2 S1 = some (r, S2) ∧ Rel S2 := by
  have hR0 := hR
  obtain ⟨n, s, L, M, hT, hS, hL, hM⟩ := hR
  have hS0 := hS
  obtain ⟨⟨n1, n2, n3, n4, n5, n6⟩, ⟨b1, b2, b3, b4, b5⟩, ⟨m1, m2, m3, m4⟩, d⟩ := hS
  have h8 := n5.1
  unfold f_X10_go f_X10_isStanding
  rw [ci_thing b3.1 (by omega), bd_some]
  by_cases h1 : 0 ≤ a1.toInt ∧ a1.toInt < s.2.2.1.1
  · rw [if_pos h1]
    obtain ⟨th, e1, e2⟩ := o3_ex h1.1
    have hth : th < s.2.2.1.1 := by omega
    obtain ⟨k1, k2, k3, k4, k5⟩ := b3.2.2 th hth
    obtain ⟨j1, j2, j3, j4, j5⟩ := m2.2.2 th hth
    rw [if_neg (show ¬ (1 : Int32) = 0 by decide)]
    unfold f_X0_isStanding
    rw [e1, gI_o (by omega) (by omega), bd_some, k1]
    have hM1 : f_X11_isThing (o3 th) S = some 1 := by rw [mi_thing m2.1 (by omega), if_pos (by rw [o3_int (by omega)]; omega)]
    have ht0 : f_X11_thingOf (o3 th) 0 S = some (s.2.2.1.2.2.1 th) := (mw_thing (a := 0) (by omega) (by omega)).trans (congrArg some j1)
    by_cases h0 : s.2.2.1.2.2.1 th < 0
    · rw [if_pos h0, bd_some, if_pos rfl, bd_some, if_pos rfl]
      refine ⟨0, S, S, rfl, ?_, hR0⟩
      unfold f_X11_go
      rw [hM1, bd_some, if_neg (show ¬ (1 : Int32) = 0 by decide), mi_stair m1.2.1 (by omega), bd_some, ht0]
      by_cases hq : 0 ≤ a2.toInt ∧ a2.toInt < s.2.1.length
      · rw [if_pos hq, if_neg (show ¬ (1 : Int32) = 0 by decide), bd_some, if_pos h0]
      · rw [if_neg hq, if_pos rfl]
    · obtain ⟨f, f1, f2⟩ := okT_nn (n5.2.2 th hth).1 n1 h0
      rw [if_neg h0, bd_some, if_neg (show ¬ (1 : Int32) = 0 by decide), bd_some, if_neg (show ¬ (1 : Int32) = 0 by decide), b1.2.1, from_o (by omega), bd_some]
      by_cases h2 : 0 ≤ a2.toInt ∧ a2.toInt < s.2.1.length
      · rw [if_pos h2, if_neg (show ¬ (1 : Int32) = 0 by decide)]
        obtain ⟨st, g1, g2⟩ := o3_ex h2.1
        have hst : st < s.2.1.length := by omega
        rw [g1]
        have hsti : 0 ≤ (o3 st).toInt ∧ (o3 st).toInt < (s.2.1.length : Int) := by rw [o3_int (by omega)]; omega
        obtain ⟨S1, z1, z2, z3⟩ := ch_off b3 h8 b1 n4 n1 n2 hth hst f1 f2
        have z3 := z3 127
        rw [z1, bd_some]
        by_cases ho : oeI (s.2.1.getD st d5) f = -1
        · rw [if_pos ho]
          refine ⟨0, S, S, rfl, ?_, hR0⟩
          unfold f_X11_go
          rw [hM1, bd_some, if_neg (show ¬ (1 : Int32) = 0 by decide), mi_stair m1.2.1 (by omega), bd_some, if_pos hsti, if_neg (show ¬ (1 : Int32) = 0 by decide), ht0, bd_some, if_neg h0, bd_some, f2, mh_other m1 n4 n1 n2 hst (by omega), bd_some, ho, if_neg (by decide)]
        · rw [if_neg ho]
          have q157 : S1.1 157 = S.1 157 := funext fun k => z3.1 157 k (by omega) (by omega) (by omega)
          have q158 : S1.2 158 = S.2 158 := funext fun k => z3.2 158 k (by omega) (by omega)
          have m1' : twM (S1.1 157) s.1 s.2.1 := by rw [q157]; exact m1
          have m2' : cwM (S1.1 157) (S1.2 158) s.2.2.1 := by rw [q157, q158]; exact m2
          obtain ⟨S2, y1, y2, y3⟩ := mh_off m2' h8 m1' n4 n1 n2 hth hst f1 f2
          have hM1' : f_X11_isThing (o3 th) S1 = some 1 := by rw [mi_thing m2'.1 (by omega), if_pos (by rw [o3_int (by omega)]; omega)]
          have ht0' : f_X11_thingOf (o3 th) 0 S1 = some (s.2.2.1.2.2.1 th) := (mw_thing (a := 0) (by omega) (by omega)).trans (congrArg some ((m2'.2.2 th hth).1))
          have hge : (0 : Int32) ≤ oeI (s.2.1.getD st d5) f := by
            rcases oe_or (a := f) (n4 _ (gd_mem (d := d5) hst)) n1 with ⟨o, o1, o2, _⟩ | ⟨o2, _⟩
            · rw [o2]; exact o3_0le (by omega)
            · exact absurd o2 ho
          refine ⟨1, S1, S2, rfl, ?_, n, snC s (cOff s.2.2.1 th st (oeI (s.2.1.getD st d5) f)), L, M, ?_, ?_, ?_, ?_⟩
          · unfold f_X11_go
            rw [hM1', bd_some, if_neg (show ¬ (1 : Int32) = 0 by decide), mi_stair m1'.2.1 (by omega), bd_some, if_pos hsti, if_neg (show ¬ (1 : Int32) = 0 by decide), ht0', bd_some, if_neg h0, bd_some, f2, mh_other m1' n4 n1 n2 hst (by omega), bd_some, if_pos hge, y1, bd_some]
          · exact rTp_eq hT ((y3.1 _ _ (by omega) (by omega)).trans (z3.1 _ _ (by omega) (by omega) (by omega))) ((y3.1 _ _ (by omega) (by omega)).trans (z3.1 _ _ (by omega) (by omega) (by omega))) (fun k => (y3.1 _ _ (by omega) (by omega)).trans (z3.1 _ _ (by omega) (by omega) (by omega))) (fun k => (y3.1 _ _ (by omega) (by omega)).trans (z3.1 _ _ (by omega) (by omega) (by omega)))
          · refine rSc_cw (p := 127) (by omega) hS0 (okC_of (cOff_ok2 (okD_of n5) n4 hst ho) n5.2.1) ?_ y2 (fun a k _ _ _ => (y3.1 _ _ (by omega) (by omega)).trans (z3.1 _ _ (by omega) (by omega) (by omega))) (fun a k _ _ _ => (y3.2 _ _ (by omega) (by omega) (by omega)).trans (z3.2 _ _ (by omega) (by omega))) ?_ (fun k hk => (y3.1 _ _ (by omega) (by omega)).trans (z3.1 _ _ (by omega) (by omega) (by omega))) (fun k => (y3.2 _ _ (by omega) (by omega) (by omega)).trans (z3.2 _ _ (by omega) (by omega)))
            · exact cwC_eq z2 (fun a k _ _ => y3.1 _ _ (by omega) (by omega)) (fun k => y3.2 _ _ (by omega) (by omega) (by omega))
            · rw [y3.1 _ _ (by omega) (by omega), z3.1 _ _ (by omega) (by omega) (by omega)]; exact b5
          · exact rRu_eq hL ((y3.1 _ _ (by omega) (by omega)).trans (z3.1 _ _ (by omega) (by omega) (by omega))) ((y3.1 _ _ (by omega) (by omega)).trans (z3.1 _ _ (by omega) (by omega) (by omega))) (fun a k _ _ _ => (y3.1 _ _ (by omega) (by omega)).trans (z3.1 _ _ (by omega) (by omega) (by omega))) (fun a k _ => (y3.1 _ _ (by omega) (by omega)).trans (z3.1 _ _ (by omega) (by omega) (by omega)))
          · exact rIm_eq hM (fun a k _ _ => (y3.1 _ _ (by omega) (by omega)).trans (z3.1 _ _ (by omega) (by omega) (by omega))) (fun a k _ _ => (y3.2 _ _ (by omega) (by omega) (by omega)).trans (z3.2 _ _ (by omega) (by omega))) (fun k => (y3.1 _ _ (by omega) (by omega)).trans (z3.1 _ _ (by omega) (by omega) (by omega))) (fun k => (y3.2 _ _ (by omega) (by omega) (by omega)).trans (z3.2 _ _ (by omega) (by omega))) (fun k => (y3.1 _ _ (by omega) (by omega)).trans (z3.1 _ _ (by omega) (by omega) (by omega)))
      · rw [if_neg h2, if_pos rfl]
        refine ⟨0, S, S, rfl, ?_, hR0⟩
        unfold f_X11_go
        rw [hM1, bd_some, if_neg (show ¬ (1 : Int32) = 0 by decide), mi_stair m1.2.1 (by omega), bd_some, if_neg h2, if_pos rfl]
  · rw [if_neg h1, if_pos rfl, bd_some, if_pos rfl]
    refine ⟨0, S, S, rfl, ?_, hR0⟩
    unfold f_X11_go
    rw [mi_thing m2.1 (by omega), bd_some, if_neg h1, if_pos rfl]
/-! tick() -/
theorem from_c {v : Int32} {a b : Nat} {S : fS} (ha : a < 2147483648) (hb : b < 2147483648) : f_X10_isFrom v (o3 a) (o3 b) S = some (if (a : Int) ≤ v.toInt ∧ v.toInt ≤ b then 1 else 0) := by
  rcases op_isFrom01 (v := v) (a := o3 a) (b := o3 b) (S := S) with ⟨h, g⟩ | ⟨h, g1, g2⟩
  · rw [o3_int ha, o3_int hb] at g
    rw [h, if_neg g]
  · rw [o3_int ha] at g1
    rw [o3_int hb] at g2
    rw [h, if_pos ⟨g1, g2⟩]
theorem in_c {v : Int32} {a b : Nat} {S : fS} (ha : a < 2147483648) (hb : b < 2147483648) : f_X11_in (Int32.toInt64 v) (o6 a) (o6 b) S = some (if (a : Int) ≤ v.toInt ∧ v.toInt ≤ b then 1 else 0) := by
  rw [← o6_of3 ha, ← o6_of3 hb, op_in, from_c ha hb]
theorem rn_o {v : Int32} {m : Nat} {S : fS} (h : S.1 0 10 = o3 m) (hm : m < 2147483648) : f_X10_isRuleOrNone v S = some (if -1 ≤ v.toInt ∧ v.toInt < m then 1 else 0) := by
  unfold f_X10_isRuleOrNone
  have e : (o3 m - 1 : Int32).toInt = (m : Int) - 1 := by
    rw [ni_sub (by rw [o3_int hm, show (1 : Int32).toInt = 1 from rfl]; omega) (by rw [o3_int hm, show (1 : Int32).toInt = 1 from rfl]; omega), o3_int hm]
    rfl
  rw [h]
  rcases op_isFrom01 (v := v) (a := -1) (b := o3 m - 1) (S := S) with ⟨h, g⟩ | ⟨h, g1, g2⟩
  · rw [h, bd_some, if_neg (by rw [e, show (-1 : Int32).toInt = -1 from rfl] at g; omega)]
    rfl
  · rw [h, bd_some, if_pos (by rw [e] at g2; rw [show (-1 : Int32).toInt = -1 from rfl] at g1; omega)]
    rfl
theorem mr_o {v : Int32} {m : Nat} {S : fS} (h : S.1 145 2 = o3 m) (hm : m < 2147483648) : f_X11_isRule v S = some (if 0 ≤ v.toInt ∧ v.toInt < m then 1 else 0) := by
  unfold f_X11_isRule
  rw [h]
  by_cases g : v < 0
  · rw [if_pos g, if_neg (by rw [ni_lt, ni_0] at g; omega)]
  · rw [if_neg g]
    rw [ni_lt, ni_0] at g
    by_cases z : v.toInt < m
    · rw [if_neg (by rw [ni_le, o3_int (by omega)]; omega), if_pos ⟨by omega, z⟩]
    · rw [if_pos (by rw [ni_le, o3_int (by omega)]; omega), if_neg (fun q => z q.2)]
/-- a rule's number or none: on both sides -/
theorem ru_both {v : Int32} {S : fS} {L : List (List Cl)} (hL : rRu L S) (hv : -1 ≤ v.toInt ∧ v.toInt < L.length) : ∃ p Q, f_X10_ruleOrNull v S = some p ∧ (∀ T : fS, (∀ r, r < L.length → cdC T (127 + 3 * r) (ccode (L.getD r []))) → ruC T p Q) ∧ (∀ T : fS, (∀ r, r < L.length → cdM T r (L.getD r [])) → ruM T v Q) ∧ 127 ≤ p.getD 127 ∧ p.getD 127 ≤ 142 ∧ (p.getD 127) % 3 = 1 := by
  obtain ⟨l1, l2, l3, l4⟩ := hL
  unfold f_X10_ruleOrNull
  rw [l2, from_o (by omega), bd_some]
  by_cases h : 0 ≤ v.toInt
  · rw [if_pos (show 0 ≤ v.toInt ∧ v.toInt < (L.length : Int) from ⟨h, hv.2⟩), if_neg (show ¬ (1 : Int32) = 0 by decide)]
    obtain ⟨r, e1, e2⟩ := o3_ex h
    have hr : r < L.length := by omega
    rw [e1, gA23_o (by omega), bd_some]
    refine ⟨some (127 + 3 * r), some (L.getD r []), rfl, fun T hT => Or.inr ⟨_, _, rfl, rfl, hT r hr, (l4 r hr).2.2.2.2.2.1⟩, fun T hT => Or.inr ⟨r, _, by omega, rfl, rfl, hT r hr⟩, ?_, ?_, ?_⟩
    · show 127 ≤ 127 + 3 * r; omega
    · show 127 + 3 * r ≤ 142; omega
    · show (127 + 3 * r) % 3 = 1; omega
  · rw [if_neg (show ¬ (0 ≤ v.toInt ∧ v.toInt < (L.length : Int)) from fun q => h q.1), if_pos rfl]
    have e : v = -1 := ni_eq.mpr (by show v.toInt = -1; omega)
    exact ⟨none, none, rfl, fun T _ => Or.inl ⟨rfl, rfl⟩, fun T _ => Or.inl ⟨e, rfl⟩, by decide, by decide, by decide⟩
theorem cHrs_ok {F : List (Nat × Nat)} {E : List St5} {Q : Option (List Cl)} (hF : ∀ q ∈ F, okF q) (hE : ∀ q ∈ E, okS F.length q) (hm : F.length ≤ 10) (hl : E.length ≤ 12) : ∀ d (C : Cw), okD F.length E C → C.2.1 + d ≤ 10199 → okD F.length E (cHrs F E Q d C) ∧ (cHrs F E Q d C).1 = C.1 ∧ (cHrs F E Q d C).2.1 = C.2.1 + d := by
  intro d
  induction d with
  | zero => intro C hC _; exact ⟨hC, rfl, rfl⟩
  | succ d ih =>
    intro C hC h9
    obtain ⟨a, b, c⟩ := cHr_ok (Q := Q) hC hF hE hm hl (by omega)
    obtain ⟨x, y, z⟩ := ih (cHr F E Q C) a (by omega)
    exact ⟨x, y.trans b, by rw [show cHrs F E Q (d + 1) C = cHrs F E Q d (cHr F E Q C) from rfl, z, c]; omega⟩
theorem t_10 (a1 a2 : Int32) (S : fS) (hR : Rel S) : ∃ r S1 S2, f_X10_tick a1 a2 S = some (r, S1) ∧ f_X11_tick a1 a2 S1 = some (r, S2) ∧ Rel S2 := by
  have hR0 := hR
  obtain ⟨n, s, L, M, hT, hS, hL, hM⟩ := hR
  have hS0 := hS
  have hL0 := hL
  obtain ⟨⟨n1, n2, n3, n4, n5, n6⟩, ⟨b1, b2, b3, b4, b5⟩, ⟨m1, m2, m3, m4⟩, d⟩ := hS
  obtain ⟨l1, l2, l3, l4⟩ := hL
  have h9 := n5.2.1
  /- the reference, in one form -/
  have hm : ∀ T : fS, T.1 145 2 = o3 L.length → T.1 157 3 = o3 s.2.2.1.2.1 → f_X11_tick a1 a2 T = if -1 ≤ a1.toInt ∧ a1.toInt < L.length then (if (1 : Int) ≤ a2.toInt ∧ a2.toInt ≤ 200 then (if o3 s.2.2.1.2.1 + a2 ≤ (9999 : Int32) then lp_X11_tick_43 a1 a2 (fun S14 => (gI S14 157 158 (3 : Int32)).bind fun a16 => some (a16, S14)) FU (0 : Int32) T else some (-1, T)) else some (-1, T)) else some (-1, T) := fun T h2 h3 => by
    unfold f_X11_tick
    have hin : f_X11_in (Int32.toInt64 a2) 1 200 T = some (if (1 : Int) ≤ a2.toInt ∧ a2.toInt ≤ 200 then 1 else 0) := in_c (a := 1) (b := 200) (by omega) (by omega)
    have hg : gI T 157 158 3 = some (o3 s.2.2.1.2.1) := (gI_o (k := 3) (by omega) (by omega)).trans (congrArg some h3)
    have hrest : ((f_X11_in (Int32.toInt64 a2) 1 200 T).bind fun q2 => if q2 = (0 : Int32) then (some ((-1 : Int32), T)) else ((gI T 157 158 (3 : Int32)).bind fun a6 => if (a6 + a2) ≤ (9999 : Int32) then (lp_X11_tick_43 a1 a2 (fun S14 => (gI S14 157 158 (3 : Int32)).bind fun a16 => some (a16, S14)) FU (0 : Int32) T) else (some ((-1 : Int32), T)))) = (if (1 : Int) ≤ a2.toInt ∧ a2.toInt ≤ 200 then (if o3 s.2.2.1.2.1 + a2 ≤ (9999 : Int32) then lp_X11_tick_43 a1 a2 (fun S14 => (gI S14 157 158 (3 : Int32)).bind fun a16 => some (a16, S14)) FU (0 : Int32) T else some (-1, T)) else some (-1, T)) := by
      rw [hin, bd_some]
      by_cases z : (1 : Int) ≤ a2.toInt ∧ a2.toInt ≤ 200
      · rw [if_pos z, if_pos z, if_neg (show ¬ (1 : Int32) = 0 by decide), hg, bd_some]
      · rw [if_neg z, if_neg z, if_pos rfl]
    by_cases h1 : a1 = -1
    · rw [if_pos h1, hrest, if_pos (show -1 ≤ a1.toInt ∧ a1.toInt < (L.length : Int) from by rw [h1, show (-1 : Int32).toInt = -1 from rfl]; omega)]
    · rw [if_neg h1, mr_o h2 (by omega), bd_some]
      have h1' : a1.toInt ≠ -1 := fun q => h1 (ni_eq.mpr q)
      by_cases z : 0 ≤ a1.toInt ∧ a1.toInt < L.length
      · rw [if_pos z, if_neg (show ¬ (1 : Int32) = 0 by decide), hrest, if_pos (show -1 ≤ a1.toInt ∧ a1.toInt < (L.length : Int) by omega)]
      · rw [if_neg z, if_pos rfl, if_neg (show ¬ (-1 ≤ a1.toInt ∧ a1.toInt < (L.length : Int)) by omega)]
  unfold f_X10_tick
  rw [rn_o l2 (by omega), bd_some]
  by_cases h1 : -1 ≤ a1.toInt ∧ a1.toInt < L.length
  · have hfr : f_X10_isFrom a2 1 200 S = some (if (1 : Int) ≤ a2.toInt ∧ a2.toInt ≤ 200 then 1 else 0) := from_c (a := 1) (b := 200) (by omega) (by omega)
    rw [if_pos h1, if_neg (show ¬ (1 : Int32) = 0 by decide), hfr, bd_some]
    by_cases h2 : (1 : Int) ≤ a2.toInt ∧ a2.toInt ≤ 200
    · rw [if_pos h2, if_neg (show ¬ (1 : Int32) = 0 by decide), b3.2.1]
      by_cases h3 : o3 s.2.2.1.2.1 + a2 ≤ (9999 : Int32)
      · rw [if_pos h3]
        obtain ⟨h, g1, g2⟩ := o3_ex (x := a2) (by omega)
        have h9' : s.2.2.1.2.1 + h ≤ 9999 := by
          rw [g1, o3_add] at h3
          exact (o3_le (b := 9999) (by omega) (by omega)).mp h3
        obtain ⟨p, Q, p1, p2, p3, p4, p5, p6⟩ := ru_both hL0 h1
        rw [p1, bd_some, g1]
        obtain ⟨S1, z1, z2, z3⟩ := c_live (p := p) (Q := Q) (t := 4) (c := 11) (by omega) (by omega) n3 n4 n1 n2 (h := h) (by omega) (K := fun S12 => some S12) h 0 FU S s.2.2.1 (by omega) (FU_lt (by omega)) (okD_of n5) (by omega) b3 b1 b2 (p2 S (fun r hr => (l4 r hr).1))
        have z1' : f_X0_live 11 4 p (o3 h) S = some S1 := z1
        have q157 : S1.1 157 = S.1 157 := funext fun k => z3.1 157 k (by omega) (by omega) (by omega)
        have q158 : S1.2 158 = S.2 158 := funext fun k => z3.2 158 k (by omega) (by omega)
        obtain ⟨c1, c2, c3⟩ := cHrs_ok (Q := Q) n3 n4 n1 n2 h s.2.2.1 (okD_of n5) (by omega)
        obtain ⟨S2, y1, y2, y3⟩ := m_tickl (v := a1) (Q := Q) n3 n4 n1 n2 (h := h) (by omega) (K := fun S14 => (gI S14 157 158 (3 : Int32)).bind fun a16 => some (a16, S14)) h 0 FU S1 s.2.2.1 (by omega) (FU_lt (by omega)) (okD_of n5) (by omega) (by rw [q157, q158]; exact m2) (by rw [q157]; exact m1) (rHm_eq d (fun k => z3.2 _ k (by omega) (by omega))) (p3 S1 (fun r hr => cdM_eq (l4 r hr).2 (fun a k _ => z3.1 a k (by omega) (by omega) (by omega))))
        have y1' : lp_X11_tick_43 a1 (o3 h) (fun S14 => (gI S14 157 158 (3 : Int32)).bind fun a16 => some (a16, S14)) FU (0 : Int32) S1 = (gI S2 157 158 (3 : Int32)).bind fun a16 => some (a16, S2) := y1
        have e1 : ∀ a k, ¬ (11 ≤ a ∧ a ≤ 15) → ¬ (a = p.getD 127 ∧ k = 3) → ¬ (a = 157 ∧ (k = 3 ∨ (90 ≤ k ∧ k < 122))) → ¬ (a = 145 ∧ k = 23) → S2.1 a k = S.1 a k := fun a k x1 x2 x3 x4 => (y3.1 a k x3 x4).trans (z3.1 a k (by omega) (by omega) x2)
        have e2 : ∀ a k, a ≠ 16 → a ≠ p.getD 127 + 2 → a ≠ 155 → a ≠ 156 → a ≠ 158 → S2.2 a k = S.2 a k := fun a k x1 x2 x3 x4 x5 => (y3.2 a k x3 x4 x5).trans (z3.2 a k x1 x2)
        rw [z1', bd_some]
        refine ⟨_, S1, S2, rfl, ?_, n, snC s (cHrs s.1 s.2.1 Q h s.2.2.1), L, M, ?_, ?_, ?_, ?_⟩
        · rw [← g1, hm S1 ((z3.1 _ _ (by omega) (by omega) (by omega)).trans l3) (by rw [q157]; exact m2.2.1), if_pos h1, if_pos h2, if_pos h3, g1, y1', show (3 : Int32) = o3 3 from rfl, gI_o (by omega) (by omega), bd_some, y2.2.1, z2.2.1]
        · exact rTp_eq hT (e1 _ _ (by omega) (by omega) (by omega) (by omega)) (e1 _ _ (by omega) (by omega) (by omega) (by omega)) (fun k => e1 _ _ (by omega) (by omega) (by omega) (by omega)) (fun k => e1 _ _ (by omega) (by omega) (by omega) (by omega))
        · refine rSc_cw (p := 127) (by omega) hS0 (okC_of c1 (by rw [c3]; exact h9')) ?_ y2 (fun a k _ _ _ => e1 a k (by omega) (by omega) (by omega) (by omega)) (fun a k _ _ _ => e2 a k (by omega) (by omega) (by omega) (by omega) (by omega)) ?_ (fun k hk => e1 _ _ (by omega) (by omega) (by omega) (by omega)) (fun k => e2 _ k (by omega) (by omega) (by omega) (by omega) (by omega))
          · exact cwC_eq z2 (fun a k _ _ => y3.1 _ _ (by omega) (by omega)) (fun k => y3.2 _ _ (by omega) (by omega) (by omega))
          · rw [e1 3 3 (by omega) (by omega) (by omega) (by omega)]; exact b5
        · exact rRu_eq hL0 (e1 _ _ (by omega) (by omega) (by omega) (by omega)) (e1 _ _ (by omega) (by omega) (by omega) (by omega)) (fun a k x1 x2 x3 => e1 a k (by omega) (by omega) (by omega) (by omega)) (fun a k _ => e1 a k (by omega) (by omega) (by omega) (by omega))
        · exact rIm_eq hM (fun a k _ _ => e1 a k (by omega) (by omega) (by omega) (by omega)) (fun a k _ _ => e2 a k (by omega) (by omega) (by omega) (by omega) (by omega)) (fun k => e1 _ _ (by omega) (by omega) (by omega) (by omega)) (fun k => e2 _ k (by omega) (by omega) (by omega) (by omega) (by omega)) (fun k => e1 _ _ (by omega) (by omega) (by omega) (by omega))
      · rw [if_neg h3]
        exact ⟨-1, S, S, rfl, by rw [hm S l3 m2.2.1, if_pos h1, if_pos h2, if_neg h3], hR0⟩
    · rw [if_neg h2, if_pos rfl]
      exact ⟨-1, S, S, rfl, by rw [hm S l3 m2.2.1, if_pos h1, if_neg h2], hR0⟩
  · rw [if_neg h1, if_pos rfl]
    exact ⟨-1, S, S, rfl, by rw [hm S l3 m2.2.1, if_neg h1], hR0⟩
end
