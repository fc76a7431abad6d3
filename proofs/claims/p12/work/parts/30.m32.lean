section
section CT3
variable {n m : Nat} {c : List (Nat × Nat)} {H : List Nat} {f : Int32}
theorem rk_cs {t : Nat → Int32} {j : Nat} (h : ¬ rk t n j = 0) : (rk t n j = 7 ∨ rk t n j = 8 ∨ rk t n j = 9 ∨ rk t n j = 10) ∧ j < n := by
  unfold rk at h ⊢
  by_cases h0 : j < n ∧ t j = 43
  · rw [if_pos h0]; exact ⟨by omega, h0.1⟩
  · rw [if_neg h0] at h ⊢
    by_cases h1 : j < n ∧ t j = 45
    · rw [if_pos h1]; exact ⟨by omega, h1.1⟩
    · rw [if_neg h1] at h ⊢
      by_cases h2 : j < n ∧ t j = 42
      · rw [if_pos h2]; exact ⟨by omega, h2.1⟩
      · rw [if_neg h2] at h ⊢
        by_cases h3 : j < n ∧ t j = 47
        · rw [if_pos h3]; exact ⟨by omega, h3.1⟩
        · rw [if_neg h3] at h; exact absurd rfl h
theorem jn_cs {t : Nat → Int32} {j : Nat} (hj : j ≤ n) (h : ¬ jn t n j = 0) : (jn t n j = 5 ∨ jn t n j = 6) ∧ j + jnL (jn t n j) ≤ n ∧ 2 ≤ jnL (jn t n j) := by
  unfold jn at h ⊢
  by_cases h0 : wat t n (mm_sb.getD 14 []) j = true
  · rw [if_pos h0]
    have : j + 3 ≤ n := wat_le hj h0
    exact ⟨by omega, this, by decide⟩
  · rw [if_neg h0] at h ⊢
    by_cases h1 : wat t n (mm_sb.getD 15 []) j = true
    · rw [if_pos h1]
      have : j + 2 ≤ n := wat_le hj h1
      exact ⟨by omega, this, by decide⟩
    · rw [if_neg h1] at h; exact absurd rfl h
theorem cm_cs {t : Nat → Int32} {j : Nat} (h : ¬ cm t n j = 0) : (11 ≤ cm t n j ∧ cm t n j ≤ 15) ∧ j + cmL (cm t n j) ≤ n ∧ 1 ≤ cmL (cm t n j) := by
  unfold cm at h ⊢
  by_cases h0 : j < n ∧ t j = 61
  · rw [if_pos h0]; exact ⟨by omega, by show j + 1 ≤ n; omega, by decide⟩
  · rw [if_neg h0] at h ⊢
    by_cases h1 : j < n ∧ t j = 60
    · rw [if_pos h1]
      by_cases h2 : j + 1 < n ∧ t (j + 1) = 61
      · rw [if_pos h2]; exact ⟨by omega, by show j + 2 ≤ n; omega, by decide⟩
      · rw [if_neg h2]; exact ⟨by omega, by show j + 1 ≤ n; omega, by decide⟩
    · rw [if_neg h1] at h ⊢
      by_cases h3 : j < n ∧ t j = 62
      · rw [if_pos h3]
        by_cases h2 : j + 1 < n ∧ t (j + 1) = 61
        · rw [if_pos h2]; exact ⟨by omega, by show j + 2 ≤ n; omega, by decide⟩
        · rw [if_neg h2]; exact ⟨by omega, by show j + 1 ≤ n; omega, by decide⟩
      · rw [if_neg h3] at h; exact absurd rfl h
/-- what holds between turns -/
def oTS (n : Nat) (x : TS) : Prop := x.2.2.1 ≤ 60 ∧ (∀ y ∈ x.2.2.2.2.1, y < 17) ∧ dep x.2.2.2.2.1 ≤ 10 ∧ x.2.2.2.1.length + x.2.2.2.2.1.length ≤ x.2.2.2.2.2 ∧ x.2.2.2.2.2 ≤ n ∧ okHs (if x.1 = true then 4 else 7) x.2.2.2.2.1
theorem mem17 {b a : Nat} (ha : a < 17) (h : ∀ y ∈ H, y < 17) : ∀ y ∈ a :: stR b H, y < 17 := fun y hy => by
  rcases List.mem_cons.mp hy with rfl | hy
  · exact ha
  · exact h y (stR_mem H hy)
theorem dep_pu {a : Nat} (h : a ≠ 4 ∧ a ≠ 16) : dep (a :: H) = dep H := by
  show dep H + (if a = 16 ∨ a = 4 then 1 else 0) = _
  rw [if_neg (by omega)]; rfl
/-- settling, then holding a sign that joins -/
theorem ca_sh {S : fS} {a b : Nat} {i s : Int32} (hb : bnd a = b) (ha : 5 ≤ a ∧ a < 16) (hR : RC S m c H) (hx : ∀ y ∈ H, y < 17) (hL : H.length ≤ 50) (hD : dep H ≤ 10) (hcl : c.length + H.length ≤ 400) : ∃ S', ((f_X5_settle (o3 b) (tS S i s f)).bind fun y => f_X5_hold (o3 a) y) = some (tS S' i s f) ∧ RC S' m (c ++ stO b H) (a :: stR b H) ∧ eQ S S' := by
  have hb1 : 1 ≤ b ∧ b < 10 := by
    have : ∀ a, a < 16 → 5 ≤ a → 1 ≤ bnd a ∧ bnd a < 10 := by decide
    have := this a ha.2 ha.1
    omega
  obtain ⟨S1, e1, e2, e3⟩ := cq_settle (i := i) (s := s) (f := f) (b := b) hb1.1 hb1.2 hR hx (by omega) (by omega) hcl
  have hlen := stR_len (b := b) H
  obtain ⟨S2, g1, g2, g3⟩ := cq_join (i := i) (s := s) (f := f) (a := a) e2 (by omega) (by omega)
  refine ⟨S2, ?_, g2, e3.tr g3⟩
  rw [e1, bd_some, g1]
theorem ca_sh' {S : fS} {a : Nat} {i s : Int32} {β : Type} {F : fS → Option β} (ha : 5 ≤ a ∧ a < 16) (hR : RC S m c H) (hx : ∀ y ∈ H, y < 17) (hL : H.length ≤ 50) (hD : dep H ≤ 10) (hcl : c.length + H.length ≤ 400) : ∃ S', ((gB (o3 a)).bind fun a22 => (f_X5_settle a22 (tS S i s f)).bind fun q25 => (f_X5_hold (o3 a) q25).bind F) = F (tS S' i s f) ∧ RC S' m (c ++ stO (bnd a) H) (a :: stR (bnd a) H) ∧ eQ S S' := by
  obtain ⟨S', e1, e2, e3⟩ := ca_sh (i := i) (s := s) (f := f) (a := a) (b := bnd a) rfl ha hR hx hL hD hcl
  refine ⟨S', ?_, e2, e3⟩
  rw [gB_o (by omega), bd_some]
  cases hs : f_X5_settle (o3 (bnd a)) (tS S i s f) with
  | none => rw [hs] at e1; exact absurd e1 (by intro h; exact mm_no h)
  | some q =>
    rw [hs, bd_some] at e1
    rw [bd_some, e1, bd_some]
theorem ok_len {k : Nat} (h : okHs k H) (hk : k ≤ 7) (hD : dep H ≤ 10) : H.length ≤ 40 := by
  have h1 := okHs_len H 7 (okHs_mo H k 7 hk h)
  have h2 := brk_dep H
  have h3 : gg 7 = 5 := by decide
  omega
theorem bnd_ok : ∀ a, a < 16 → 5 ≤ a → bnd a ≠ 3 ∧ 1 ≤ bnd a ∧ bnd a ≤ 6 := by decide
theorem ca_aft {S : fS} {K : fS → Option (Int32 × fS)} {nn i p : Nat} {s : Int32} {cp : Bool} (hn : S.1 1 1 = o3 n) (hl : n ≤ 400) (hR : RC S m c H) (hm : m ≤ 60) (hx : ∀ y ∈ H, y < 17) (hD : dep H ≤ 10) (hcl : c.length + H.length ≤ i) (hi : i ≤ n) (hok : okHs 7 H) :
    (∃ r S' i' s', aft (S.1 2) n cp m c H i = .inl r ∧ tA K nn (if cp = true then 1 else 0) (o3 p) (tS S (o3 i) s f) = some (if r.1 = 0 then (1, tS S' (o3 r.2.1) s' f) else (0, tS S' i' s' (o3 r.1))) ∧ eQ S S' ∧ (r.1 = 0 → r.2.1 ≤ n ∧ i ≤ r.2.1 ∧ r.2.2.1 = m ∧ r.2.2.2.length ≤ r.2.1 ∧ ∃ H', RC S' m r.2.2.2 H')) ∨
    (∃ y S' s' z, aft (S.1 2) n cp m c H i = .inr y ∧ tA K nn (if cp = true then 1 else 0) (o3 p) (tS S (o3 i) s f) = lp_X5_readTest_21 K nn (if y.1 = true then 1 else 0) z (o3 (p + 1)) (tS S' (o3 y.2.2.2.2.2) s' f) ∧ (y.1 = true ∨ z = if y.2.1 = true then 1 else 0) ∧ eQ S S' ∧ RC S' y.2.2.1 y.2.2.2.1 y.2.2.2.2.1 ∧ oTS n y ∧ i < y.2.2.2.2.2) := by
  have hj := sk_le (t := S.1 2) hi
  have hg := sk_ge (t := S.1 2) (n := n) (i := i)
  have hL := ok_len hok (by omega) hD
  have hel := okHs_el H 7 hok hx
  have hid := sk_id (t := S.1 2) (n := n) (i := i)
  unfold tA aft
  rw [cs_reck hn hl hi, bd_some]
  generalize sk (S.1 2) n i = j at hj hg hid
  by_cases hr : rk (S.1 2) n j = 0
  · rw [if_pos hr, if_pos hr]
    dsimp only
    rw [if_neg (show ¬ (0 : Int32) ≤ -1 by decide)]
    cases cp with
    | false =>
      rw [if_pos (show (if false = true then (1 : Int32) else 0) = 0 from rfl), if_neg (show ¬ (false = true) by decide), cs_cmp hn hl hj, bd_some, hid]
      by_cases hc : cm (S.1 2) n j = 0
      · rw [if_pos hc, if_pos hc]
        dsimp only
        rw [if_neg (show ¬ (0 : Int32) ≤ -1 by decide), ct_fail, bd_some, tS_2, tS_fa, show (1 : Int32) = o3 1 from rfl, show (8 : Int32) = o3 8 from rfl, show (0 : Int32) = o3 0 from rfl, o3_mul, o3_add, o3_add]
        refine Or.inl ⟨_, S, o3 j, s, rfl, ?_, eQ.rf, fun q => absurd q (show ¬ (1 + 8 * j = 0) by omega)⟩
        rw [if_neg (show ¬ (1 + 8 * j = 0) by omega)]
        rfl
      · obtain ⟨hc1, hc2, hc3⟩ := cm_cs hc
        rw [if_neg hc, if_neg hc]
        dsimp only
        rw [if_pos (o3_0le (by omega)), cv_room hR.1 hm, bd_some]
        by_cases h60 : 60 ≤ m
        · rw [if_pos h60, if_pos h60]
          dsimp only
          rw [if_pos (show (0 : Int32) = 0 from rfl)]
          refine Or.inl ⟨_, S, o3 (j + cmL (cm (S.1 2) n j)), o3 j, rfl, ?_, eQ.rf, fun q => absurd q (show ¬ (1 + 8 * j + 3 = 0) by omega)⟩
          rw [if_neg (show ¬ (1 + 8 * j + 3 = 0) by omega)]
        · rw [if_neg h60, if_neg h60]
          dsimp only
          rw [if_neg (show ¬ (1 : Int32) = 0 by decide)]
          have hb4 : bnd (cm (S.1 2) n j) = 4 := (show ∀ a, a < 16 → 11 ≤ a → bnd a = 4 by decide) _ (by omega) (by omega)
          obtain ⟨S', e1, e2, e3⟩ := ca_sh' (i := o3 (j + cmL (cm (S.1 2) n j))) (s := o3 j) (f := f) (a := cm (S.1 2) n j) (F := fun q45 => lp_X5_readTest_21 K nn (0 : Int32) (1 : Int32) (o3 p + (1 : Int32)) q45) (by omega) (RC_3 (x := m + 1) hR) hx (by omega) hD (by omega)
          rw [e1, o3_s]
          rw [hb4] at e2
          have hlen := stR_len (b := 4) H
          refine Or.inr ⟨_, S', o3 j, 1, rfl, rfl, Or.inr rfl, (eQ_pI (by unfold wQ; omega)).tr e3, e2, ⟨by show m + 1 ≤ 60; omega, mem17 (by omega) hx, ?_, ?_, hc2, ?_⟩, by show i < j + cmL (cm (S.1 2) n j); omega⟩
          · show dep (cm (S.1 2) n j :: stR 4 H) ≤ 10
            rw [dep_pu (by omega)]
            exact Nat.le_trans (stR_dep H) hD
          · show (c ++ stO 4 H).length + (stR 4 H).length.succ ≤ j + cmL (cm (S.1 2) n j)
            rw [List.length_append]
            omega
          · exact okHs_mo _ _ 7 (by omega) (okHs_pu (okHs_st H 7 hok) (by omega) hb4 (by omega) (by omega))
    | true =>
      rw [if_neg (show ¬ (if true = true then (1 : Int32) else 0) = 0 by decide), if_pos rfl]
      obtain ⟨S1, s1, e1, e2, e3⟩ := cb_close (f := f) hl (K := fun S24 => some S24) (brk H) FU c H S j s hn rfl hR hel rfl (by omega) hD (by omega) hj (FU_lt (by have := brk_dep H; omega))
      obtain ⟨q1, q2, q3, q4, q5⟩ := clo_pr (n := n) (t := S.1 2) (brk H + 1) H j hel (by omega) hj
      have hok1 := okHs_cl (t := S.1 2) (n := n) (brk H + 1) H j hok hel
      have hn1 : S1.1 1 1 = o3 n := by rw [e2.1 1 1 (by unfold wQ; omega)]; exact hn
      have ht1 : S1.1 2 = S.1 2 := funext fun k => e2.1 2 k (by unfold wQ; omega)
      unfold f_X5_closeBrackets
      rw [e1, bd_some, cs_join hn1 hl q5, bd_some, ht1]
      generalize clo (S.1 2) n (brk H + 1) j H = Q at e3 q1 q2 q3 q4 q5 hok1
      have hj2 := sk_le (t := S.1 2) q5
      have hg2 := sk_ge (t := S.1 2) (n := n) (i := Q.2.1)
      generalize sk (S.1 2) n Q.2.1 = e at hj2 hg2
      have hx1 : ∀ y ∈ Q.2.2, y < 17 := fun y hy => (q1 y hy).2
      have hL1 := ok_len hok1 (by omega) (by omega)
      have hcl1 : (c ++ Q.1).length = c.length + Q.1.length := List.length_append
      by_cases hjn : jn (S.1 2) n e = 0
      · rw [if_pos hjn, if_pos hjn]
        dsimp only
        rw [if_neg (show ¬ (0 : Int32) ≤ -1 by decide)]
        unfold f_X5_isTestOver
        rw [show (6 : Int32) = o3 6 from rfl, gB_o (by omega), bd_some, show bnd 6 = 1 from rfl]
        obtain ⟨S2, g1, g2, g3⟩ := cq_settle (i := o3 e) (s := s1) (f := f) (b := 1) (by omega) (by omega) e3 hx1 (by omega) (by omega) (by omega)
        rw [g1, bd_some, tS_ne (by omega), g2.2.2.1, stR_brk (by omega)]
        have hlen := stR_len (b := 1) Q.2.2
        by_cases hb0 : brk Q.2.2 = 0
        · rw [if_pos (show o3 _ = (0 : Int32) from (o3_inj (b := 0) (by have := brk_dep Q.2.2; omega) (by omega)).mpr hb0), if_pos hb0]
          refine Or.inl ⟨_, S2, 0, s1, rfl, rfl, e2.tr g3, fun _ => ⟨hj2, by show i ≤ e; omega, rfl, ?_, _, g2⟩⟩
          show (c ++ Q.1 ++ stO 1 Q.2.2).length ≤ e
          rw [List.length_append]
          omega
        · rw [if_neg (show ¬ o3 _ = (0 : Int32) from fun q => hb0 ((o3_inj (b := 0) (by have := brk_dep Q.2.2; omega) (by omega)).mp q)), if_neg hb0, ct_fail, bd_some, tS_2, tS_fa, show (1 : Int32) = o3 1 from rfl, show (8 : Int32) = o3 8 from rfl, show (0 : Int32) = o3 0 from rfl, o3_mul, o3_add, o3_add]
          refine Or.inl ⟨_, S2, o3 e, s1, rfl, ?_, e2.tr g3, fun q => absurd q (show ¬ (1 + 8 * e = 0) by omega)⟩
          rw [if_neg (show ¬ (1 + 8 * e = 0) by omega)]
          rfl
      · obtain ⟨hjn1, hjn2, hjn3⟩ := jn_cs hj2 hjn
        rw [if_neg hjn, if_neg hjn]
        dsimp only
        rw [if_pos (o3_0le (by omega))]
        obtain ⟨S2, g1, g2, g3⟩ := ca_sh' (i := o3 (e + jnL (jn (S.1 2) n e))) (s := o3 e) (f := f) (a := jn (S.1 2) n e) (F := fun q69 => lp_X5_readTest_21 K nn (1 : Int32) (1 : Int32) (o3 p + (1 : Int32)) q69) (by omega) e3 hx1 (by omega) (by omega) (by omega)
        have g1' : ((gB (o3 (jn (S.1 2) n e))).bind fun a63 => (f_X5_settle a63 (tS S1 (o3 (e + jnL (jn (S.1 2) n e))) (o3 e) f)).bind fun q66 => (f_X5_hold (o3 (jn (S.1 2) n e)) q66).bind fun q69 => lp_X5_readTest_21 K nn (1 : Int32) (1 : Int32) (o3 p + (1 : Int32)) q69) = lp_X5_readTest_21 K nn 1 1 (o3 p + 1) (tS S2 (o3 (e + jnL (jn (S.1 2) n e))) (o3 e) f) := g1
        rw [if_pos rfl, g1', o3_s]
        have hlen := stR_len (b := bnd (jn (S.1 2) n e)) Q.2.2
        have hbo := bnd_ok (jn (S.1 2) n e) (by omega) (by omega)
        have hbj : bnd (jn (S.1 2) n e) ≤ 2 := by rcases hjn1 with h | h <;> rw [h] <;> decide
        refine Or.inr ⟨_, S2, o3 e, 1, rfl, rfl, Or.inl rfl, e2.tr g3, g2, ⟨hm, mem17 (by omega) hx1, ?_, ?_, hjn2, ?_⟩, by show i < e + jnL (jn (S.1 2) n e); omega⟩
        · show dep (jn (S.1 2) n e :: stR _ Q.2.2) ≤ 10
          rw [dep_pu (by omega)]
          exact Nat.le_trans (stR_dep Q.2.2) (by omega)
        · show (c ++ Q.1 ++ stO _ Q.2.2).length + (stR _ Q.2.2).length.succ ≤ e + jnL (jn (S.1 2) n e)
          rw [List.length_append]
          omega
        · exact okHs_mo _ _ 4 (by omega) (okHs_pu (okHs_st Q.2.2 7 hok1) (by omega) rfl hbo.2.1 hbo.1)
  · obtain ⟨hr1, hr2⟩ := rk_cs hr
    rw [if_neg hr, if_neg hr]
    dsimp only
    refine Or.inr ?_
    rw [if_pos (o3_0le (by omega))]
    obtain ⟨S', e1, e2, e3⟩ := ca_sh' (i := o3 (j + 1)) (s := o3 j) (f := f) (a := rk (S.1 2) n j) (F := fun q28 => lp_X5_readTest_21 K nn (0 : Int32) (if cp = true then 1 else 0) (o3 p + (1 : Int32)) q28) (by omega) hR hx (by omega) hD (by omega)
    rw [e1, o3_s]
    have hlen := stR_len (b := bnd (rk (S.1 2) n j)) H
    have hbo := bnd_ok (rk (S.1 2) n j) (by omega) (by omega)
    refine ⟨_, S', o3 j, _, rfl, rfl, Or.inr rfl, e3, e2, ⟨hm, mem17 (by omega) hx, ?_, ?_, by show j + 1 ≤ n; omega, ?_⟩, by show i < j + 1; omega⟩
    · show dep (rk (S.1 2) n j :: stR _ H) ≤ 10
      rw [dep_pu (by omega)]
      exact Nat.le_trans (stR_dep H) hD
    · show (c ++ stO _ H).length + (stR _ H).length.succ ≤ j + 1
      rw [List.length_append]
      omega
    · exact okHs_mo _ _ 7 (by omega) (okHs_pu (okHs_st H 7 hok) (by omega) rfl hbo.2.1 hbo.1)
end CT3
end
