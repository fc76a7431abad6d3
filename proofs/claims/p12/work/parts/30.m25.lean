section
section CQ
variable {S : fS} {m : Nat} {c : List (Nat × Nat)} {H : List Nat} {i s f : Int32}
theorem cq_hold {a : Nat} (h1 : S.1 38 3 = o3 m) (h2 : S.1 38 4 = o3 H.length) (h3 : S.1 38 5 = o3 (brk (a :: H))) (h4 : S.1 38 6 = o3 (dep (a :: H))) (h5 : ∀ k, k < H.length → S.1 39 k = o3 (H.reverse.getD k 0)) (h6 : S.1 40 2 = o3 c.length) (h7 : ∀ k, k < c.length → S.1 41 k = enc (c.getD k (0, 0))) (hl : H.length < 64) : ∃ S', f_X5_hold (o3 a) (tS S i s f) = some (tS S' i s f) ∧ RC S' m c (a :: H) ∧ eQ S S' := by
  unfold f_X5_hold
  rw [tS_ne (by omega), h2, if_neg (o3_nn (by omega)), if_neg (show ¬ (64 : Int32) ≤ o3 _ from fun q => by have := (o3_le (a := 64) (by omega) (by omega)).mp q; omega), sI_o (by omega) (by omega), bd_some, tS_pI (by omega), bd_some, tS_ne (by omega), pI_ne (by omega), h2, tS_pI (by omega), o3_s]
  refine ⟨_, rfl, ⟨?_, ?_, ?_, ?_, fun k hk => ?_, ?_, fun k hk => ?_⟩, (eQ_pI (by unfold wQ; omega)).tr (eQ_pI (by unfold wQ; omega))⟩
  · rw [pI_ne (by omega), pI_ne (by omega)]; exact h1
  · rw [pI_eq]; rfl
  · rw [pI_ne (by omega), pI_ne (by omega)]; exact h3
  · rw [pI_ne (by omega), pI_ne (by omega)]; exact h4
  · have hk : k < H.length + 1 := hk
    rw [pI_ne (by omega), List.reverse_cons, gd_app, List.length_reverse]
    by_cases hq : k = H.length
    · rw [if_pos hq, hq]; exact pI_eq
    · rw [if_neg hq, pI_ne (by omega)]; exact h5 k (by omega)
  · rw [pI_ne (by omega), pI_ne (by omega)]; exact h6
  · rw [pI_ne (by omega), pI_ne (by omega)]; exact h7 k hk
/-- a sign that joins -/
theorem cq_join {a : Nat} (hR : RC S m c H) (ha : a ≠ 4 ∧ a ≠ 16) (hl : H.length < 64) : ∃ S', f_X5_hold (o3 a) (tS S i s f) = some (tS S' i s f) ∧ RC S' m c (a :: H) ∧ eQ S S' := by
  obtain ⟨r1, r2, r3, r4, r5, r6, r7⟩ := hR
  refine cq_hold r1 r2 ?_ ?_ r5 r6 r7 hl
  · rw [r3]
    show _ = o3 (brk H + (if a = 16 then 1 else 0))
    rw [if_neg ha.2]
    rfl
  · rw [r4]
    show _ = o3 (dep H + (if a = 16 ∨ a = 4 then 1 else 0))
    rw [if_neg (by omega)]
    rfl
theorem rv_last {a : Nat} : (a :: H).reverse.getD H.length 0 = a := by
  rw [List.reverse_cons, gd_app, List.length_reverse, if_pos rfl]
theorem rv_init {a k : Nat} (h : k < H.length) : (a :: H).reverse.getD k 0 = H.reverse.getD k 0 := by
  rw [List.reverse_cons, gd_app, List.length_reverse, if_neg (by omega)]
theorem cq_settlelp {K : fS → Option fS} {b : Nat} (hb : 1 ≤ b) (hb7 : b < 10) : ∀ (H : List Nat) (c : List (Nat × Nat)) (n : Nat) (S : fS), RC S m c H → (∀ x ∈ H, x < 17) → H.length ≤ 64 → dep H ≤ 400 → c.length + H.length ≤ 400 → H.length < n → ∃ S', lp_X5_settle_0 (o3 b) K n (tS S i s f) = K (tS S' i s f) ∧ RC S' m (c ++ stO b H) (stR b H) ∧ eQ S S' := by
  intro H
  induction H with
  | nil =>
    intro c n S hR _ _ _ _ hn
    obtain ⟨n, rfl⟩ : ∃ n', n = n' + 1 := ⟨n - 1, by have : 0 < n := hn; omega⟩
    rw [lp_X5_settle_0.eq_2, tS_ne (by omega), hR.2.1, if_pos (by decide)]
    refine ⟨S, rfl, ?_, eQ.rf⟩
    show RC S m (c ++ []) []
    rw [List.append_nil]; exact hR
  | cons x H ih =>
    intro c n S hR hx hl hd hcl hn
    have hl : H.length + 1 ≤ 64 := hl
    have hcl : c.length + (H.length + 1) ≤ 400 := hcl
    have hn : H.length + 1 < n := hn
    obtain ⟨n, rfl⟩ : ∃ n', n = n' + 1 := ⟨n - 1, by omega⟩
    have hx0 := hx x List.mem_cons_self
    have hR0 := hR
    obtain ⟨r1, r2, r3, r4, r5, r6, r7⟩ := hR
    have r2 : S.1 38 4 = o3 (H.length + 1) := r2
    have hlast : S.1 39 H.length = o3 x := by rw [r5 H.length (Nat.lt_succ_self _), rv_last]
    rw [lp_X5_settle_0.eq_2, tS_ne (by omega), r2, if_neg (show ¬ o3 _ ≤ (0 : Int32) from fun q => by have := (o3_le (b := 0) (by omega) (by omega)).mp q; omega), show (1 : Int32) = o3 1 from rfl, o3_sub (by omega), show H.length + 1 - 1 = H.length by omega, gI_o (by omega) (by omega), bd_some, tS_ne (by omega), hlast, gB_o hx0, bd_some]
    have hb6 : bnd x < 10 := (show ∀ x, x < 17 → bnd x < 10 by decide) x hx0
    by_cases hle : b ≤ bnd x
    · rw [if_neg (fun q => by have := (o3_lt (by omega) (by omega)).mp q; omega), bd_some, tS_pI (by omega), tS_ne (by omega), pI_eq, gI_o (by omega) (by omega), bd_some, tS_ne (by omega), pI_ne (by omega), hlast]
      have hR1 : RC (pI S 38 4 (o3 H.length)) m c (x :: H) ∨ True := Or.inr trivial
      -- write the step
      have hw : ∃ S1, f_X4_write 40 (o3 x) (0 : Int32) (tS (pI S 38 4 (o3 H.length)) i s f) = some (tS S1 i s f) ∧ (∀ k, k < (c ++ [(x, 0)]).length → S1.1 41 k = enc ((c ++ [(x, 0)]).getD k (0, 0))) ∧ S1.1 40 2 = o3 (c ++ [(x, 0)]).length ∧ (∀ k, S1.1 38 k = (pI S 38 4 (o3 H.length)).1 38 k) ∧ (∀ k, S1.1 39 k = S.1 39 k) ∧ eQ S S1 := by
        unfold f_X4_write
        rw [tS_ne (by omega), pI_ne (by omega), r6, if_neg (show ¬ (400 : Int32) ≤ o3 _ from fun q => by have := (o3_le (a := 400) (by omega) (by omega)).mp q; omega), show (0 : Int32) = o3 0 from rfl, enc_eq (by omega) (by omega), sI_o (by omega) (by omega), bd_some, tS_pI (by omega), bd_some, tS_ne (by omega), pI_ne (by omega), pI_ne (by omega), r6, tS_pI (by omega), o3_s]
        refine ⟨_, rfl, fun k hk => ?_, ?_, fun k => ?_, fun k => ?_, ((eQ_pI (by unfold wQ; omega)).tr (eQ_pI (by unfold wQ; omega))).tr (eQ_pI (by unfold wQ; omega))⟩
        · rw [ln_app] at hk
          rw [pI_ne (by omega), gd_app]
          by_cases hq : k = c.length
          · rw [if_pos hq, hq]; exact pI_eq
          · rw [if_neg hq, pI_ne (by omega), pI_ne (by omega)]; exact r7 k (by omega)
        · rw [pI_eq, ln_app]
        · rw [pI_ne (by omega), pI_ne (by omega)]
        · rw [pI_ne (by omega), pI_ne (by omega), pI_ne (by omega)]
      obtain ⟨S1, w1, w2, w3, w4, w5, w6⟩ := hw
      rw [w1, bd_some, tS_ne (by omega), w4 4, pI_eq, gI_o (by omega) (by omega), bd_some, tS_ne (by omega), w5, hlast]
      have hx16 : x ≠ 16 := fun q => by rw [q] at hle; have : bnd 16 = 0 := rfl; omega
      have hbrk : brk (x :: H) = brk H := by show brk H + (if x = 16 then 1 else 0) = _; rw [if_neg hx16]; rfl
      have go : ∀ S2 : fS, (∀ a k, ¬ (a = 38 ∧ k = 6) → S2.1 a k = S1.1 a k) → S2.2 = S1.2 → S2.1 38 6 = o3 (dep H) → ∃ S', lp_X5_settle_0 (o3 b) K n (tS S2 i s f) = K (tS S' i s f) ∧ RC S' m (c ++ stO b (x :: H)) (stR b (x :: H)) ∧ eQ S S' := by
        intro S2 g1 g2 g3
        have hRn : RC S2 m (c ++ [(x, 0)]) H := by
          refine ⟨?_, ?_, ?_, g3, fun k hk => ?_, ?_, fun k hk => ?_⟩
          · rw [g1 38 3 (by omega), w4, pI_ne (by omega)]; exact r1
          · rw [g1 38 4 (by omega), w4, pI_eq]
          · rw [g1 38 5 (by omega), w4, pI_ne (by omega), r3, hbrk]
          · rw [g1 39 k (by omega), w5, r5 k (Nat.lt_succ_of_lt hk), rv_init hk]
          · rw [g1 40 2 (by omega)]; exact w3
          · rw [g1 41 k (by omega)]; exact w2 k hk
        have hdep : dep H ≤ dep (x :: H) := Nat.le_add_right _ _
        obtain ⟨S3, k1, k2, k3⟩ := ih (c ++ [(x, 0)]) n S2 hRn (fun y hy => hx y (List.mem_cons_of_mem _ hy)) (by omega) (by omega) (by rw [ln_app]; omega) (by omega)
        refine ⟨S3, k1, ?_, (w6.tr ⟨fun a k hn => g1 a k (fun q => hn (by unfold wQ; omega)), g2⟩).tr k3⟩
        have e1 : stO b (x :: H) = (x, 0) :: stO b H := if_pos hle
        have e2 : stR b (x :: H) = stR b H := if_pos hle
        rw [e1, e2]
        rw [List.append_assoc] at k2
        exact k2
      by_cases h4 : x = 4
      · rw [if_pos (show o3 x = (4 : Int32) from (o3_inj (b := 4) (by omega) (by omega)).mpr h4), bd_some, tS_ne (by omega), w4 6, pI_ne (by omega), r4, tS_pI (by omega)]
        have hd4 : dep (x :: H) = dep H + 1 := by show dep H + (if x = 16 ∨ x = 4 then 1 else 0) = _; rw [if_pos (Or.inr h4)]
        rw [hd4, o3_sub (by omega), show dep H + 1 - 1 = dep H by omega]
        exact go _ (fun a k h => pI_ne (by omega)) rfl pI_eq
      · rw [if_neg (show ¬ o3 x = (4 : Int32) from fun q => h4 ((o3_inj (b := 4) (by omega) (by omega)).mp q)), bd_some, tS_ne (by omega), w4 6, pI_ne (by omega), r4, tS_pI (by omega)]
        have hd4 : dep (x :: H) = dep H := by show dep H + (if x = 16 ∨ x = 4 then 1 else 0) = _; rw [if_neg (by omega)]; rfl
        rw [hd4, Int32.sub_zero]
        exact go _ (fun a k h => pI_ne (by omega)) rfl pI_eq
    · rw [if_pos ((o3_lt (by omega) (by omega)).mpr (by omega))]
      refine ⟨S, rfl, ?_, eQ.rf⟩
      have e1 : stO b (x :: H) = [] := if_neg hle
      have e2 : stR b (x :: H) = x :: H := if_neg hle
      rw [e1, e2, List.append_nil]
      exact hR0
theorem cq_settle {b : Nat} (hb : 1 ≤ b) (hb7 : b < 10) (hR : RC S m c H) (hx : ∀ x ∈ H, x < 17) (hl : H.length ≤ 64) (hd : dep H ≤ 400) (hcl : c.length + H.length ≤ 400) : ∃ S', f_X5_settle (o3 b) (tS S i s f) = some (tS S' i s f) ∧ RC S' m (c ++ stO b H) (stR b H) ∧ eQ S S' := by
  unfold f_X5_settle
  obtain ⟨S', h1, h2⟩ := cq_settlelp (K := fun S28 => some S28) (i := i) (s := s) (f := f) hb hb7 H c FU S hR hx hl hd hcl (FU_lt (by omega))
  exact ⟨S', h1, h2⟩
end CQ
end
