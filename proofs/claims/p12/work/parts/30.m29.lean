section
/-! brackets that close -/
def elH (H : List Nat) : Prop := ∀ x ∈ H, 4 ≤ x ∧ x < 17
def clo (t : Nat → Int32) (n : Nat) : Nat → Nat → List Nat → List (Nat × Nat) × Nat × List Nat
  | 0, i, H => ([], i, H)
  | f + 1, i, H => if 0 < brk H then (if sk t n i < n ∧ t (sk t n i) = 93 then (stO 1 H ++ (clo t n f (sk t n i + 1) (stR 1 H).tail).1, (clo t n f (sk t n i + 1) (stR 1 H).tail).2) else ([], sk t n i, H)) else ([], i, H)
theorem clo_s {t : Nat → Int32} {n f i : Nat} {H : List Nat} : clo t n (f + 1) i H = if 0 < brk H then (if sk t n i < n ∧ t (sk t n i) = 93 then (stO 1 H ++ (clo t n f (sk t n i + 1) (stR 1 H).tail).1, (clo t n f (sk t n i + 1) (stR 1 H).tail).2) else ([], sk t n i, H)) else ([], i, H) := rfl
theorem bnd_0 : ∀ x, 4 ≤ x → x < 17 → (1 ≤ bnd x ↔ x ≠ 16) := by
  intro x h1 h2
  have : ∀ x, x < 17 → 4 ≤ x → (1 ≤ bnd x ↔ x ≠ 16) := by decide
  exact this x h2 h1
theorem st1_16 : ∀ H, elH H → 0 < brk H → ∃ H', stR 1 H = 16 :: H' ∧ brk H' + 1 = brk H ∧ dep H' + 1 ≤ dep H ∧ elH H' ∧ (stO 1 H).length + H'.length + 1 = H.length := by
  intro H
  induction H with
  | nil => intro _ h; exact absurd h (Nat.lt_irrefl 0)
  | cons x H ih =>
    intro he hb
    have hx := he x List.mem_cons_self
    have he' : elH H := fun y hy => he y (List.mem_cons_of_mem _ hy)
    by_cases h16 : x = 16
    · subst h16
      have e1 : stR 1 (16 :: H) = 16 :: H := if_neg (by decide)
      have e2 : stO 1 (16 :: H) = [] := if_neg (by decide)
      rw [e1, e2]
      exact ⟨H, rfl, rfl, Nat.le_refl _, he', by show 0 + H.length + 1 = H.length + 1; omega⟩
    · have hle : 1 ≤ bnd x := (bnd_0 x hx.1 hx.2).mpr h16
      have e1 : stR 1 (x :: H) = stR 1 H := if_pos hle
      have e2 : stO 1 (x :: H) = (x, 0) :: stO 1 H := if_pos hle
      have hbx : brk (x :: H) = brk H := by show brk H + (if x = 16 then 1 else 0) = _; rw [if_neg h16]; rfl
      rw [hbx] at hb
      obtain ⟨H', p1, p2, p3, p4, p5⟩ := ih he' hb
      rw [e1, e2, hbx]
      have hdx : dep H ≤ dep (x :: H) := Nat.le_add_right _ _
      exact ⟨H', p1, p2, by omega, p4, by show (stO 1 H).length + 1 + _ + 1 = H.length + 1; omega⟩
theorem stR_dep1 : ∀ H, elH H → dep (stR 1 H) ≤ dep H := fun H _ => stR_dep H
section CB
variable {m n : Nat} {f : Int32} {t : Nat → Int32}
theorem cb_close (hl : n ≤ 400) {K : fS → Option fS} : ∀ d nn (c : List (Nat × Nat)) (H : List Nat) (S : fS) (i : Nat) (s : Int32), S.1 1 1 = o3 n → S.1 2 = t → RC S m c H → elH H → brk H = d → H.length ≤ 64 → dep H ≤ 10 → c.length + H.length ≤ 400 → i ≤ n → d < nn → ∃ S' s', lp_X5_closeBrackets_0 K nn (tS S (o3 i) s f) = K (tS S' (o3 (clo t n (d + 1) i H).2.1) s' f) ∧ eQ S S' ∧ RC S' m (c ++ (clo t n (d + 1) i H).1) (clo t n (d + 1) i H).2.2 := by
  intro d
  induction d with
  | zero =>
    intro nn c H S i s hn ht hR he hd hL hD hcl hi hnn
    obtain ⟨nn, rfl⟩ : ∃ n', nn = n' + 1 := ⟨nn - 1, by omega⟩
    rw [lp_X5_closeBrackets_0.eq_2, tS_ne (by omega), hR.2.2.1, hd, if_pos (by decide), clo_s, if_neg (by omega)]
    refine ⟨S, s, rfl, eQ.rf, ?_⟩
    show RC S m (c ++ []) H
    rw [List.append_nil]; exact hR
  | succ d ih =>
    intro nn c H S i s hn ht hR he hd hL hD hcl hi hnn
    subst ht
    obtain ⟨nn, rfl⟩ : ∃ n', nn = n' + 1 := ⟨nn - 1, by omega⟩
    have hj := sk_le (t := S.1 2) hi
    have hbd := brk_dep H
    rw [lp_X5_closeBrackets_0.eq_2, tS_ne (by omega), hR.2.2.1, hd, if_neg (show ¬ o3 _ ≤ (0 : Int32) from fun q => by have := (o3_le (b := 0) (by omega) (by omega)).mp q; omega), ct_sign hn hl (by decide) hi, bd_some, clo_s, if_pos (show 0 < brk H by omega)]
    by_cases hc : sk (S.1 2) n i < n ∧ S.1 2 (sk (S.1 2) n i) = 93
    · rw [if_pos hc, if_pos hc]
      dsimp only
      rw [if_neg (show ¬ (1 : Int32) = 0 by decide), show (6 : Int32) = o3 6 from rfl, gB_o (by omega), bd_some, show bnd 6 = 1 from rfl]
      obtain ⟨S1, e1, e2, e3⟩ := cq_settle (i := o3 (sk (S.1 2) n i + 1)) (s := o3 (sk (S.1 2) n i)) (f := f) (b := 1) (by omega) (by omega) hR (fun x hx => (he x hx).2) hL (by omega) hcl
      obtain ⟨H', p1, p2, p3, p4, p5⟩ := st1_16 H he (by omega)
      have hdep := stR_dep (b := 1) H
      have hbrk1 := stR_brk (b := 1) (by omega) H
      rw [p1] at e2 hdep hbrk1
      obtain ⟨r1, r2, r3, r4, r5, r6, r7⟩ := e2
      have r2 : S1.1 38 4 = o3 (H'.length + 1) := r2
      rw [e1, bd_some, tS_ne (by omega), r2, show (1 : Int32) = o3 1 from rfl, o3_sub (by omega), show H'.length + 1 - 1 = H'.length by omega]
      have hmax : ∀ X, f_J9_max_7cf53 (o3 H'.length) (0 : Int32) X = some (o3 H'.length) := fun X => by
        unfold f_J9_max_7cf53
        rw [if_neg (o3_nn (by omega))]
      rw [hmax, bd_some, bd_some, tS_pI (by omega), tS_ne (by omega), pI_ne (by omega), r4, bd_some, tS_pI (by omega), tS_ne (by omega), pI_ne (by omega), pI_ne (by omega), r3, dep_16, brk_16, o3_sub (by omega), o3_sub (by omega), tS_pI (by omega), show dep H' + 1 - 1 = dep H' by omega, show brk H' + 1 - 1 = brk H' by omega]
      have hE : eQ S1 (pI (pI (pI S1 38 4 (o3 H'.length)) 38 6 (o3 (dep H'))) 38 5 (o3 (brk H'))) := ((eQ_pI (by unfold wQ; omega)).tr (eQ_pI (by unfold wQ; omega))).tr (eQ_pI (by unfold wQ; omega))
      have hRn : RC (pI (pI (pI S1 38 4 (o3 H'.length)) 38 6 (o3 (dep H'))) 38 5 (o3 (brk H'))) m (c ++ stO 1 H) H' := by
        refine ⟨?_, ?_, ?_, ?_, fun k hk => ?_, ?_, fun k hk => ?_⟩
        · rw [pI_ne (by omega), pI_ne (by omega), pI_ne (by omega)]; exact r1
        · rw [pI_ne (by omega), pI_ne (by omega), pI_eq]
        · rw [pI_eq]
        · rw [pI_ne (by omega), pI_eq]
        · rw [pI_ne (by omega), pI_ne (by omega), pI_ne (by omega), r5 k (Nat.lt_succ_of_lt hk), rv_init hk]
        · rw [pI_ne (by omega), pI_ne (by omega), pI_ne (by omega)]; exact r6
        · rw [pI_ne (by omega), pI_ne (by omega), pI_ne (by omega)]; exact r7 k hk
      have hE2 := e3.tr hE
      generalize hX : pI (pI (pI S1 38 4 (o3 H'.length)) 38 6 (o3 (dep H'))) 38 5 (o3 (brk H')) = X at hRn hE2
      have hlen : (c ++ stO 1 H).length = c.length + (stO 1 H).length := List.length_append
      obtain ⟨S2, s2, g1, g2, g3⟩ := ih nn (c ++ stO 1 H) H' X (sk (S.1 2) n i + 1) (o3 (sk (S.1 2) n i)) (by rw [hE2.1 1 1 (by unfold wQ; omega)]; exact hn) (funext fun k => hE2.1 2 k (by unfold wQ; omega)) hRn p4 (by omega) (by omega) (by omega) (by omega) (by omega) (by omega)
      rw [p1]
      refine ⟨S2, s2, g1, hE2.tr g2, ?_⟩
      show RC S2 m (c ++ (stO 1 H ++ (clo (S.1 2) n (d + 1) (sk (S.1 2) n i + 1) H').1)) (clo (S.1 2) n (d + 1) (sk (S.1 2) n i + 1) H').2.2
      rw [← List.append_assoc]
      exact g3
    · rw [if_neg hc, if_neg hc]
      dsimp only
      rw [if_pos (show (0 : Int32) = 0 from rfl)]
      refine ⟨S, s, rfl, eQ.rf, ?_⟩
      show RC S m (c ++ []) H
      rw [List.append_nil]; exact hR
theorem clo_pr : ∀ d (H : List Nat) (i : Nat), elH H → brk H ≤ d → i ≤ n → elH (clo t n d i H).2.2 ∧ dep (clo t n d i H).2.2 ≤ dep H ∧ (clo t n d i H).1.length + (clo t n d i H).2.2.length ≤ H.length ∧ i ≤ (clo t n d i H).2.1 ∧ (clo t n d i H).2.1 ≤ n := by
  intro d
  induction d with
  | zero => intro H i he _ hi; exact ⟨he, Nat.le_refl _, by show 0 + H.length ≤ H.length; omega, Nat.le_refl _, hi⟩
  | succ d ih =>
    intro H i he hb hi
    have hj := sk_le (t := t) hi
    have hg := sk_ge (t := t) (n := n) (i := i)
    rw [clo_s]
    by_cases h0 : 0 < brk H
    · rw [if_pos h0]
      by_cases hc : sk t n i < n ∧ t (sk t n i) = 93
      · rw [if_pos hc]
        obtain ⟨H', p1, p2, p3, p4, p5⟩ := st1_16 H he h0
        rw [p1]
        obtain ⟨q1, q2, q3, q4, q5⟩ := ih H' (sk t n i + 1) p4 (by omega) (by omega)
        refine ⟨q1, Nat.le_trans q2 (by omega), ?_, ?_, q5⟩
        · show (stO 1 H ++ (clo t n d (sk t n i + 1) H').1).length + _ ≤ _
          rw [List.length_append]
          show _ + (clo t n d (sk t n i + 1) H').2.2.length ≤ _
          omega
        · show i ≤ (clo t n d (sk t n i + 1) H').2.1
          omega
      · rw [if_neg hc]
        exact ⟨he, Nat.le_refl _, by show 0 + H.length ≤ H.length; omega, hg, hj⟩
    · rw [if_neg h0]
      exact ⟨he, Nat.le_refl _, by show 0 + H.length ≤ H.length; omega, Nat.le_refl _, hi⟩
end CB
end
