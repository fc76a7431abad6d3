section
/-! the reference: closes(), tested() -/
/-- words that join two facts -/
def cnt : List Nat → Nat
  | [] => 0
  | s :: H => cnt H + (if s = 5 ∨ s = 6 then 1 else 0)
theorem cnt_op : ∀ (P H : List Nat), (∀ x ∈ P, x = 4 ∨ x = 16) → cnt (P ++ H) = cnt H := by
  intro P
  induction P with
  | nil => intro H _; rfl
  | cons s P ih =>
    intro H h
    show cnt (P ++ H) + _ = _
    rw [ih H (fun x hx => h x (List.mem_cons_of_mem _ hx)), if_neg (by have := h s List.mem_cons_self; omega)]
    rfl
def rep (k : Nat) : List Bool := List.replicate k true
theorem rep_s {k : Nat} : rep (k + 1) = true :: rep k := rfl
theorem ty_st {b : Nat} (hb : 1 ≤ b) : ∀ H, fH H → tyc (stO b H) (rep (cnt H + 1)) = some (rep (cnt (stR b H) + 1)) := by
  intro H
  induction H with
  | nil => intro _; rfl
  | cons s H ih =>
    intro hf
    have hs := hf s List.mem_cons_self
    have ih := ih (fun y hy => hf y (List.mem_cons_of_mem _ hy))
    by_cases h : b ≤ bnd s
    · rw [stO_c h, stR_c h]
      show (tyS (s, 0) (rep (cnt H + _ + 1))).bind (tyc (stO b H)) = _
      rcases hs with rfl | rfl | rfl | rfl
      · exact ih
      · exact ih
      · exact ih
      · exact absurd h (by show ¬ b ≤ 0; omega)
    · have e1 : stO b (s :: H) = [] := by show (if b ≤ bnd s then _ else _) = _; rw [if_neg h]
      have e2 : stR b (s :: H) = s :: H := by show (if b ≤ bnd s then _ else _) = _; rw [if_neg h]
      rw [e1, e2]
      rfl
theorem ty_clo {t : Nat → Int32} {n : Nat} : ∀ f i H, fH H → tyc (clo t n f i H).1 (rep (cnt H + 1)) = some (rep (cnt (clo t n f i H).2.2 + 1)) := by
  intro f
  induction f with
  | zero => intro i H _; rfl
  | succ f ih =>
    intro i H hf
    rw [clo_s]
    by_cases hb : 0 < brk H
    · rw [if_pos hb]
      by_cases h9 : sk t n i < n ∧ t (sk t n i) = 93
      · rw [if_pos h9]
        obtain ⟨H', p1, p2, p3, p4, p5⟩ := st1_16 H (fH_el hf) hb
        dsimp only
        rw [tyc_app, ty_st (by omega) H hf, Option.bind_some, p1]
        have hf' : fH H' := fun y hy => by
          refine hf y (stR_mem (b := 1) H ?_)
          rw [p1]; exact List.mem_cons_of_mem _ hy
        exact ih _ H' hf'
      · rw [if_neg h9]; rfl
    · rw [if_neg hb]; rfl
section MT8
variable {t : Nat → Int32} {n x : Nat}
theorem fH_len {b : Nat} (H : List Nat) : (stO b H).length + (stR b H).length = H.length := stR_len H
theorem mb_closes (hl : n ≤ 400) (hx : x < 6) (hb : ∀ k, byt (t k)) {K : fS → Option fS} {m : Nat} {u : Int32} : ∀ d (H : List Nat) (c : List (Nat × Nat)) (S : fS) (i nn : Nat), brk H = d → d < nn → S.1 145 1 = o3 n → S.1 146 = t → RQ S x m (c ++ stO 3 H) → RH S (stR 3 H) → fH H → dep H ≤ 10 → c.length + H.length ≤ i → i ≤ n → ∃ T, lp_X11_closes_5 K nn (mS S (o3 i) 0 u) = K (mS T (o3 (sk t n (clo t n (d + 1) i H).2.1)) 0 u) ∧ eMr x S T ∧ RQ T x m (c ++ (clo t n (d + 1) i H).1 ++ stO 3 (clo t n (d + 1) i H).2.2) ∧ RH T (stR 3 (clo t n (d + 1) i H).2.2) ∧ fH (clo t n (d + 1) i H).2.2 := by
  intro d
  induction d with
  | zero =>
    intro H c S i nn hd hnn hn ht hR hH hf hD hc hi
    obtain ⟨nn, rfl⟩ : ∃ k, nn = k + 1 := ⟨nn - 1, by omega⟩
    subst ht
    have hlen := stR_len (b := 3) H
    rw [lp_X11_closes_5.eq_2, mt_see hn hl hi, bd_some, clo_s, if_neg (show ¬ 0 < brk H by omega)]
    dsimp only
    rw [List.append_nil]
    by_cases h9 : seen (S.1 146) n (sk (S.1 146) n i) = 93
    · rw [if_pos h9, ms_inside hH (by omega) (fH_st hf), bd_some, stR_brk (by omega), hd, if_neg (show ¬ 0 < 0 by omega), if_pos rfl]
      exact ⟨S, rfl, eMr.rf, hR, hH, hf⟩
    · rw [if_neg h9]
      exact ⟨S, rfl, eMr.rf, hR, hH, hf⟩
  | succ d ih =>
    intro H c S i nn hd hnn hn ht hR hH hf hD hc hi
    obtain ⟨nn, rfl⟩ : ∃ k, nn = k + 1 := ⟨nn - 1, by omega⟩
    subst ht
    have hlen := stR_len (b := 3) H
    have hlen1 := stR_len (b := 1) H
    have hj := sk_le (t := S.1 146) hi
    have hg := sk_ge (t := S.1 146) (n := n) (i := i)
    rw [lp_X11_closes_5.eq_2, mt_see hn hl hi, bd_some, clo_s, if_pos (show 0 < brk H by omega)]
    dsimp only
    by_cases h9 : sk (S.1 146) n i < n ∧ S.1 146 (sk (S.1 146) n i) = 93
    · obtain ⟨H', p1, p2, p3, p4, p5⟩ := st1_16 H (fH_el hf) (by omega)
      obtain ⟨s1, s2⟩ := st_st (b := 1) (b' := 3) (by omega) H
      rw [if_pos ((seen_eq hb (by decide) (by decide)).mpr h9), if_pos h9, ms_inside hH (by omega) (fH_st hf), bd_some, stR_brk (by omega), if_pos (show 0 < brk H by omega), if_neg (show ¬ (1 : Int32) = 0 by decide)]
      have hcl : (c ++ stO 3 H).length = c.length + (stO 3 H).length := List.length_append
      obtain ⟨T1, e1, e2, e3, e4⟩ := ms_set (i := o3 (sk (S.1 146) n i)) (u := u) hx (b := 1) (by omega) (by omega) hR hH (fH_st hf) (Nat.le_trans (stR_dep H) hD) (by omega)
      rw [s2, p1] at e4
      rw [List.append_assoc, s1] at e3
      have e1' : f_X11_settles 1 (mS S (o3 (sk (S.1 146) n i)) 0 u) = some (mS T1 (o3 (sk (S.1 146) n i)) 0 u) := e1
      have q21 : T1.1 145 21 = o3 (H'.length + 1) := e4.1
      have q18 : T1.1 145 18 = o3 (dep H' + 1) := e4.2.1
      rw [e1', bd_some, bd_some, mS_ne (by omega), q21, show (1 : Int32) = o3 1 from rfl, o3_sub (by omega), show H'.length + 1 - 1 = H'.length by omega, mS_p (by omega), bd_some, mS_ne (by omega), pI_ne (by omega), q18, o3_sub (by omega), show dep H' + 1 - 1 = dep H' by omega, mS_p (by omega), bd_some, mS_13, mS_nx, o3_add]
      have hH2 := RH_po e4
      have hf' : fH H' := fun y hy => by
        refine hf y (stR_mem (b := 1) H ?_)
        rw [p1]; exact List.mem_cons_of_mem _ hy
      have hR2 : RQ (pI (pI T1 145 21 (o3 H'.length)) 145 18 (o3 (dep H'))) x m (c ++ stO 1 H) := by
        refine RQ_eq e3 ?_ ?_ (fun k => ?_) (fun k => ?_) <;> rw [pI_ne (by omega), pI_ne (by omega)]
      have hE : eMr x S (pI (pI T1 145 21 (o3 H'.length)) 145 18 (o3 (dep H'))) := (e2.tr (eMr_pI (by unfold wMr; omega))).tr (eMr_pI (by unfold wMr; omega))
      have hcl2 : (c ++ stO 1 H).length = c.length + (stO 1 H).length := List.length_append
      obtain ⟨T2, g1, g2, g3, g4⟩ := ms_set (i := o3 (sk (S.1 146) n i + 1)) (u := u) hx (b := 3) (by omega) (by omega) hR2 hH2 hf' (by omega) (by omega)
      have g1' : f_X11_settles 3 (mS (pI (pI T1 145 21 (o3 H'.length)) 145 18 (o3 (dep H'))) (o3 (sk (S.1 146) n i + 1)) 0 u) = some (mS T2 (o3 (sk (S.1 146) n i + 1)) 0 u) := g1
      rw [g1', bd_some]
      have hE2 := hE.tr g2
      obtain ⟨T3, k1, k2, k3, k4, k5⟩ := ih H' (c ++ stO 1 H) T2 (sk (S.1 146) n i + 1) nn (by omega) (by omega) ((eMr_1 hE2).trans hn) (eMr_t hE2) g3 g4 hf' (by omega) (by omega) (by omega)
      rw [p1, show (16 :: H').tail = H' from rfl]
      refine ⟨T3, k1, hE2.tr k2, ?_, k4, k5⟩
      rw [← List.append_assoc]
      exact k3
    · rw [if_neg (fun q => h9 ((seen_eq hb (by decide) (by decide)).mp q)), if_neg h9]
      dsimp only
      rw [List.append_nil, sk_id]
      exact ⟨S, rfl, eMr.rf, hR, hH, hf⟩
theorem mb_close (hl : n ≤ 400) (hx : x < 6) (hb : ∀ k, byt (t k)) {m : Nat} {u : Int32} {H : List Nat} {c : List (Nat × Nat)} {S : fS} {i : Nat} (hn : S.1 145 1 = o3 n) (ht : S.1 146 = t) (hR : RQ S x m c) (hH : RH S H) (hf : fH H) (hD : dep H ≤ 10) (hc : c.length + H.length ≤ i) (hi : i ≤ n) : ∃ T, f_X11_closes (mS S (o3 i) 0 u) = some (mS T (o3 (sk t n (clo t n (brk H + 1) i H).2.1)) 0 u) ∧ eMr x S T ∧ RQ T x m (c ++ (clo t n (brk H + 1) i H).1 ++ stO 3 (clo t n (brk H + 1) i H).2.2) ∧ RH T (stR 3 (clo t n (brk H + 1) i H).2.2) ∧ fH (clo t n (brk H + 1) i H).2.2 := by
  unfold f_X11_closes
  obtain ⟨T1, e1, e2, e3, e4⟩ := ms_set (i := o3 i) (u := u) hx (b := 3) (by omega) (by omega) hR hH hf hD (by omega)
  have e1' : f_X11_settles 3 (mS S (o3 i) 0 u) = some (mS T1 (o3 i) 0 u) := e1
  rw [e1', bd_some]
  obtain ⟨T3, k1, k2, k3, k4, k5⟩ := mb_closes hl hx hb (K := fun S27 => some S27) (u := u) (brk H) H c T1 i FU rfl (FU_lt (by have := brk_dep H; omega)) ((eMr_1 e2).trans hn) ((eMr_t e2).trans ht) e3 e4 hf hD hc hi
  exact ⟨T3, k1, e2.tr k2, k3, k4, k5⟩
theorem RUN_due {cp : Bool} {m i : Nat} {c : List (Nat × Nat)} {H : List Nat} (he : elH H) (hd : dep H ≤ 10) (hi : i ≤ n) : RUN t n (true, cp, m, c, H, i) = if (opn t n (11 - dep H) i H).1 = 0 then VR t n false m c (opn t n (11 - dep H) i H).2.2 (opn t n (11 - dep H) i H).2.1 else ((opn t n (11 - dep H) i H).1, 0, 0, []) := by
  rw [RUN_s ⟨he, hd, hi⟩]
  unfold stp
  dsimp only
  rw [if_pos rfl]
  by_cases h : (opn t n (11 - dep H) i H).1 = 0
  · rw [if_pos h, if_pos h]; rfl
  · rw [if_neg h, if_neg h]; rfl
theorem mb_fact (hl : n ≤ 400) (hx : x < 6) (hb : ∀ k, byt (t k)) {S : fS} {m i : Nat} {c : List (Nat × Nat)} {H : List Nat} {u : Int32} (hn : S.1 145 1 = o3 n) (ht : S.1 146 = t) (hR : RQ S x m c) (hH : RH S H) (hf : fH H) (hD : dep H ≤ 10) (hm : m ≤ 60) (hc : c.length + H.length ≤ i) (hi : i ≤ n) : ∃ F T i' m' c' H' w' u', f_X11_fact (mS S (o3 i) 0 u) = some (if F = 0 then (1, mS T (o3 i') 0 u') else (0, mS T w' (o3 F) u')) ∧ eMr x S T ∧ (F = 0 → RQ T x m' c' ∧ RH T H' ∧ fH H' ∧ dep H' ≤ 10 ∧ i < i' ∧ i' ≤ n ∧ sk t n i' = i' ∧ m' ≤ 60 ∧ c'.length + H'.length ≤ i' ∧ rk t n i' = 0 ∧ cnt H' = cnt H ∧ ∃ e, c' = c ++ e ∧ tyB e) ∧ ∀ cp, RUN t n (true, cp, m, c, H, i) = if F = 0 then AR t n true m' c' H' i' else (F, 0, 0, []) := by
  unfold f_X11_fact
  obtain ⟨T1, w1, e1, e2, e3⟩ := mo_fact hl hb (K := fun S24 => (f_X11_compare S24).bind fun q26 => (bZ q26.1).bind fun z29 => some (z29, q26.2)) (u := u) (10 - dep H) i H S FU (by omega) (FU_lt (by omega)) hn ht hR hH (by omega) hi
  rw [show 10 - dep H + 1 = 11 - dep H by omega] at e1 e3
  rw [e1]
  have hr : ∀ cp, _ := fun cp => RUN_due (t := t) (cp := cp) (m := m) (c := c) (fH_el hf) hD hi
  have hpr := opn_pr (t := t) (n := n) (11 - dep H) i H hi hD
  generalize opn t n (11 - dep H) i H = Q at e3 hr hpr
  by_cases hq : Q.1 = 0
  · obtain ⟨P, p1, p2, p3, p4, p5, p6⟩ := hpr hq
    obtain ⟨k1, k2⟩ := e3 hq
    have hfq : fH Q.2.2 := fun y hy => by
      rw [p1] at hy
      rcases List.mem_append.mp hy with hy | hy
      · have := p2 y hy; omega
      · exact hf y hy
    have hlen : Q.2.2.length = P.length + H.length := by rw [p1, List.length_append]
    rw [if_pos hq]
    obtain ⟨F, T, i', m', c', w', u', a1, ⟨a2, a3⟩, a4, a5⟩ := mx_cmp hl hx hb (u := u) ((eMr_1 e2).trans hn) ((eMr_t e2).trans ht) k1 hm (show c.length ≤ Q.2.1 by omega) p5
    rw [a1, bd_some]
    have htp : tp 4 Q.2.2 := by
      cases hQ : Q.2.2 with
      | nil => exact ⟨rfl, rfl⟩
      | cons s G => exact tp_c (by
          have := hfq s (by rw [hQ]; exact List.mem_cons_self)
          rcases this with e | e | e | e <;> rw [e] <;> decide)
    have key : ∀ cp, RUN t n (true, cp, m, c, H, i) = if F = 0 then AR t n true m' c' Q.2.2 i' else (F, 0, 0, []) := fun cp => by
      rw [hr cp, if_pos hq, a5 Q.2.2 (fH_el hfq) p3 htp]
    by_cases hF : F = 0
    · obtain ⟨d1, d2, d3, d4, d5, d6⟩ := a3 hF
      obtain ⟨f1, f2, f3⟩ := a4 hF
      rw [if_pos hF]
      refine ⟨F, T, i', m', c', Q.2.2, w', u', by rw [if_pos hF]; rfl, e2.tr a2, fun _ => ⟨d1, ?_, hfq, p3, by omega, d3, d4, d5, by omega, f2, by rw [p1]; exact cnt_op P H p2, f3⟩, key⟩
      rw [if_pos hF] at a1
      exact RH_fr k2 (fr_f_X11_compare a1) (by unfold w1_f_X11_compare; omega) (by unfold w1_f_X11_compare; omega) (fun k => by unfold w1_f_X11_compare; omega)
    · rw [if_neg hF]
      exact ⟨F, T, i', m', c', Q.2.2, w', u', by rw [if_neg hF]; rfl, e2.tr a2, fun q => absurd q hF, key⟩
  · rw [if_neg hq]
    refine ⟨Q.1, T1, 0, 0, [], [], w1, u, by rw [if_neg hq], e2, fun q => absurd q hq, fun cp => ?_⟩
    rw [hr cp, if_neg hq, if_neg hq]
end MT8
end
