section
/-! the reference: tested() -/
section MT9
variable {t : Nat → Int32} {n x : Nat}
theorem RH_pu2 {S : fS} {H : List Nat} {s : Nat} (h : RH S H) (hd : dep (s :: H) = dep H) : RH (pI (pI S 154 H.length (o3 (hm s))) 145 21 (o3 (H.length + 1))) (s :: H) := by
  refine RH_eq (RH_pu h hd.symm) ?_ ?_ (fun k => ?_)
  · rw [pI_eq, pI_eq]
  · rw [pI_ne (by omega), pI_ne (by omega), pI_ne (by omega), pI_ne (by omega), pI_eq, h.2.1]
  · by_cases e : k = H.length
    · subst e
      rw [pI_ne (by omega), pI_eq, pI_ne (by omega), pI_eq]
    · rw [pI_ne (by omega), pI_ne (by omega), pI_ne (by omega), pI_ne (by omega), pI_ne (by omega)]
def tstK : fS → Option (Int32 × fS) := fun S128 => (f_X11_isInside  S128).bind fun q130 =>
  if q130 = (0 : Int32) then ((f_X11_settles (1 : Int32) S128).bind fun q134 =>
  some ((1 : Int32), q134)) else
  ((f_X11_see  S128).bind fun q137 =>
  (f_X11_fails (0 : Int32) (q137.2.1 145 13) q137.2).bind fun q140 =>
  (bZ q140.1).bind fun z143 => some (z143, q140.2))
/-- a joining word: settled, held, passed -/
theorem mb_push (hl : n ≤ 400) (hx : x < 6) {m : Nat} {u : Int32} {H : List Nat} {c : List (Nat × Nat)} {S : fS} {e s : Nat} (hn : S.1 145 1 = o3 n) (ht : S.1 146 = t) (hR : RQ S x m (c ++ stO 3 H)) (hH : RH S (stR 3 H)) (hf : fH H) (hD : dep H ≤ 10) (hc : c.length + H.length < 400) (hs : s = 5 ∨ s = 6) {sv : Int32} (hv : sv = o3 (hm s)) {β : Type} {G : fS → Option β} (he : e ≤ n) : ∃ T, ((f_X11_passWord (mS S (o3 e) 0 u)).bind fun q39 => (f_X11_strength sv q39).bind fun q42 => (f_X11_settles q42 q39).bind fun q45 => (sI q45 154 400 (q45.1 145 21) sv).bind fun S48 => (some (pI S48 145 21 ((S48.1 145 21) + (1 : Int32)))).bind G) = G (mS T (o3 (e + ll t n e)) 0 u) ∧ eMr x S T ∧ RQ T x m (c ++ stO (bnd s) H) ∧ RH T (s :: stR (bnd s) H) := by
  subst hv
  obtain ⟨s1, s2⟩ := st_st (b := bnd s) (b' := 3) (by rcases hs with rfl | rfl <;> decide) H
  have hlen := stR_len (b := 3) H
  have hlen1 := stR_len (b := bnd s) H
  have hcl : (c ++ stO 3 H).length = c.length + (stO 3 H).length := List.length_append
  rw [mt_pass hn hl he, bd_some, ms_str (by omega), bd_some, ht]
  obtain ⟨T1, e1, e2, e3, e4⟩ := ms_set (i := o3 (e + ll t n e)) (u := u) hx (b := bnd s) (by rcases hs with rfl | rfl <;> decide) (by rcases hs with rfl | rfl <;> decide) hR hH (fH_st hf) (Nat.le_trans (stR_dep H) hD) (by omega)
  rw [s2] at e4
  rw [List.append_assoc, s1] at e3
  rw [e1, bd_some, mS_ne (by omega), e4.1, sI_o (by omega) (by omega), bd_some, mS_p (by omega), bd_some, mS_ne (by omega), pI_ne (by omega), e4.1, o3_s, mS_p (by omega)]
  refine ⟨_, rfl, (e2.tr (eMr_pI (by unfold wMr; omega))).tr (eMr_pI (by unfold wMr; omega)), ?_, RH_pu2 e4 (dep_pu (by omega))⟩
  refine RQ_eq e3 ?_ ?_ (fun k => ?_) (fun k => ?_) <;> rw [pI_ne (by omega), pI_ne (by omega)]
theorem AR_true {m i : Nat} {c : List (Nat × Nat)} {H : List Nat} (hr : rk t n i = 0) (hs : sk t n i = i) : AR t n true m c H i = (if jn t n (sk t n (clo t n (brk H + 1) i H).2.1) = 0 then
        (if brk (clo t n (brk H + 1) i H).2.2 = 0 then (0, sk t n (clo t n (brk H + 1) i H).2.1, m, c ++ (clo t n (brk H + 1) i H).1 ++ stO 1 (clo t n (brk H + 1) i H).2.2)
          else (1 + 8 * sk t n (clo t n (brk H + 1) i H).2.1, 0, 0, []))
        else RUN t n (true, false, m, c ++ (clo t n (brk H + 1) i H).1 ++ stO (bnd (jn t n (sk t n (clo t n (brk H + 1) i H).2.1))) (clo t n (brk H + 1) i H).2.2, jn t n (sk t n (clo t n (brk H + 1) i H).2.1) :: stR (bnd (jn t n (sk t n (clo t n (brk H + 1) i H).2.1))) (clo t n (brk H + 1) i H).2.2, sk t n (clo t n (brk H + 1) i H).2.1 + jnL (jn t n (sk t n (clo t n (brk H + 1) i H).2.1)))) := by
  unfold AR aft
  rw [hs, if_pos hr, if_pos rfl]
  generalize clo t n (brk H + 1) i H = Q
  by_cases h1 : jn t n (sk t n Q.2.1) = 0
  · rw [if_pos h1, if_pos h1]
    by_cases h2 : brk Q.2.2 = 0
    · rw [if_pos h2, if_pos h2]; rfl
    · rw [if_neg h2, if_neg h2]; rfl
  · rw [if_neg h1, if_neg h1]; rfl
theorem cnt_0 : ∀ {H : List Nat}, fH H → brk H = 0 → cnt (stR 1 H) = 0 := by
  intro H
  induction H with
  | nil => intro _ _; rfl
  | cons s H ih =>
    intro hf hb
    have hs := hf s List.mem_cons_self
    have h16 : s ≠ 16 := fun q => by rw [q, brk_16] at hb; omega
    rw [brk_c h16] at hb
    rw [stR_c (by rcases hs with rfl | rfl | rfl | rfl <;> first | decide | exact absurd rfl h16)]
    exact ih (fun y hy => hf y (List.mem_cons_of_mem _ hy)) hb
def rOK (t : Nat → Int32) (n x i : Nat) (T : fS) (r : TR) : Prop := r.1 = 0 → RQ T x r.2.2.1 r.2.2.2 ∧ r.2.1 ≤ n ∧ i < r.2.1 ∧ sk t n r.2.1 = r.2.1 ∧ r.2.2.1 ≤ 60 ∧ r.2.2.2.length ≤ r.2.1
theorem mb_tst (hl : n ≤ 400) (hx : x < 6) (hb : ∀ k, byt (t k)) {c0 : List (Nat × Nat)} : ∀ d i m c H (S : fS) (u : Int32) (cp : Bool) nn, n - i ≤ d → d + 1 < nn → S.1 145 1 = o3 n → S.1 146 = t → RQ S x m c → RH S H → fH H → dep H ≤ 10 → m ≤ 60 → c.length + H.length ≤ i → i ≤ n → (∃ e0, c = c0 ++ e0 ∧ tyc e0 [] = some (rep (cnt H))) → ∃ T w' u', lp_X11_tested_12 tstK nn 1 (mS S (o3 i) 0 u) = some (if (RUN t n (true, cp, m, c, H, i)).1 = 0 then (1, mS T (o3 (RUN t n (true, cp, m, c, H, i)).2.1) 0 u') else (0, mS T w' (o3 (RUN t n (true, cp, m, c, H, i)).1) u')) ∧ eMr x S T ∧ rOK t n x i T (RUN t n (true, cp, m, c, H, i)) ∧ ((RUN t n (true, cp, m, c, H, i)).1 = 0 → ∃ e, (RUN t n (true, cp, m, c, H, i)).2.2.2 = c0 ++ e ∧ tyc e [] = some [true]) := by
  intro d
  induction d with
  | zero =>
    intro i m c H S u cp nn hd hnn hn ht hR hH hf hD hm hc hi hty
    obtain ⟨nn, rfl⟩ : ∃ k, nn = k + 1 := ⟨nn - 1, by omega⟩
    obtain ⟨F, T, i', m', c', H', w', u', a1, a2, a3, a4⟩ := mb_fact hl hx hb (u := u) hn ht hR hH hf hD hm hc hi
    rw [lp_X11_tested_12.eq_2, if_neg (by decide), a1, bd_some, a4 cp]
    by_cases hF : F = 0
    · obtain ⟨_, _, _, _, q1, q2, _⟩ := a3 hF
      omega
    · rw [if_neg hF, if_neg hF]
      dsimp only
      rw [if_pos rfl]
      exact ⟨T, w', u', by rw [if_neg hF], a2, fun q => absurd q hF, fun q => absurd q hF⟩
  | succ d ih =>
    intro i m c H S u cp nn hd hnn hn ht hR hH hf hD hm hc hi hty
    obtain ⟨nn, rfl⟩ : ∃ k, nn = k + 1 := ⟨nn - 1, by omega⟩
    obtain ⟨F, T, i', m', c', H', w', u', a1, a2, a3, a4⟩ := mb_fact hl hx hb (u := u) hn ht hR hH hf hD hm hc hi
    rw [lp_X11_tested_12.eq_2, if_neg (by decide), a1, bd_some, a4 cp]
    by_cases hF : F = 0
    · obtain ⟨b1, b2, b3, b4, b5, b6, b7, b8, b9, b10, b11, e9, b12, b13⟩ := a3 hF
      obtain ⟨e0, t1, t2⟩ := hty
      have hcl0 := ty_clo (t := t) (n := n) (brk H' + 1) i' H' b3
      rw [if_pos hF, if_pos hF]
      dsimp only
      rw [if_neg (show ¬ (1 : Int32) = 0 by decide)]
      obtain ⟨T2, e1, e2, e3, e4, e5⟩ := mb_close hl hx hb (u := u') ((eMr_1 a2).trans hn) ((eMr_t a2).trans ht) b1 b2 b3 b4 b9 b6
      have hpr := clo_pr (n := n) (t := t) (brk H' + 1) H' i' (fH_el b3) (by omega) b6
      rw [e1, bd_some, AR_true b10 b7]
      generalize clo t n (brk H' + 1) i' H' = Q at e3 e4 e5 hpr hcl0
      have hT : tyc (e0 ++ e9 ++ Q.1) [] = some (rep (cnt Q.2.2 + 1)) := by
        rw [tyc_app, tyc_app, t2, Option.bind_some, b13, Option.bind_some, ← b11, ← rep_s, hcl0]
      have hC : c' ++ Q.1 = c0 ++ (e0 ++ e9 ++ Q.1) := by rw [b12, t1]; simp only [List.append_assoc]
      obtain ⟨q1, q2, q3, q4, q5⟩ := hpr
      have hE := a2.tr e2
      have hn2 := (eMr_1 hE).trans hn
      have ht2 := (eMr_t hE).trans ht
      have hj := sk_le (t := t) q5
      have hg := sk_ge (t := t) (n := n) (i := Q.2.1)
      have hid := sk_id (t := t) (n := n) (i := Q.2.1)
      generalize sk t n Q.2.1 = e at hj hg hid
      have hcl : (c' ++ Q.1).length = c'.length + Q.1.length := List.length_append
      rw [mr_word hn2 hl 6385252 14 (by decide) (by decide) hj, bd_some, ht2, hid]
      dsimp only
      by_cases hw : wat t n (mm_sb.getD 14 []) e = true
      · have hjn : jn t n e = 5 := by unfold jn; rw [if_pos hw]
        obtain ⟨j1, j2, j3⟩ := jn_cs (t := t) hj (by omega)
        have hll : ll t n e = 3 := ((wat_ll (t := t) (n := n) _ e (mw_L 14 (by decide))).mp hw).1
        rw [hjn] at j2 ⊢
        have j2 : e + 3 ≤ n := j2
        rw [if_pos hw, if_neg (show ¬ (1 : Int32) = 0 by decide), if_neg (show ¬ (1 : Int32) = 0 by decide), mr_word hn2 hl 6385252 14 (by decide) (by decide) hj, bd_some, ht2, hid, if_pos hw]
        dsimp only
        rw [if_neg (show ¬ (1 : Int32) = 0 by decide), if_neg (show ¬ 5 = 0 by decide)]
        obtain ⟨T3, g1, g2, g3, g4⟩ := mb_push (u := u') (e := e) hl hx hn2 ht2 e3 e4 e5 (by omega) (by omega) (s := 5) (Or.inl rfl) (sv := 12) rfl (G := fun S51 => lp_X11_tested_12 tstK nn 1 S51) hj
        rw [g1, hll]
        have hE2 := hE.tr g2
        have hlen := stR_len (b := bnd 5) Q.2.2
        obtain ⟨T4, w4, u4, k1, k2, k3, k4⟩ := ih (e + 3) m' (c' ++ Q.1 ++ stO (bnd 5) Q.2.2) (5 :: stR (bnd 5) Q.2.2) T3 u' false nn (by omega) (by omega) ((eMr_1 hE2).trans hn) ((eMr_t hE2).trans ht) g3 g4 (fH_c (fH_st e5) (by decide)) (by rw [dep_pu (by decide)]; exact Nat.le_trans (stR_dep _) (by omega)) b8 (by rw [List.length_append, List.length_cons]; omega) j2 ⟨e0 ++ e9 ++ Q.1 ++ stO (bnd 5) Q.2.2, by rw [hC, List.append_assoc], by rw [tyc_app, hT, Option.bind_some, ty_st (by decide) Q.2.2 e5]; rfl⟩
        exact ⟨T4, w4, u4, k1, hE2.tr k2, fun q => by
          obtain ⟨z1, z2, z3, z4⟩ := k3 q
          exact ⟨z1, z2, Nat.lt_of_le_of_lt (show i ≤ e + 3 by omega) z3, z4⟩, k4⟩
      · rw [if_neg hw, if_pos rfl, mr_word hn2 hl 28530 15 (by decide) (by decide) hj, bd_some, ht2, hid]
        dsimp only
        by_cases hw2 : wat t n (mm_sb.getD 15 []) e = true
        · have hjn : jn t n e = 6 := by unfold jn; rw [if_neg hw, if_pos hw2]
          obtain ⟨j1, j2, j3⟩ := jn_cs (t := t) hj (by omega)
          have hll : ll t n e = 2 := ((wat_ll (t := t) (n := n) _ e (mw_L 15 (by decide))).mp hw2).1
          rw [hjn] at j2 ⊢
          have j2 : e + 2 ≤ n := j2
          rw [if_pos hw2, if_neg (show ¬ (1 : Int32) = 0 by decide), if_neg (show ¬ (1 : Int32) = 0 by decide), mr_word hn2 hl 6385252 14 (by decide) (by decide) hj, bd_some, ht2, hid, if_neg hw]
          dsimp only
          rw [if_pos rfl, if_neg (show ¬ 6 = 0 by decide)]
          obtain ⟨T3, g1, g2, g3, g4⟩ := mb_push (u := u') (e := e) hl hx hn2 ht2 e3 e4 e5 (by omega) (by omega) (s := 6) (Or.inr rfl) (sv := 13) rfl (G := fun S51 => lp_X11_tested_12 tstK nn 1 S51) hj
          rw [g1, hll]
          have hE2 := hE.tr g2
          have hlen := stR_len (b := bnd 6) Q.2.2
          obtain ⟨T4, w4, u4, k1, k2, k3, k4⟩ := ih (e + 2) m' (c' ++ Q.1 ++ stO (bnd 6) Q.2.2) (6 :: stR (bnd 6) Q.2.2) T3 u' false nn (by omega) (by omega) ((eMr_1 hE2).trans hn) ((eMr_t hE2).trans ht) g3 g4 (fH_c (fH_st e5) (by decide)) (by rw [dep_pu (by decide)]; exact Nat.le_trans (stR_dep _) (by omega)) b8 (by rw [List.length_append, List.length_cons]; omega) j2 ⟨e0 ++ e9 ++ Q.1 ++ stO (bnd 6) Q.2.2, by rw [hC, List.append_assoc], by rw [tyc_app, hT, Option.bind_some, ty_st (by decide) Q.2.2 e5]; rfl⟩
          exact ⟨T4, w4, u4, k1, hE2.tr k2, fun q => by
            obtain ⟨z1, z2, z3, z4⟩ := k3 q
            exact ⟨z1, z2, Nat.lt_of_le_of_lt (show i ≤ e + 2 by omega) z3, z4⟩, k4⟩
        · have hjn : jn t n e = 0 := by unfold jn; rw [if_neg hw, if_neg hw2]
          obtain ⟨nn, rfl⟩ : ∃ k, nn = k + 1 := ⟨nn - 1, by omega⟩
          rw [hjn, if_pos rfl, if_neg hw2, if_pos rfl, if_pos rfl, lp_X11_tested_12.eq_2, if_pos rfl]
          unfold tstK
          have hlen3 := stR_len (b := 3) Q.2.2
          rw [ms_inside e4 (by omega) (fH_st e5), bd_some, stR_brk (by omega)]
          by_cases hbk : brk Q.2.2 = 0
          · rw [if_neg (show ¬ 0 < brk Q.2.2 by omega), if_pos rfl, if_pos hbk]
            obtain ⟨s1, s2⟩ := st_st (b := 1) (b' := 3) (by decide) Q.2.2
            have hlen1 := stR_len (b := 1) Q.2.2
            obtain ⟨T3, g1, g2, g3, g4⟩ := ms_set (i := o3 e) (u := u') hx (b := 1) (by omega) (by omega) e3 e4 (fH_st e5) (Nat.le_trans (stR_dep _) (by omega)) (by rw [List.length_append]; omega)
            have g1' : f_X11_settles 1 (mS T2 (o3 e) 0 u') = some (mS T3 (o3 e) 0 u') := g1
            rw [List.append_assoc, s1] at g3
            rw [g1', bd_some]
            refine ⟨T3, 0, u', by rw [if_pos rfl], hE.tr g2, fun _ => ⟨g3, hj, by show i < e; omega, hid, b8, ?_⟩, fun _ => ⟨e0 ++ e9 ++ Q.1 ++ stO 1 Q.2.2, by show c' ++ Q.1 ++ _ = _; rw [hC, List.append_assoc], ?_⟩⟩
            rotate_left
            · rw [tyc_app, hT, Option.bind_some, ty_st (by decide) Q.2.2 e5, cnt_0 e5 hbk]
              rfl
            show (c' ++ Q.1 ++ stO 1 Q.2.2).length ≤ e
            rw [List.length_append]
            omega
          · rw [if_pos (show 0 < brk Q.2.2 by omega), if_neg (show ¬ (1 : Int32) = 0 by decide), if_neg hbk, mt_see hn2 hl hj, bd_some, ht2, hid]
            dsimp only
            rw [mS_13, mt_fails mS_14, bd_some, mS_wr, show (8 : Int32) = o3 8 from rfl, show (1 : Int32) = o3 1 from rfl, show (0 : Int32) = o3 0 from rfl, o3_mul, o3_add, o3_add]
            refine ⟨T2, o3 e, u', ?_, hE, fun q => absurd q (show ¬ 1 + 8 * e = 0 by omega), fun q => absurd q (show ¬ 1 + 8 * e = 0 by omega)⟩
            rw [if_neg (show ¬ 1 + 8 * e = 0 by omega)]
            rfl
    · rw [if_neg hF, if_neg hF]
      dsimp only
      rw [if_pos rfl]
      exact ⟨T, w', u', by rw [if_neg hF], a2, fun q => absurd q hF, fun q => absurd q hF⟩
end MT9
/-! what is written: steps that can be; values as many as made -/
def okSt (q : Nat × Nat) : Prop := q.1 ≤ 15 ∧ q.2 ≤ 99999 ∧ (q.1 = 3 → q.2 < 8)
def nv : List (Nat × Nat) → Nat
  | [] => 0
  | q :: c => nv c + (if q.1 = 2 ∨ q.1 = 3 then 1 else 0)
theorem nv_app : ∀ c e : List (Nat × Nat), nv (c ++ e) = nv c + nv e := by
  intro c
  induction c with
  | nil => intro e; show nv e = 0 + nv e; omega
  | cons q c ih =>
    intro e
    show nv (c ++ e) + _ = nv c + _ + nv e
    rw [ih e]
    omega
def okc (m0 m : Nat) (c : List (Nat × Nat)) : Prop := (∀ q ∈ c, okSt q) ∧ nv c + m0 ≤ m ∧ m ≤ 60
theorem stO_ok {b : Nat} (hb : 1 ≤ b) : ∀ H, elH H → (∀ q ∈ stO b H, okSt q) ∧ nv (stO b H) = 0 := by
  intro H
  induction H with
  | nil => intro _; exact ⟨fun q hq => absurd hq List.not_mem_nil, rfl⟩
  | cons s H ih =>
    intro he
    have hs := he s List.mem_cons_self
    have ih := ih (fun y hy => he y (List.mem_cons_of_mem _ hy))
    by_cases h : b ≤ bnd s
    · rw [stO_c h]
      have h16 : s ≠ 16 := fun q => by rw [q] at h; have : bnd 16 = 0 := rfl; omega
      refine ⟨fun q hq => ?_, ?_⟩
      · rcases List.mem_cons.mp hq with rfl | hq
        · exact ⟨by show s ≤ 15; omega, by show 0 ≤ 99999; omega, fun z => absurd z (by show ¬ s = 3; omega)⟩
        · exact ih.1 q hq
      · show nv (stO b H) + (if s = 2 ∨ s = 3 then 1 else 0) = 0
        rw [ih.2, if_neg (by omega)]
    · have e1 : stO b (s :: H) = [] := by show (if b ≤ bnd s then _ else _) = _; rw [if_neg h]
      rw [e1]
      exact ⟨fun q hq => absurd hq List.not_mem_nil, rfl⟩
theorem clo_ok {t : Nat → Int32} {n : Nat} : ∀ f i H, elH H → (∀ q ∈ (clo t n f i H).1, okSt q) ∧ nv (clo t n f i H).1 = 0 := by
  intro f
  induction f with
  | zero => intro i H _; exact ⟨fun q hq => absurd hq List.not_mem_nil, rfl⟩
  | succ f ih =>
    intro i H he
    rw [clo_s]
    by_cases hb : 0 < brk H
    · rw [if_pos hb]
      by_cases h9 : sk t n i < n ∧ t (sk t n i) = 93
      · rw [if_pos h9]
        obtain ⟨H', p1, p2, p3, p4, p5⟩ := st1_16 H he hb
        obtain ⟨a1, a2⟩ := stO_ok (b := 1) (by omega) H he
        obtain ⟨b1, b2⟩ := ih (sk t n i + 1) H' p4
        dsimp only
        rw [p1]
        refine ⟨fun q hq => ?_, ?_⟩
        · rcases List.mem_append.mp hq with hq | hq
          · exact a1 q hq
          · exact b1 q hq
        · rw [nv_app, a2]; show 0 + nv (clo t n f (sk t n i + 1) H').1 = 0; omega
      · rw [if_neg h9]; exact ⟨fun q hq => absurd hq List.not_mem_nil, rfl⟩
    · rw [if_neg hb]; exact ⟨fun q hq => absurd hq List.not_mem_nil, rfl⟩
theorem okc_app {m0 m m' : Nat} {c e : List (Nat × Nat)} (h : okc m0 m c) (he : (∀ q ∈ e, okSt q) ∧ nv e = 0) (hm : m ≤ m') (h6 : m' ≤ 60) : okc m0 m' (c ++ e) := by
  refine ⟨fun q hq => ?_, ?_, h6⟩
  · rcases List.mem_append.mp hq with hq | hq
    · exact h.1 q hq
    · exact he.1 q hq
  · rw [nv_app, he.2]; have := h.2.1; omega
def okX (m0 : Nat) (x : TR ⊕ TS) : Prop := match x with
  | .inl r => r.1 = 0 → okc m0 r.2.2.1 r.2.2.2
  | .inr y => okc m0 y.2.2.1 y.2.2.2.1
section OKC
variable {t : Nat → Int32} {n m0 : Nat}
theorem bnd_j1 : ∀ x, x = 5 ∨ x = 6 → 1 ≤ bnd x := by
  intro x h
  rcases h with rfl | rfl <;> decide
theorem aft_ok {cp : Bool} {m i : Nat} {c : List (Nat × Nat)} {H : List Nat} (he : elH H) (hi : i ≤ n) (hc : okc m0 m c) : okX m0 (aft t n cp m c H i) := by
  have hj := sk_le (t := t) hi
  unfold aft
  generalize sk t n i = j at hj
  by_cases hr : rk t n j = 0
  · rw [if_pos hr]
    by_cases hp : cp = true
    · rw [if_pos hp]
      obtain ⟨q1, q2, q3, q4, q5⟩ := clo_pr (n := n) (t := t) (brk H + 1) H j he (by omega) hj
      have ho := clo_ok (t := t) (n := n) (brk H + 1) j H he
      generalize clo t n (brk H + 1) j H = Q at q1 q2 q3 q4 q5 ho
      have h1 := okc_app hc ho (Nat.le_refl _) hc.2.2
      by_cases hn : jn t n (sk t n Q.2.1) = 0
      · rw [if_pos hn]
        split
        · exact fun _ => okc_app h1 (stO_ok (by omega) _ q1) (Nat.le_refl _) hc.2.2
        · exact fun q => absurd q (show ¬ 1 + 8 * sk t n Q.2.1 = 0 by omega)
      · rw [if_neg hn]
        have := jn_or t n (sk t n Q.2.1)
        exact okc_app h1 (stO_ok (bnd_j1 _ (by omega)) _ q1) (Nat.le_refl _) hc.2.2
    · rw [if_neg hp]
      by_cases hm : cm t n j = 0
      · rw [if_pos hm]; exact fun q => absurd q (show ¬ 1 + 8 * j = 0 by omega)
      · rw [if_neg hm]
        by_cases h6 : 60 ≤ m
        · rw [if_pos h6]; exact fun q => absurd q (show ¬ 1 + 8 * j + 3 = 0 by omega)
        · rw [if_neg h6]
          exact okc_app hc (stO_ok (by omega) _ he) (show m ≤ m + 1 by omega) (show m + 1 ≤ 60 by omega)
  · rw [if_neg hr]
    obtain ⟨k1, k2⟩ := rk_cs hr
    exact okc_app hc (stO_ok (by rcases k1 with e | e | e | e <;> rw [e] <;> decide) _ he) (Nat.le_refl _) hc.2.2
theorem tval_ok {cp : Bool} {m i : Nat} {c : List (Nat × Nat)} {H : List Nat} (he : elH H) (hi : i ≤ n) (hc : okc m0 m c) : okX m0 (tval t n cp m c H i) := by
  have hj := sk_le (t := t) hi
  unfold tval
  by_cases hv : vlF t n m (sk t n i) = 0
  · rw [if_pos hv]
    obtain ⟨v1, v2, v3⟩ := vl_gt hj sk_id hv
    refine aft_ok he v2 ⟨fun q hq => ?_, ?_, by omega⟩
    · rcases List.mem_append.mp hq with hq | hq
      · exact hc.1 q hq
      · rw [List.mem_singleton] at hq
        subst hq
        unfold vlF at hv
        unfold vlC
        by_cases hd : 0 < dl t n (sk t n i)
        · rw [if_pos hd] at hv ⊢
          by_cases hf : nmf t n (sk t n i) 0 99999 = 0
          · have := (nmf_0 hf).2.2.2
            exact ⟨by show 2 ≤ 15; omega, by show nmv _ _ _ ≤ 99999; omega, fun z => absurd z (by show ¬ 2 = 3; omega)⟩
          · rw [if_neg hf] at hv; exact absurd hv hf
        · rw [if_neg hd] at hv ⊢
          by_cases h8 : nmI t n (sk t n i) < 8
          · exact ⟨by show 3 ≤ 15; omega, by show nmI _ _ _ ≤ 99999; omega, fun _ => h8⟩
          · rw [if_neg h8] at hv; exact absurd hv (by omega)
    · rw [nv_app]
      have := hc.2.1
      have h1 : nv [vlC t n (sk t n i)] ≤ 1 := by
        show 0 + _ ≤ 1
        split <;> omega
      omega
  · rw [if_neg hv]; exact fun q => absurd q hv
theorem stp_ok {x : TS} (hx : jT n x) (hc : okc m0 x.2.2.1 x.2.2.2.1) : okX m0 (stp t n x) := by
  obtain ⟨due, cp, m, c, H, i⟩ := x
  obtain ⟨he, hd, hi⟩ := hx
  dsimp only at he hd hi hc
  unfold stp
  dsimp only
  by_cases hu : due = true
  · rw [if_pos hu]
    have hp := opn_pr (t := t) (n := n) (11 - dep H) i H hi hd
    generalize opn t n (11 - dep H) i H = Q at hp
    by_cases hq : Q.1 = 0
    · rw [if_pos hq]
      obtain ⟨P, p1, p2, p3, p4, p5, p6⟩ := hp hq
      exact tval_ok (H := Q.2.2) (fun z hz => by
        rw [p1] at hz
        rcases List.mem_append.mp hz with hz | hz
        · have := p2 z hz; omega
        · exact he z hz) p5 hc
    · rw [if_neg hq]; exact fun q => absurd q hq
  · rw [if_neg hu]
    exact tval_ok he hi hc
theorem run_ok : ∀ F (x : TS), jT n x → okc m0 x.2.2.1 x.2.2.2.1 → (run t n F x).1 = 0 → okc m0 (run t n F x).2.2.1 (run t n F x).2.2.2 := by
  intro F
  induction F with
  | zero => intro x _ _ h; exact absurd h (by show ¬ 1 = 0; omega)
  | succ F ih =>
    intro x hx hc
    have hs := stp_ok (t := t) hx hc
    rw [run_s]
    cases he : stp t n x with
    | inl r => rw [he] at hs; exact hs
    | inr y => rw [he] at hs; exact ih y (stp_J hx he).1 hs
end OKC
end
section
/-! the reference: tested(), isToHere() -/
def mcl (q : Cl) : List (Nat × Nat) := match q.2 with
  | none => []
  | some w => w
def mcode (L : List Cl) : List (Nat × Nat) := L.flatMap mcl
theorem mcode_app {L : List Cl} {q : Cl} : mcode (L ++ [q]) = mcode L ++ mcl q := by
  unfold mcode
  rw [List.flatMap_append]
  simp
/-- a clause that can be: a floor's number; steps of a test that leaves one fact, values as many as the stack holds -/
def okCl (q : Cl) : Prop := q.1 ≤ 9 ∧ ∀ w, q.2 = some w → tyc w [] = some [true] ∧ (∀ z ∈ w, okSt z) ∧ nv w ≤ 60
/-- clauses of text x -/
def clM (S : fS) (x : Nat) (L : List Cl) : Prop := S.1 150 x = o3 L.length ∧ ∀ k, k < L.length → S.1 149 (36 * x + 3 * k) = o3 (L.getD k (0, none)).1 ∧ S.1 149 (36 * x + 3 * k + 1) = (if (L.getD k (0, none)).2.isSome then o3 (mcode (L.take k)).length else -1) ∧ S.1 149 (36 * x + 3 * k + 2) = o3 (mcode (L.take (k + 1))).length
def wM9 (x a k : Nat) : Prop := wMr x a k ∨ (a = 145 ∧ k = 19) ∨ (a = 150 ∧ k = x) ∨ (a = 149 ∧ 36 * x ≤ k ∧ k < 36 * x + 36)
def eM9 (x : Nat) (S T : fS) : Prop := (∀ a k, ¬ wM9 x a k → T.1 a k = S.1 a k) ∧ T.2 = S.2
theorem eM9.rf {x : Nat} {S : fS} : eM9 x S S := ⟨fun _ _ _ => rfl, rfl⟩
theorem eM9.tr {x : Nat} {S T U : fS} (h : eM9 x S T) (g : eM9 x T U) : eM9 x S U := ⟨fun a k n => (g.1 a k n).trans (h.1 a k n), g.2.trans h.2⟩
theorem eM9_pI {x : Nat} {S : fS} {a k : Nat} {y : Int32} (h : wM9 x a k) : eM9 x S (pI S a k y) := ⟨fun b j n => by
  rw [pI_get]
  by_cases q : b = a ∧ j = k
  · exact absurd (q.1 ▸ q.2 ▸ h) n
  · rw [if_neg q], rfl⟩
theorem eM9_of {x : Nat} {S T : fS} (h : eMr x S T) : eM9 x S T := ⟨fun a k n => h.1 a k (fun q => n (Or.inl q)), h.2⟩
theorem eM9_1 {x : Nat} {S T : fS} (h : eM9 x S T) : T.1 145 1 = S.1 145 1 := h.1 145 1 (by unfold wM9 wMr; omega)
theorem eM9_t {x : Nat} {S T : fS} (h : eM9 x S T) : T.1 146 = S.1 146 := funext fun k => h.1 146 k (by unfold wM9 wMr; omega)
theorem clM_eq {S T : fS} {x : Nat} {L : List Cl} (h : clM S x L) (h1 : T.1 150 x = S.1 150 x) (h2 : ∀ k, k < 3 * L.length → T.1 149 (36 * x + k) = S.1 149 (36 * x + k)) : clM T x L := by
  refine ⟨h1.trans h.1, fun k hk => ?_⟩
  obtain ⟨a, b, c⟩ := h.2 k hk
  refine ⟨(h2 (3 * k) (by omega)).trans a, ?_, ?_⟩
  · exact (h2 (3 * k + 1) (by omega)).trans b
  · exact (h2 (3 * k + 2) (by omega)).trans c
theorem clM_app {S T : fS} {x : Nat} {L : List Cl} {q : Cl} (h : clM S x L) (h1 : T.1 150 x = o3 (L.length + 1)) (h2 : ∀ k, k < 3 * L.length → T.1 149 (36 * x + k) = S.1 149 (36 * x + k)) (h3 : T.1 149 (36 * x + 3 * L.length) = o3 q.1) (h4 : T.1 149 (36 * x + 3 * L.length + 1) = if q.2.isSome then o3 (mcode L).length else -1) (h5 : T.1 149 (36 * x + 3 * L.length + 2) = o3 (mcode (L ++ [q])).length) : clM T x (L ++ [q]) := by
  refine ⟨by rw [h1, ln_app], fun k hk => ?_⟩
  rw [ln_app] at hk
  by_cases e : k = L.length
  · subst e
    rw [gd_r, List.take_left, List.take_of_length_le (by rw [ln_app]; omega)]
    exact ⟨h3, h4, h5⟩
  · rw [gd_l (by omega), List.take_append_of_le_length (by omega), List.take_append_of_le_length (by omega)]
    obtain ⟨a, b, c⟩ := h.2 k (by omega)
    refine ⟨(h2 (3 * k) (by omega)).trans a, ?_, ?_⟩
    · exact (h2 (3 * k + 1) (by omega)).trans b
    · exact (h2 (3 * k + 2) (by omega)).trans c
section MTO
variable {t : Nat → Int32} {n x : Nat}
theorem mb_tested (hl : n ≤ 400) (hx : x < 6) (hb : ∀ k, byt (t k)) {i m : Nat} {c : List (Nat × Nat)} {S : fS} {u : Int32} (hn : S.1 145 1 = o3 n) (ht : S.1 146 = t) (hR : RQ S x m c) (hm : m ≤ 60) (hc : c.length ≤ i) (hi : i ≤ n) : ∃ T w' u', f_X11_tested (mS S (o3 i) 0 u) = some (if (run t n (n + 1) (true, false, m, [], [], i)).1 = 0 then (1, mS T (o3 (run t n (n + 1) (true, false, m, [], [], i)).2.1) 0 u') else (0, mS T w' (o3 (run t n (n + 1) (true, false, m, [], [], i)).1) u')) ∧ eMr x S T ∧ ((run t n (n + 1) (true, false, m, [], [], i)).1 = 0 → RQ T x (run t n (n + 1) (true, false, m, [], [], i)).2.2.1 (c ++ (run t n (n + 1) (true, false, m, [], [], i)).2.2.2) ∧ (run t n (n + 1) (true, false, m, [], [], i)).2.1 ≤ n ∧ i < (run t n (n + 1) (true, false, m, [], [], i)).2.1 ∧ (run t n (n + 1) (true, false, m, [], [], i)).2.2.1 ≤ 60 ∧ (c ++ (run t n (n + 1) (true, false, m, [], [], i)).2.2.2).length ≤ (run t n (n + 1) (true, false, m, [], [], i)).2.1 ∧ tyc (run t n (n + 1) (true, false, m, [], [], i)).2.2.2 [] = some [true]) := by
  have e : f_X11_tested (mS S (o3 i) 0 u) = lp_X11_tested_12 tstK FU 1 (mS (pI (pI S 145 21 0) 145 18 0) (o3 i) 0 u) := by
    unfold f_X11_tested
    rw [bd_some, mS_p (by omega), bd_some, mS_p (by omega)]
    rfl
  have hE : eMr x S (pI (pI S 145 21 0) 145 18 0) := (eMr_pI (by unfold wMr; omega)).tr (eMr_pI (by unfold wMr; omega))
  have hR1 : RQ (pI (pI S 145 21 0) 145 18 0) x m c := by
    refine RQ_eq hR ?_ ?_ (fun k => ?_) (fun k => ?_) <;> rw [pI_ne (by omega), pI_ne (by omega)]
  have hH1 : RH (pI (pI S 145 21 0) 145 18 0) [] := ⟨by rw [pI_ne (by omega), pI_eq]; rfl, by rw [pI_eq]; rfl, fun k hk => absurd hk (Nat.not_lt_zero _)⟩
  obtain ⟨T, w', u', a1, a2, a3, a4⟩ := mb_tst hl hx hb (c0 := c) n i m c [] _ u false FU (by omega) (FU_lt (by omega)) ((eMr_1 hE).trans hn) ((eMr_t hE).trans ht) hR1 hH1 (fun y hy => absurd hy List.not_mem_nil) (by decide) hm (by show c.length + 0 ≤ i; omega) hi ⟨[], (List.append_nil c).symm, rfl⟩
  have hr : RUN t n (true, false, m, c, [], i) = pre c (run t n (n + 1) (true, false, m, [], [], i)) := by
    unfold RUN
    have := run_pre (t := t) (n := n) (c0 := c) (n + 1) true false m [] [] i
    rw [List.append_nil] at this
    exact this
  rw [hr] at a1 a3 a4
  rw [e, a1]
  generalize run t n (n + 1) (true, false, m, [], [], i) = r at a1 a3 a4
  unfold pre at a3 a4 ⊢
  by_cases h0 : r.1 = 0
  · simp only [if_pos h0] at a3 a4 ⊢
    refine ⟨T, w', u', rfl, hE.tr a2, fun _ => ?_⟩
    obtain ⟨b1, b2, b3, b4, b5, b6⟩ := a3 h0
    obtain ⟨e', y1, y2⟩ := a4 h0
    have : r.2.2.2 = e' := List.append_cancel_left y1
    exact ⟨b1, b2, b3, b5, b6, by rw [this]; exact y2⟩
  · simp only [if_neg h0] at ⊢
    exact ⟨T, w', u', rfl, hE.tr a2, fun q => absurd q h0⟩
theorem mb_to (hl : n ≤ 400) (hx : x < 6) (hb : ∀ k, byt (t k)) {i m : Nat} {L : List Cl} {S : fS} {u : Int32} (hn : S.1 145 1 = o3 n) (ht : S.1 146 = t) (hR : RQ S x m (mcode L)) (hM : clM S x L) (hm : m ≤ 60) (hk : L.length < 12) (hc : (mcode L).length ≤ i) (hi : i ≤ n) (hw : wat t n (mm_sb.getD 3 []) (sk t n i) = true) : ∃ T w' u', f_X11_isToHere (mS S (o3 (sk t n i)) 0 u) = some (if (rcl t n L.length m i).1 = 0 then (1, mS T (o3 (rcl t n L.length m i).2.1) 0 u') else (0, mS T w' (o3 (rcl t n L.length m i).1) u')) ∧ eM9 x S T ∧ T.1 145 19 = S.1 145 19 ∧ ((rcl t n L.length m i).1 = 0 → RQ T x (rcl t n L.length m i).2.2.1 (mcode (L ++ [(rcl t n L.length m i).2.2.2])) ∧ clM T x (L ++ [(rcl t n L.length m i).2.2.2]) ∧ (rcl t n L.length m i).2.1 ≤ n ∧ i < (rcl t n L.length m i).2.1 ∧ (rcl t n L.length m i).2.2.1 ≤ 60 ∧ (mcode (L ++ [(rcl t n L.length m i).2.2.2])).length ≤ (rcl t n L.length m i).2.1 ∧ okCl (rcl t n L.length m i).2.2.2) := by
  have hj := sk_le (t := t) hi
  have hg := sk_ge (t := t) (n := n) (i := i)
  have hll : ll t n (sk t n i) = 2 := ((wat_ll (t := t) (n := n) _ _ (mw_L 3 (by decide))).mp hw).1
  have h2 := ll_le (t := t) (n := n) _ (sk t n i) rfl hj
  rw [hll] at h2
  unfold f_X11_isToHere rcl
  rw [mt_pass hn hl hj, bd_some, ht, hll, if_pos hw, if_neg (show ¬ 12 ≤ L.length by omega)]
  generalize sk t n i = j at hj hg h2 hw
  obtain ⟨u1, a1⟩ := mt_num (S := S) (u := u) hn hl (lo := 0) (hi := 9) (i := j + 2) h2
  rw [show (0 : Int32).toInt = 0 from rfl, show (9 : Int32).toInt = 9 from rfl, ht] at a1
  rw [a1, bd_some]
  by_cases hF : nmf t n (j + 2) 0 9 = 0
  · rw [if_pos hF, if_pos hF]
    dsimp only
    rw [if_neg (show ¬ (1 : Int32) = 0 by decide)]
    have p1 := nmp_gt hF
    have p2 := nmp_le (t := t) h2
    obtain ⟨v1, v2, v3, v4⟩ := nmf_0 hF
    generalize nmp t n (j + 2) = p at p1 p2
    generalize nmv t n (j + 2) = v at v3 v4
    have hq := sk_le (t := t) p2
    have hqg := sk_ge (t := t) (n := n) (i := p)
    obtain ⟨r1, r2, r3, r4⟩ := hR
    have e36 : ((36 : Int32) * o3 x) + ((3 : Int32) * o3 L.length) = o3 (36 * x + 3 * L.length) := by
      rw [show (36 : Int32) = o3 36 from rfl, show (3 : Int32) = o3 3 from rfl, o3_mul, o3_mul, o3_add]
    have e1 : o3 (36 * x + 3 * L.length) + (1 : Int32) = o3 (36 * x + 3 * L.length + 1) := o3_s
    have e2 : o3 (36 * x + 3 * L.length) + (2 : Int32) = o3 (36 * x + 3 * L.length + 2) := by rw [show (2 : Int32) = o3 2 from rfl, o3_add]
    rw [mS_ne (by omega), r1, gI_o (by omega) (by omega), bd_some, mS_ne (by omega), hM.1, e36, mS_15, sI_o (by omega) (by omega), bd_some, mS_p (by omega), e1, sI_o (by omega) (by omega), bd_some, mS_p (by omega)]
    generalize hX : pI (pI S 149 (36 * x + 3 * L.length) (o3 v)) 149 (36 * x + 3 * L.length + 1) (-1) = X
    have hXo : ∀ a k, ¬ (a = 149 ∧ (k = 36 * x + 3 * L.length ∨ k = 36 * x + 3 * L.length + 1)) → X.1 a k = S.1 a k := fun a k h => by
      rw [← hX, pI_ne (by omega), pI_ne (by omega)]
    have hX0 : X.1 149 (36 * x + 3 * L.length) = o3 v := by rw [← hX, pI_ne (by omega), pI_eq]
    have hX1 : X.1 149 (36 * x + 3 * L.length + 1) = -1 := by rw [← hX, pI_eq]
    have hXE : eM9 x S X := by rw [← hX]; exact (eM9_pI (by unfold wM9; omega)).tr (eM9_pI (by unfold wM9; omega))
    have hXn := (eM9_1 hXE).trans hn
    have hXt := (eM9_t hXE).trans ht
    have hXR : RQ X x m (mcode L) := RQ_eq ⟨r1, r2, r3, r4⟩ (hXo _ _ (by omega)) (hXo _ _ (by omega)) (fun k => hXo _ _ (by omega)) (fun k => hXo _ _ (by omega))
    rw [mt_takes (c := 26982) hXn hl (mw_L 4 (by decide)) (by decide) (by decide) (mw_c 4 (by decide)) p2, bd_some, hXt]
    by_cases hw4 : wat t n (mm_sb.getD 4 []) (sk t n p) = true
    · have hl4 := ((wat_ll (t := t) (n := n) _ _ (mw_L 4 (by decide))).mp hw4).1
      have h4 := ll_le (t := t) (n := n) _ (sk t n p) rfl hq
      rw [hl4, show (mm_sb.getD 4 []).length = 2 from rfl] at h4
      rw [if_pos hw4, if_pos hw4, show (mm_sb.getD 4 []).length = 2 from rfl]
      dsimp only
      rw [if_neg (show ¬ (1 : Int32) = 0 by decide), mS_ne (by omega), hXo 145 16 (by omega), r1, gI_o (by omega) (by omega), bd_some, mS_ne (by omega), hXo 148 x (by omega), r3, sI_o (by omega) (by omega), bd_some, mS_p (by omega)]
      generalize hZ : pI X 149 (36 * x + 3 * L.length + 1) (o3 (mcode L).length) = Z
      have hZo : ∀ a k, ¬ (a = 149 ∧ k = 36 * x + 3 * L.length + 1) → Z.1 a k = X.1 a k := fun a k h => by rw [← hZ, pI_ne h]
      have hZ1 : Z.1 149 (36 * x + 3 * L.length + 1) = o3 (mcode L).length := by rw [← hZ, pI_eq]
      have hZE : eM9 x S Z := by rw [← hZ]; exact hXE.tr (eM9_pI (by unfold wM9; omega))
      have hZR : RQ Z x m (mcode L) := RQ_eq hXR (hZo _ _ (by omega)) (hZo _ _ (by omega)) (fun k => hZo _ _ (by omega)) (fun k => hZo _ _ (by omega))
      have hro := run_ok (t := t) (n := n) (m0 := m) (n + 1) (true, false, m, [], [], sk t n p + 2) ⟨fun y hy => absurd hy List.not_mem_nil, by show 0 ≤ 10; omega, h4⟩ ⟨fun y hy => absurd hy List.not_mem_nil, by show 0 + m ≤ m; omega, hm⟩
      obtain ⟨T, w', u', b1, b2, b3⟩ := mb_tested (u := o3 v) hl hx hb ((eM9_1 hZE).trans hn) ((eM9_t hZE).trans ht) hZR hm (show (mcode L).length ≤ sk t n p + 2 by omega) h4
      rw [b1, bd_some]
      generalize run t n (n + 1) (true, false, m, [], [], sk t n p + 2) = r at b1 b3 hro
      have hTo : ∀ a k, a = 149 ∨ a = 150 ∨ (a = 145 ∧ k = 19) ∨ (a = 145 ∧ k = 16) → T.1 a k = Z.1 a k := fun a k h => b2.1 a k (by unfold wMr; omega)
      by_cases hr : r.1 = 0
      · obtain ⟨c1, c2, c3, c4, c5, c6⟩ := b3 hr
        rw [if_pos hr, if_pos hr]
        dsimp only
        rw [if_neg (show ¬ (1 : Int32) = 0 by decide), mS_ne (by omega), c1.1, gI_o (by omega) (by omega), bd_some, mS_ne (by omega), c1.2.2.1, e2, sI_o (by omega) (by omega), bd_some, mS_p (by omega), mS_ne (by omega), pI_ne (by omega), c1.1, gI_o (by omega) (by omega), bd_some, mS_ne (by omega), pI_ne (by omega), hTo 150 x (by omega), hZo 150 x (by omega), hXo 150 x (by omega), hM.1, o3_s, sI_o (by omega) (by omega), bd_some, mS_p (by omega)]
        refine ⟨_, 0, u', by rw [if_pos rfl], ((hZE.tr (eM9_of b2)).tr (eM9_pI (by unfold wM9; omega))).tr (eM9_pI (by unfold wM9; omega)), ?_, fun _ => ?_⟩
        · rw [pI_ne (by omega), pI_ne (by omega), hTo 145 19 (by omega), hZo _ _ (by omega), hXo _ _ (by omega)]
        · have hcd : mcode (L ++ [(v, some r.2.2.2)]) = mcode L ++ r.2.2.2 := mcode_app
          rw [hcd]
          refine ⟨?_, ?_, c2, by omega, c4, c5, by show v ≤ 9; omega, fun w hw => ?_⟩
          rotate_left 2
          · obtain rfl := Option.some.inj hw
            obtain ⟨y1, y2, y3⟩ := hro hr
            exact ⟨c6, y1, by omega⟩
          · refine RQ_eq c1 ?_ ?_ (fun k => ?_) (fun k => ?_) <;> rw [pI_ne (by omega), pI_ne (by omega)]
          · refine clM_app hM ?_ (fun k hk => ?_) ?_ ?_ ?_
            · rw [pI_eq]
            · rw [pI_ne (by omega), pI_ne (by omega), hTo _ _ (by omega), hZo _ _ (by omega), hXo _ _ (by omega)]
            · rw [pI_ne (by omega), pI_ne (by omega), hTo _ _ (by omega), hZo _ _ (by omega), hX0]
            · rw [pI_ne (by omega), pI_ne (by omega), hTo _ _ (by omega), hZ1]; rfl
            · rw [pI_ne (by omega), pI_eq, hcd]
      · rw [if_neg hr, if_neg hr]
        dsimp only
        rw [if_pos rfl]
        exact ⟨T, w', u', by rw [if_neg hr], hZE.tr (eM9_of b2), by rw [hTo 145 19 (by omega), hZo _ _ (by omega), hXo _ _ (by omega)], fun q => absurd q hr⟩
    · rw [if_neg hw4, if_neg hw4]
      dsimp only
      rw [if_pos rfl, mS_ne (by omega), hXo 145 16 (by omega), r1, gI_o (by omega) (by omega), bd_some, mS_ne (by omega), hXo 148 x (by omega), r3, e2, sI_o (by omega) (by omega), bd_some, mS_p (by omega), mS_ne (by omega), pI_ne (by omega), hXo 145 16 (by omega), r1, gI_o (by omega) (by omega), bd_some, mS_ne (by omega), pI_ne (by omega), hXo 150 x (by omega), hM.1, o3_s, sI_o (by omega) (by omega), bd_some, mS_p (by omega)]
      refine ⟨_, 0, o3 v, by rw [if_pos rfl], (hXE.tr (eM9_pI (by unfold wM9; omega))).tr (eM9_pI (by unfold wM9; omega)), ?_, fun _ => ?_⟩
      · rw [pI_ne (by omega), pI_ne (by omega), hXo _ _ (by omega)]
      · have hcd : mcode (L ++ [(v, none)]) = mcode L := by rw [mcode_app]; exact List.append_nil _
        rw [hcd]
        refine ⟨?_, ?_, hq, by omega, hm, by omega, by show v ≤ 9; omega, fun w hw => nomatch hw⟩
        · refine RQ_eq hXR ?_ ?_ (fun k => ?_) (fun k => ?_) <;> rw [pI_ne (by omega), pI_ne (by omega)]
        · refine clM_app hM ?_ (fun k hk => ?_) ?_ ?_ ?_
          · rw [pI_eq]
          · rw [pI_ne (by omega), pI_ne (by omega), hXo _ _ (by omega)]
          · rw [pI_ne (by omega), pI_ne (by omega), hX0]
          · rw [pI_ne (by omega), pI_ne (by omega), hX1]; rfl
          · rw [pI_ne (by omega), pI_eq, hcd]
  · rw [if_neg hF, if_neg hF]
    dsimp only
    rw [if_pos rfl]
    exact ⟨S, o3 (nmp t n (j + 2)), u1, by rw [if_neg hF], eM9.rf, rfl, fun q => absurd q hF⟩
end MTO
end
section
/-! the reference's rule() -/
section FLB
variable {t : Nat → Int32} {n : Nat}
def okR (n : Nat) (r : TR) : Prop := r.1 ≤ 8 * n + 10 ∧ (r.1 = 0 → r.2.1 ≤ n)
theorem aft_fl {cp : Bool} {m i : Nat} {c : List (Nat × Nat)} {H : List Nat} {r : TR} (he : elH H) (hi : i ≤ n) (h : aft t n cp m c H i = .inl r) : okR n r := by
  have hj := sk_le (t := t) hi
  unfold aft at h
  generalize sk t n i = j at hj h
  by_cases hr : rk t n j = 0
  · rw [if_pos hr] at h
    by_cases hc : cp = true
    · rw [if_pos hc] at h
      obtain ⟨q1, q2, q3, q4, q5⟩ := clo_pr (n := n) (t := t) (brk H + 1) H j he (by omega) hj
      generalize clo t n (brk H + 1) j H = Q at h q1 q2 q3 q4 q5
      have hj2 := sk_le (t := t) q5
      generalize sk t n Q.2.1 = e at h hj2
      by_cases hn : jn t n e = 0
      · rw [if_pos hn] at h
        split at h
        · obtain rfl := Sum.inl.inj h; exact ⟨Nat.zero_le _, fun _ => hj2⟩
        · obtain rfl := Sum.inl.inj h; exact ⟨by show 1 + 8 * e ≤ _; omega, fun q => absurd q (show ¬ 1 + 8 * e = 0 by omega)⟩
      · rw [if_neg hn] at h; exact nomatch h
    · rw [if_neg hc] at h
      by_cases hm : cm t n j = 0
      · rw [if_pos hm] at h; obtain rfl := Sum.inl.inj h; exact ⟨by show 1 + 8 * j ≤ _; omega, fun q => absurd q (show ¬ 1 + 8 * j = 0 by omega)⟩
      · rw [if_neg hm] at h
        by_cases h6 : 60 ≤ m
        · rw [if_pos h6] at h; obtain rfl := Sum.inl.inj h; exact ⟨by show 1 + 8 * j + 3 ≤ _; omega, fun q => absurd q (show ¬ 1 + 8 * j + 3 = 0 by omega)⟩
        · rw [if_neg h6] at h; exact nomatch h
  · rw [if_neg hr] at h; exact nomatch h
theorem tval_fl {cp : Bool} {m i : Nat} {c : List (Nat × Nat)} {H : List Nat} {r : TR} (he : elH H) (hi : i ≤ n) (h : tval t n cp m c H i = .inl r) : okR n r := by
  have hj := sk_le (t := t) hi
  unfold tval at h
  by_cases hv : vlF t n m (sk t n i) = 0
  · rw [if_pos hv] at h
    obtain ⟨v1, v2, v3⟩ := vl_gt hj sk_id hv
    exact aft_fl he v2 h
  · rw [if_neg hv] at h; obtain rfl := Sum.inl.inj h; exact ⟨vl_fl hj, fun q => absurd q hv⟩
theorem stp_fl {x : TS} {r : TR} (hx : jT n x) (h : stp t n x = .inl r) : okR n r := by
  obtain ⟨due, cp, m, c, H, i⟩ := x
  obtain ⟨he, hd, hi⟩ := hx
  dsimp only at he hd hi
  unfold stp at h
  dsimp only at h
  by_cases hu : due = true
  · rw [if_pos hu] at h
    have hp := opn_pr (t := t) (n := n) (11 - dep H) i H hi hd
    have hf := opn_fl (t := t) (n := n) (11 - dep H) i H hi
    generalize opn t n (11 - dep H) i H = Q at h hp hf
    by_cases hq : Q.1 = 0
    · rw [if_pos hq] at h
      obtain ⟨P, p1, p2, p3, p4, p5, p6⟩ := hp hq
      exact tval_fl (H := Q.2.2) (fun z hz => by
        rw [p1] at hz
        rcases List.mem_append.mp hz with hz | hz
        · have := p2 z hz; omega
        · exact he z hz) p5 h
    · rw [if_neg hq] at h; obtain rfl := Sum.inl.inj h; exact ⟨hf, fun q => absurd q hq⟩
  · rw [if_neg hu] at h
    exact tval_fl he hi h
theorem run_fl : ∀ F (x : TS), jT n x → okR n (run t n F x) := by
  intro F
  induction F with
  | zero => intro x _; exact ⟨by show 1 ≤ _; omega, fun q => absurd q (by show ¬ 1 = 0; omega)⟩
  | succ F ih =>
    intro x hx
    rw [run_s]
    cases hs : stp t n x with
    | inl r => exact stp_fl hx hs
    | inr y => exact ih y (stp_J hx hs).1
theorem rcl_ok {k m i : Nat} (hi : i ≤ n) : (rcl t n k m i).1 ≤ 8 * n + 10 ∧ ((rcl t n k m i).1 = 0 → (rcl t n k m i).2.1 ≤ n) := by
  have hj := sk_le (t := t) hi
  unfold rcl
  by_cases hw : wat t n (mm_sb.getD 3 []) (sk t n i) = true
  · have hll : ll t n (sk t n i) = 2 := ((wat_ll (t := t) (n := n) _ _ (mw_L 3 (by decide))).mp hw).1
    have h2 := ll_le (t := t) (n := n) _ (sk t n i) rfl hj
    rw [hll] at h2
    rw [if_pos hw]
    by_cases hk : 12 ≤ k
    · rw [if_pos hk]; exact ⟨by show 1 + 8 * _ + 4 ≤ _; omega, fun q => absurd q (show ¬ 1 + 8 * sk t n i + 4 = 0 by omega)⟩
    rw [if_neg hk]
    have p2 := nmp_le (t := t) h2
    by_cases hF : nmf t n (sk t n i + 2) 0 9 = 0
    · rw [if_pos hF]
      have hq := sk_le (t := t) p2
      by_cases hw4 : wat t n (mm_sb.getD 4 []) (sk t n (nmp t n (sk t n i + 2))) = true
      · have hl4 := ((wat_ll (t := t) (n := n) _ _ (mw_L 4 (by decide))).mp hw4).1
        have h4 := ll_le (t := t) (n := n) _ _ rfl hq
        rw [hl4, show (mm_sb.getD 4 []).length = 2 from rfl] at h4
        have := run_fl (t := t) (n := n) (n + 1) (true, false, m, [], [], sk t n (nmp t n (sk t n i + 2)) + 2) ⟨fun y hy => absurd hy List.not_mem_nil, by show 0 ≤ 10; omega, h4⟩
        rw [if_pos hw4]
        split
        · rename_i q; exact ⟨Nat.zero_le _, fun _ => this.2 q⟩
        · rename_i q; exact ⟨this.1, fun z => absurd z q⟩
      · rw [if_neg hw4]; exact ⟨Nat.zero_le _, fun _ => hq⟩
    · rw [if_neg hF]
      have := nmf_le (t := t) (lo := 0) (hi := 9) h2
      exact ⟨by show nmf t n _ 0 9 ≤ _; omega, fun q => absurd q hF⟩
  · rw [if_neg hw]; exact ⟨by show 1 + 8 * _ ≤ _; omega, fun q => absurd q (show ¬ 1 + 8 * sk t n i = 0 by omega)⟩
theorem rall_fl : ∀ f k m i L, i ≤ n → (rall t n f k m i L).1 ≤ 8 * n + 10 := by
  intro f
  induction f with
  | zero => intro k m i L _; show 1 ≤ _; omega
  | succ f ih =>
    intro k m i L hi
    rw [rall_s]
    by_cases h : (rcl t n k m i).1 = 0
    · rw [if_pos h]
      have hp := (rcl_ok hi).2 h
      have hq := sk_le (t := t) hp
      split
      · split
        · exact ih _ _ _ _ (by omega)
        · show 1 + 8 * _ ≤ _; omega
      · exact Nat.zero_le _
    · rw [if_neg h]; exact (rcl_ok hi).1
end FLB
/-- behind a clause -/
def rl (t : Nat → Int32) (n d k m i : Nat) (L L0 : List Cl) : Nat × List Cl := if sk t n i < n then (if t (sk t n i) = 59 then rall t n d k m (sk t n i + 1) L else (1 + 8 * sk t n i, L0)) else (0, L)
theorem rall_rl {t : Nat → Int32} {n d k m i : Nat} {L : List Cl} : rall t n (d + 1) k m i L = if (rcl t n k m i).1 = 0 then rl t n d (k + 1) (rcl t n k m i).2.2.1 (rcl t n k m i).2.1 (L ++ [(rcl t n k m i).2.2.2]) L else ((rcl t n k m i).1, L) := rfl
section MR8
variable {t : Nat → Int32} {n x : Nat}
theorem mr_clause (hl : n ≤ 400) (hx : x < 6) (hb : ∀ k, byt (t k)) {i m : Nat} {L : List Cl} {S : fS} {u : Int32} (hn : S.1 145 1 = o3 n) (ht : S.1 146 = t) (hR : RQ S x m (mcode L)) (hM : clM S x L) (h19 : S.1 145 19 = o3 L.length) (hm : m ≤ 60) (hk : L.length ≤ 12) (hc : (mcode L).length ≤ i) (hi : i ≤ n) : ∃ T w' u', f_X11_clauseHere (mS S (o3 i) 0 u) = some (if (rcl t n L.length m i).1 = 0 then (1, mS T (o3 (rcl t n L.length m i).2.1) 0 u') else (0, mS T w' (o3 (rcl t n L.length m i).1) u')) ∧ eM9 x S T ∧ ((rcl t n L.length m i).1 = 0 → RQ T x (rcl t n L.length m i).2.2.1 (mcode (L ++ [(rcl t n L.length m i).2.2.2])) ∧ clM T x (L ++ [(rcl t n L.length m i).2.2.2]) ∧ T.1 145 19 = o3 (L.length + 1) ∧ (rcl t n L.length m i).2.1 ≤ n ∧ i < (rcl t n L.length m i).2.1 ∧ (rcl t n L.length m i).2.2.1 ≤ 60 ∧ (mcode (L ++ [(rcl t n L.length m i).2.2.2])).length ≤ (rcl t n L.length m i).2.1 ∧ L.length < 12 ∧ okCl (rcl t n L.length m i).2.2.2) := by
  have hj := sk_le (t := t) hi
  have hid := sk_id (t := t) (n := n) (i := i)
  unfold f_X11_clauseHere
  rw [mt_see hn hl hi, bd_some, ht]
  dsimp only
  rw [mS_ne (by omega), hR.1, if_neg (show ¬ o3 x = (6 : Int32) from fun q => by have := (o3_inj (b := 6) (by omega) (by omega)).mp q; omega), mS_13]
  unfold j_X11_clauseHere_24
  rw [if_pos rfl, mr_word hn hl 29807 3 (by decide) (by decide) hj, bd_some, ht, hid]
  unfold j_X11_clauseHere_74
  dsimp only
  by_cases hw : wat t n (mm_sb.getD 3 []) (sk t n i) = true
  · rw [if_pos hw, if_neg (show ¬ (1 : Int32) = 0 by decide), if_pos rfl]
    unfold j_X11_clauseHere_101
    rw [mS_ne (by omega), h19]
    by_cases h12 : L.length = 12
    · have e : rcl t n L.length m i = (1 + 8 * sk t n i + 4, 0, 0, (0, none)) := by unfold rcl; rw [if_pos hw, if_pos (by omega)]
      rw [if_pos (show o3 L.length = (12 : Int32) by rw [h12]; rfl), mt_fails mS_14, bd_some, mS_wr, show (8 : Int32) = o3 8 from rfl, show (1 : Int32) = o3 1 from rfl, show (4 : Int32) = o3 4 from rfl, o3_mul, o3_add, o3_add, e]
      refine ⟨S, o3 (sk t n i), u, ?_, eM9.rf, fun q => absurd q (show ¬ 1 + 8 * sk t n i + 4 = 0 by omega)⟩
      rw [if_neg (show ¬ 1 + 8 * sk t n i + 4 = 0 by omega)]
      rfl
    · rw [if_neg (show ¬ o3 L.length = (12 : Int32) from fun q => h12 ((o3_inj (b := 12) (by omega) (by omega)).mp q)), bd_some, o3_s, mS_p (by omega), if_pos rfl]
      have hE : eM9 x S (pI S 145 19 (o3 (L.length + 1))) := eM9_pI (by unfold wM9; omega)
      have hR1 : RQ (pI S 145 19 (o3 (L.length + 1))) x m (mcode L) := by
        refine RQ_eq hR ?_ ?_ (fun k => ?_) (fun k => ?_) <;> rw [pI_ne (by omega)]
      have hM1 : clM (pI S 145 19 (o3 (L.length + 1))) x L := clM_eq hM (by rw [pI_ne (by omega)]) (fun k _ => by rw [pI_ne (by omega)])
      obtain ⟨T, w', u', a1, a2, a3, a4⟩ := mb_to (u := u) hl hx hb ((eM9_1 hE).trans hn) ((eM9_t hE).trans ht) hR1 hM1 hm (by omega) hc hi hw
      rw [pI_eq] at a3
      rw [a1, bd_some]
      by_cases hF : (rcl t n L.length m i).1 = 0
      · rw [if_pos hF]
        refine ⟨T, w', u', by rw [if_pos hF]; rfl, hE.tr a2, fun _ => ?_⟩
        obtain ⟨b1, b2, b3, b4, b5, b6, b7⟩ := a4 hF
        exact ⟨b1, b2, a3, b3, b4, b5, b6, by omega, b7⟩
      · rw [if_neg hF]
        exact ⟨T, w', u', by rw [if_neg hF]; rfl, hE.tr a2, fun q => absurd q hF⟩
  · have e : rcl t n L.length m i = (1 + 8 * sk t n i, 0, 0, (0, none)) := by unfold rcl; rw [if_neg hw]
    rw [if_neg hw, if_pos rfl, mt_fails mS_14, bd_some, mS_wr, show (8 : Int32) = o3 8 from rfl, show (1 : Int32) = o3 1 from rfl, show (0 : Int32) = o3 0 from rfl, o3_mul, o3_add, o3_add, e]
    refine ⟨S, o3 (sk t n i), u, ?_, eM9.rf, fun q => absurd q (show ¬ 1 + 8 * sk t n i = 0 by omega)⟩
    rw [if_neg (show ¬ 1 + 8 * sk t n i = 0 by omega)]
    rfl
def okRu (L : List Cl) : Prop := ∀ q ∈ L, okCl q
theorem okRu_app {L : List Cl} {q : Cl} (h : okRu L) (hq : okCl q) : okRu (L ++ [q]) := fun z hz => by
  rcases List.mem_append.mp hz with hz | hz
  · exact h z hz
  · rw [List.mem_singleton] at hz; rw [hz]; exact hq
def rEnd (n x : Nat) (t : Nat → Int32) (r : Nat × List Cl) (g : Int32) (T : fS) (i' w' : Int32) : Prop :=
  (r.1 = 0 ∧ g = 1 ∧ w' = 0 ∧ (∃ j, i' = o3 j ∧ ¬ j < n ∧ j ≤ n) ∧ clM T x r.2 ∧ r.2.length ≤ 12 ∧ okRu r.2 ∧ ∃ m, RQ T x m (mcode r.2) ∧ (mcode r.2).length ≤ n) ∨ (r.1 ≠ 0 ∧ g = 0 ∧ w' = o3 r.1) ∨ (∃ j, r.1 = 1 + 8 * j ∧ g = 1 ∧ w' = 0 ∧ i' = o3 j ∧ j < n ∧ sk t n j = j)
theorem mr_loop (hl : n ≤ 400) (hx : x < 6) (hb : ∀ k, byt (t k)) {K : Int32 → fS → Option (Int32 × fS)} : ∀ d L L0 m nn (S : fS) (i : Nat) (u : Int32), S.1 145 1 = o3 n → S.1 146 = t → RQ S x m (mcode L) → clM S x L → S.1 145 19 = o3 L.length → m ≤ 60 → (mcode L).length ≤ i → i ≤ n → L.length + d = 12 → d + 1 < nn → okRu L → ∃ T u' i' w' g, lp_X11_readsAll_35 K nn 1 (mS S (o3 i) 0 u) = K g (mS T i' w' u') ∧ eM9 x S T ∧ rEnd n x t (rl t n (d + 1) L.length m i L L0) g T i' w' := by
  intro d
  induction d with
  | zero =>
    intro L L0 m nn S i u hn ht hR hM h19 hm hc hi hd hnn hok
    obtain ⟨nn, rfl⟩ : ∃ k, nn = k + 1 := ⟨nn - 1, by omega⟩
    have hj := sk_le (t := t) hi
    have hg := sk_ge (t := t) (n := n) (i := i)
    rw [lp_X11_readsAll_35.eq_2, if_neg (show ¬ (1 : Int32) = 0 by decide), mt_see hn hl hi, bd_some, ht]
    dsimp only
    unfold rl
    by_cases h59 : sk t n i < n ∧ t (sk t n i) = 59
    · rw [if_pos ((seen_eq hb (by decide) (by decide)).mpr h59), bd_some, mS_nx, mS_13, o3_s, if_pos h59.1, if_pos h59.2, rall_rl]
      obtain ⟨T, w', u', a1, a2, a3⟩ := mr_clause (u := u) hl hx hb hn ht hR hM h19 hm (by omega) (show (mcode L).length ≤ sk t n i + 1 by omega) (by omega)
      have hz : ¬ (rcl t n L.length m (sk t n i + 1)).1 = 0 := fun q => by have := (a3 q).2.2.2.2.2.2.2.1; omega
      obtain ⟨nn, rfl⟩ : ∃ k, nn = k + 1 := ⟨nn - 1, by omega⟩
      rw [a1, bd_some, if_neg hz, if_neg hz]
      dsimp only
      rw [lp_X11_readsAll_35.eq_2, if_pos (show (0 : Int32) = 0 from rfl)]
      exact ⟨T, u', w', _, 0, rfl, a2, Or.inr (Or.inl ⟨hz, rfl, rfl⟩)⟩
    · rw [if_neg (fun q => h59 ((seen_eq hb (by decide) (by decide)).mp q))]
      refine ⟨S, u, _, 0, 1, rfl, eM9.rf, ?_⟩
      by_cases h1 : sk t n i < n
      · rw [if_pos h1, if_neg (fun q => h59 ⟨h1, q⟩)]
        exact Or.inr (Or.inr ⟨sk t n i, rfl, rfl, rfl, rfl, h1, sk_id⟩)
      · rw [if_neg h1]
        exact Or.inl ⟨rfl, rfl, rfl, ⟨_, rfl, h1, hj⟩, hM, by show L.length ≤ 12; omega, hok, m, hR, by show (mcode L).length ≤ n; omega⟩
  | succ d ih =>
    intro L L0 m nn S i u hn ht hR hM h19 hm hc hi hd hnn hok
    obtain ⟨nn, rfl⟩ : ∃ k, nn = k + 1 := ⟨nn - 1, by omega⟩
    have hj := sk_le (t := t) hi
    have hg := sk_ge (t := t) (n := n) (i := i)
    rw [lp_X11_readsAll_35.eq_2, if_neg (show ¬ (1 : Int32) = 0 by decide), mt_see hn hl hi, bd_some, ht]
    dsimp only
    rw [show rl t n (d + 1 + 1) L.length m i L L0 = if sk t n i < n then (if t (sk t n i) = 59 then rall t n (d + 1 + 1) L.length m (sk t n i + 1) L else (1 + 8 * sk t n i, L0)) else (0, L) from rfl]
    by_cases h59 : sk t n i < n ∧ t (sk t n i) = 59
    · rw [if_pos ((seen_eq hb (by decide) (by decide)).mpr h59), bd_some, mS_nx, mS_13, o3_s, if_pos h59.1, if_pos h59.2, rall_rl]
      obtain ⟨T, w', u', a1, a2, a3⟩ := mr_clause (u := u) hl hx hb hn ht hR hM h19 hm (by omega) (show (mcode L).length ≤ sk t n i + 1 by omega) (by omega)
      rw [a1, bd_some]
      by_cases hz : (rcl t n L.length m (sk t n i + 1)).1 = 0
      · obtain ⟨b1, b2, b3, b4, b5, b6, b7, b8, b9⟩ := a3 hz
        rw [if_pos hz, if_pos hz]
        dsimp only
        obtain ⟨T2, u2, i2, w2, g2, e2, f2, m2⟩ := ih (L ++ [(rcl t n L.length m (sk t n i + 1)).2.2.2]) L _ nn T _ u' ((eM9_1 a2).trans hn) ((eM9_t a2).trans ht) b1 b2 (by rw [b3, ln_app]) b6 b7 b4 (by rw [ln_app]; omega) (by omega) (okRu_app hok b9)
        rw [ln_app] at m2
        exact ⟨T2, u2, i2, w2, g2, e2, a2.tr f2, m2⟩
      · rw [if_neg hz, if_neg hz]
        dsimp only
        obtain ⟨nn, rfl⟩ : ∃ k, nn = k + 1 := ⟨nn - 1, by omega⟩
        rw [lp_X11_readsAll_35.eq_2, if_pos (show (0 : Int32) = 0 from rfl)]
        exact ⟨T, u', w', _, 0, rfl, a2, Or.inr (Or.inl ⟨hz, rfl, rfl⟩)⟩
    · rw [if_neg (fun q => h59 ((seen_eq hb (by decide) (by decide)).mp q))]
      refine ⟨S, u, _, 0, 1, rfl, eM9.rf, ?_⟩
      by_cases h1 : sk t n i < n
      · rw [if_pos h1, if_neg (fun q => h59 ⟨h1, q⟩)]
        exact Or.inr (Or.inr ⟨sk t n i, rfl, rfl, rfl, rfl, h1, sk_id⟩)
      · rw [if_neg h1]
        exact Or.inl ⟨rfl, rfl, rfl, ⟨_, rfl, h1, hj⟩, hM, by show L.length ≤ 12; omega, hok, m, hR, by show (mcode L).length ≤ n; omega⟩
end MR8
theorem rd_3 {X Y : fS} (e : f_X11_see X = some (-1, Y)) (h16 : Y.1 145 16 ≠ 6) (hw : Y.1 145 14 = 0) : rdK 1 X = some (1, pI Y 145 1 0) := by
  unfold rdK
  rw [if_neg (show ¬ (1 : Int32) = 0 by decide), e, bd_some]
  dsimp only
  rw [if_pos (show (-1 : Int32) = -1 from rfl), if_neg (show ¬ (1 : Int32) = 0 by decide), if_neg h16, bd_some, pI_ne (by omega), if_pos hw]
/-- what rule() may write, text x -/
def wV (x a k : Nat) : Prop := wM9 x a k ∨ (a = 145 ∧ (k = 1 ∨ k = 13 ∨ k = 14 ∨ k = 15))
def eV (x : Nat) (S T : fS) : Prop := (∀ a k, ¬ wV x a k → T.1 a k = S.1 a k) ∧ T.2 = S.2
theorem eV.tr {x : Nat} {S T U : fS} (h : eV x S T) (g : eV x T U) : eV x S U := ⟨fun a k n => (g.1 a k n).trans (h.1 a k n), g.2.trans h.2⟩
theorem eV_of {x : Nat} {S T : fS} (h : eM9 x S T) : eV x S T := ⟨fun a k n => h.1 a k (fun q => n (Or.inl q)), h.2⟩
theorem eV_pI {x : Nat} {S : fS} {a k : Nat} {y : Int32} (h : wV x a k) : eV x S (pI S a k y) := ⟨fun b j n => by
  rw [pI_get]
  by_cases q : b = a ∧ j = k
  · exact absurd (q.1 ▸ q.2 ▸ h) n
  · rw [if_neg q], rfl⟩
theorem eV_mS {x : Nat} {S : fS} {i w u : Int32} : eV x S (mS S i w u) := by
  unfold mS
  exact ((eV_pI (by unfold wV; omega)).tr (eV_pI (by unfold wV; omega))).tr (eV_pI (by unfold wV; omega))
/-- a rule as the reference holds it, text x -/
def cdM (S : fS) (x : Nat) (L : List Cl) : Prop := clM S x L ∧ L.length ≤ 12 ∧ S.1 148 x = o3 (mcode L).length ∧ (mcode L).length ≤ 400 ∧ okRu L ∧ ∀ k, k < (mcode L).length → S.1 147 (400 * x + k) = sgM ((mcode L).getD k (0, 0))
theorem m_rreads {S : fS} {n x : Nat} (hn : S.1 145 1 = o3 n) (hl : n ≤ 400) (hb : ∀ k, byt (S.1 146 k)) (hx : x < 6) (h16 : S.1 145 16 = o3 x) (h150 : S.1 150 x = 0) : ∃ Y, f_X11_readsAll S = some (if (ru0 (S.1 146) n).1 = 0 then 1 else 0, Y) ∧ Y.1 145 1 = 0 ∧ ((ru0 (S.1 146) n).1 = 0 → cdM Y x (ru0 (S.1 146) n).2) ∧ (¬ (ru0 (S.1 146) n).1 = 0 → Y.1 145 14 = o3 (ru0 (S.1 146) n).1) ∧ eV x S Y := by
  rw [rd_eq, h16, sI_o (by omega) (by omega), bd_some, bd_some, bd_some, bd_some, bd_some]
  rw [mS_mk, mS_p (by omega)]
  generalize hX : pI (pI (pI S 148 x 0) 145 19 0) 145 17 0 = X
  generalize hu : (pI (pI S 148 x 0) 145 19 0).1 145 15 = u
  have hD0 : eM9 x S X := by
    rw [← hX]
    exact ((eM9_pI (by unfold wM9 wMr; omega)).tr (eM9_pI (by unfold wM9; omega))).tr (eM9_pI (by unfold wM9 wMr; omega))
  have hXn : X.1 145 1 = o3 n := (eM9_1 hD0).trans hn
  have hXt : X.1 146 = S.1 146 := eM9_t hD0
  have hXR : RQ X x 0 (mcode []) := by
    rw [← hX]
    refine ⟨?_, ?_, ?_, fun k hk => absurd hk (Nat.not_lt_zero _)⟩
    · rw [pI_ne (by omega), pI_ne (by omega), pI_ne (by omega)]; exact h16
    · rw [pI_eq]; rfl
    · rw [pI_ne (by omega), pI_ne (by omega), pI_eq]; rfl
  have hXM : clM X x [] := by
    rw [← hX]
    refine ⟨?_, fun k hk => absurd hk (Nat.not_lt_zero _)⟩
    rw [pI_ne (by omega), pI_ne (by omega), pI_ne (by omega)]; exact h150
  have hX19 : X.1 145 19 = o3 0 := by rw [← hX, pI_ne (by omega), pI_eq]; rfl
  obtain ⟨S1, w1, u1, e1, f1, g1⟩ := mr_clause (u := u) hl hx hb hXn hXt hXR hXM hX19 (by omega) (by show 0 ≤ 12; omega) (by show 0 ≤ 0; omega) (i := 0) (by omega)
  have e1' : f_X11_clauseHere (mS X 0 0 u) = some (if (rcl (S.1 146) n 0 0 0).1 = 0 then (1, mS S1 (o3 (rcl (S.1 146) n 0 0 0).2.1) 0 u1) else (0, mS S1 w1 (o3 (rcl (S.1 146) n 0 0 0).1) u1)) := e1
  rw [e1', bd_some]
  have hru : ru0 (S.1 146) n = if (rcl (S.1 146) n 0 0 0).1 = 0 then rl (S.1 146) n 12 1 (rcl (S.1 146) n 0 0 0).2.2.1 (rcl (S.1 146) n 0 0 0).2.1 ([] ++ [(rcl (S.1 146) n 0 0 0).2.2.2]) [] else ((rcl (S.1 146) n 0 0 0).1, []) := rfl
  have g1 : (rcl (S.1 146) n 0 0 0).1 = 0 → RQ S1 x (rcl (S.1 146) n 0 0 0).2.2.1 (mcode ([] ++ [(rcl (S.1 146) n 0 0 0).2.2.2])) ∧ clM S1 x ([] ++ [(rcl (S.1 146) n 0 0 0).2.2.2]) ∧ S1.1 145 19 = o3 (0 + 1) ∧ (rcl (S.1 146) n 0 0 0).2.1 ≤ n ∧ 0 < (rcl (S.1 146) n 0 0 0).2.1 ∧ (rcl (S.1 146) n 0 0 0).2.2.1 ≤ 60 ∧ (mcode ([] ++ [(rcl (S.1 146) n 0 0 0).2.2.2])).length ≤ (rcl (S.1 146) n 0 0 0).2.1 ∧ 0 < 12 ∧ okCl (rcl (S.1 146) n 0 0 0).2.2.2 := g1
  have bad : ∀ (S2 : fS) (i2 u2 : Int32) (r : Nat), r ≠ 0 → r ≤ 8 * n + 10 → eM9 x S S2 → rdK 0 (mS S2 i2 (o3 r) u2) = some (0, pI (mS S2 i2 (o3 r) u2) 145 1 0) ∧ (pI (mS S2 i2 (o3 r) u2) 145 1 0).1 145 14 = o3 r ∧ eV x S (pI (mS S2 i2 (o3 r) u2) 145 1 0) := by
    intro S2 i2 u2 r h0 hr hD
    refine ⟨?_, ?_, ((eV_of hD).tr eV_mS).tr (eV_pI (by unfold wV; omega))⟩
    · rw [rd_0, mS_14, if_neg (o3_ne0 (by omega) h0)]
    · rw [pI_ne (by omega), mS_14]
  have hzf : (rcl (S.1 146) n 0 0 0).1 ≤ 8 * n + 10 := (rcl_ok (Nat.zero_le _)).1
  by_cases hz : (rcl (S.1 146) n 0 0 0).1 = 0
  · rw [if_pos hz]
    rw [if_pos hz] at hru
    dsimp only
    obtain ⟨b1, b2, b3, b4, b5, b6, b7, b8, b9⟩ := g1 hz
    obtain ⟨S2, u2, i2, w2, g2, e2, f2, m2⟩ := mr_loop hl hx hb (K := rdK) 11 _ [] _ FU S1 _ u1 ((eM9_1 f1).trans hXn) ((eM9_t f1).trans hXt) b1 b2 b3 b6 b7 b4 (by show 1 + 11 = 12; omega) (FU_lt (by omega)) (okRu_app (fun z hz => absurd hz List.not_mem_nil) b9)
    have m2 : rEnd n x (S.1 146) (rl (S.1 146) n 12 1 (rcl (S.1 146) n 0 0 0).2.2.1 (rcl (S.1 146) n 0 0 0).2.1 ([] ++ [(rcl (S.1 146) n 0 0 0).2.2.2]) []) g2 S2 i2 w2 := m2
    rw [e2]
    rw [← hru] at m2
    have hD2 : eM9 x S S2 := hD0.tr (f1.tr f2)
    have hn2 : S2.1 145 1 = o3 n := (eM9_1 hD2).trans hn
    have ht2 : S2.1 146 = S.1 146 := eM9_t hD2
    rcases m2 with ⟨r0, rfl, rfl, ⟨j, rfl, hj1, hj2⟩, hM, h12, hok, mm, hRQ, hmc⟩ | ⟨r0, rfl, rfl⟩ | ⟨j, r0, rfl, rfl, rfl, hj1, hj2⟩
    · have hsee := mt_see (w := 0) (u := u2) hn2 hl (i := j) hj2
      have hsk := sk_ge (t := S2.1 146) (n := n) (i := j)
      rw [(seen_no (by rw [ht2]; exact hb)).mpr (by omega)] at hsee
      rw [rd_3 hsee (by rw [mS_ne (by omega), hRQ.1]; exact fun q => by have := (o3_inj (b := 6) (by omega) (by omega)).mp q; omega) (by rw [mS_14]), if_pos r0]
      refine ⟨_, rfl, by rw [pI_eq], fun _ => ⟨clM_eq hM (by rw [pI_ne (by omega), mS_ne (by omega)]) (fun k _ => by rw [pI_ne (by omega), mS_ne (by omega)]), h12, ?_, by omega, hok, fun k hk => ?_⟩, fun q => absurd r0 q, ((eV_of hD2).tr eV_mS).tr (eV_pI (by unfold wV; omega))⟩
      · rw [pI_ne (by omega), mS_ne (by omega)]; exact hRQ.2.2.1
      · rw [pI_ne (by omega), mS_ne (by omega)]; exact hRQ.2.2.2 k hk
    · have hfl : (ru0 (S.1 146) n).1 ≤ 8 * n + 10 := rall_fl 13 0 0 0 [] (Nat.zero_le _)
      obtain ⟨b1, b2, b3⟩ := bad S2 i2 u2 _ r0 hfl hD2
      rw [b1, if_neg r0]
      exact ⟨_, rfl, by rw [pI_eq], fun q => absurd q r0, fun _ => b2, b3⟩
    · have hsee := mt_see (w := 0) (u := u2) hn2 hl (i := j) (by omega)
      rw [ht2, hj2] at hsee
      have r1 : ¬ (ru0 (S.1 146) n).1 = 0 := by rw [r0]; omega
      have hval : (1 + 8 * o3 j + 0 : Int32) = o3 (1 + 8 * j) := by rw [show (1 : Int32) = o3 1 from rfl, show (8 : Int32) = o3 8 from rfl, show (0 : Int32) = o3 0 from rfl, o3_mul, o3_add, o3_add]; rfl
      rw [rd_1 hsee (fun q => (seen_no hb).mp q hj1) (by rw [mS_14]), mS_13, hval, if_neg (o3_ne0 (by omega) (by omega)), if_neg r1]
      refine ⟨_, rfl, by rw [pI_eq], fun q => absurd q r1, fun _ => ?_, (((eV_of hD2).tr eV_mS).tr (eV_pI (by unfold wV; omega))).tr (eV_pI (by unfold wV; omega))⟩
      rw [pI_ne (by omega), pI_eq, r0]
  · rw [if_neg hz]
    rw [if_neg hz] at hru
    dsimp only
    obtain ⟨mm, hF⟩ := op_FU
    rw [hF, lp_X11_readsAll_35.eq_2, if_pos (show (0 : Int32) = 0 from rfl), hru]
    obtain ⟨b1, b2, b3⟩ := bad S1 w1 u1 _ hz hzf (hD0.tr f1)
    rw [b1, if_neg hz]
    exact ⟨_, rfl, by rw [pI_eq], fun q => absurd q hz, fun _ => b2, b3⟩
theorem m_rule {S : fS} {n r : Nat} (hn : S.1 145 1 = o3 n) (hl : n ≤ 400) (hb : ∀ k, byt (S.1 146 k)) (hr : S.1 145 2 = o3 r) (h6 : r ≤ 6) : ∃ Y, f_X11_rule S = some (if r = 6 then -1 else if (ru0 (S.1 146) n).1 = 0 then o3 r else -2 - o3 (ru0 (S.1 146) n).1, Y) ∧ (r = 6 → Y = S) ∧ (r < 6 → Y.1 145 1 = 0 ∧ (∀ a k, ¬ wV r a k → ¬ (a = 145 ∧ (k = 2 ∨ k = 16)) → Y.1 a k = S.1 a k) ∧ Y.2 = S.2 ∧ (¬ (ru0 (S.1 146) n).1 = 0 → Y.1 145 2 = o3 r) ∧ ((ru0 (S.1 146) n).1 = 0 → Y.1 145 2 = o3 (r + 1) ∧ cdM Y r (ru0 (S.1 146) n).2)) := by
  unfold f_X11_rule
  rw [hr]
  by_cases hr6 : r = 6
  · rw [if_pos (show o3 r = (6 : Int32) by rw [hr6]; rfl), if_pos hr6]
    exact ⟨S, rfl, fun _ => rfl, fun q => by omega⟩
  · rw [if_neg (show ¬ o3 r = (6 : Int32) from fun q => hr6 ((o3_inj (b := 6) (by omega) (by omega)).mp q)), if_neg hr6, bd_some, pI_eq, sI_o (by omega) (by omega), bd_some]
    generalize hX : pI (pI S 145 16 (o3 r)) 150 r 0 = X
    have hXo : ∀ a k, ¬ (a = 145 ∧ k = 16) → ¬ (a = 150 ∧ k = r) → X.1 a k = S.1 a k := fun a k h1 h2 => by rw [← hX, pI_ne h2, pI_ne h1]
    have hX2 : X.2 = S.2 := by rw [← hX]; rfl
    have hXt : X.1 146 = S.1 146 := funext fun k => hXo 146 k (by omega) (by omega)
    obtain ⟨Y, e1, e2, e3, e4, e5⟩ := m_rreads (S := X) (n := n) (x := r) (by rw [hXo _ _ (by omega) (by omega)]; exact hn) hl (by rw [hXt]; exact hb) (by omega) (by rw [← hX, pI_ne (by omega), pI_eq]) (by rw [← hX, pI_eq])
    rw [hXt] at e1 e3 e4
    have hY2 : Y.1 145 2 = o3 r := by rw [e5.1 145 2 (by unfold wV wM9 wMr; omega), hXo _ _ (by omega) (by omega)]; exact hr
    rw [e1, bd_some]
    dsimp only
    by_cases hz : (ru0 (S.1 146) n).1 = 0
    · rw [if_pos hz, if_pos hz, if_neg (show ¬ (1 : Int32) = 0 by decide), bd_some, hY2, o3_s, pI_eq, show (1 : Int32) = o3 1 from rfl, o3_sub (by omega), show r + 1 - 1 = r by omega]
      refine ⟨_, rfl, fun q => absurd q hr6, fun _ => ⟨by rw [pI_ne (by omega)]; exact e2, fun a k h1 h2 => ?_, e5.2.trans hX2, fun q => absurd hz q, fun _ => ⟨pI_eq, ?_⟩⟩⟩
      · rw [pI_ne (by omega), e5.1 a k h1, hXo a k (by omega) (fun q => h1 (by unfold wV wM9; omega))]
      · obtain ⟨d1, d2, d3, d4, d5, d6⟩ := e3 hz
        exact ⟨clM_eq d1 (by rw [pI_ne (by omega)]) (fun k _ => by rw [pI_ne (by omega)]), d2, by rw [pI_ne (by omega)]; exact d3, d4, d5, fun k hk => by rw [pI_ne (by omega)]; exact d6 k hk⟩
    · rw [if_neg hz, if_neg hz, if_pos (show (0 : Int32) = 0 from rfl), e4 hz]
      exact ⟨Y, rfl, fun q => absurd q hr6, fun _ => ⟨e2, fun a k h1 h2 => by rw [e5.1 a k h1, hXo a k (by omega) (fun q => h1 (by unfold wV wM9; omega))], e5.2.trans hX2, fun _ => hY2, fun q => absurd q hz⟩⟩
end
section
/-! the worth of a test -/
theorem o3_and {x p : Nat} (hx : x < 2147483648) (hp : p < 31) : o3 x &&& o3 (2 ^ p - 1) = o3 (x % 2 ^ p) := by
  have hpp : 2 ^ p ≤ 2 ^ 30 := Nat.pow_le_pow_right (by omega) (by omega)
  have h0 : 0 < 2 ^ p := Nat.two_pow_pos p
  have hm : x % 2 ^ p < 2 ^ p := Nat.mod_lt _ h0
  apply Int32.toBitVec_inj.mp
  rw [Int32.toBitVec_and]
  apply BitVec.eq_of_toNat_eq
  have e1 : (o3 x).toBitVec = BitVec.ofNat 32 x := rfl
  have e2 : (o3 (2 ^ p - 1)).toBitVec = BitVec.ofNat 32 (2 ^ p - 1) := rfl
  have e3 : (o3 (x % 2 ^ p)).toBitVec = BitVec.ofNat 32 (x % 2 ^ p) := rfl
  rw [e1, e2, e3, BitVec.toNat_and, BitVec.toNat_ofNat, BitVec.toNat_ofNat, BitVec.toNat_ofNat, Nat.mod_eq_of_lt (show x < 2 ^ 32 by omega), Nat.mod_eq_of_lt (show 2 ^ p - 1 < 2 ^ 32 by omega), Nat.mod_eq_of_lt (show x % 2 ^ p < 2 ^ 32 by omega), Nat.and_two_pow_sub_one_eq_mod]
theorem o3_shr {x : Nat} {b : Int32} {p : Nat} (hx : x < 2147483648) (hb : b.toBitVec.smod 32 = BitVec.ofNat 32 p) (hp : p < 32) : o3 x >>> b = o3 (x / 2 ^ p) := by
  have hd : x / 2 ^ p ≤ x := Nat.div_le_self _ _
  rw [ni_eq, o3_int (by omega)]
  have e : (o3 x >>> b).toInt = (((o3 x).toBitVec).sshiftRight p).toInt := by
    show ((o3 x >>> b).toBitVec).toInt = _
    rw [Int32.toBitVec_shiftRight, hb, BitVec.sshiftRight_eq', BitVec.toNat_ofNat, Nat.mod_eq_of_lt (show p < 2 ^ 32 by omega)]
  rw [e, BitVec.toInt_sshiftRight]
  have e1 : ((o3 x).toBitVec).toInt = (x : Int) := o3_int hx
  rw [e1, Int.shiftRight_eq_div_pow]
  rfl
theorem enc_and {q : Nat × Nat} (h : okSt q) : enc q &&& (31 : Int32) = o3 q.1 := by
  have := o3_and (x := q.2 * 32 + q.1) (p := 5) (by have := h.1; have := h.2.1; omega) (by omega)
  have e : (q.2 * 32 + q.1) % 2 ^ 5 = q.1 := by have := h.1; omega
  rw [e] at this
  exact this
theorem enc_shr {q : Nat × Nat} (h : okSt q) : enc q >>> ((5 : Int32) &&& 31) = o3 q.2 := by
  have := o3_shr (x := q.2 * 32 + q.1) (b := (5 : Int32) &&& 31) (p := 5) (by have := h.1; have := h.2.1; omega) (by decide) (by omega)
  have e : (q.2 * 32 + q.1) / 2 ^ 5 = q.2 := by have := h.1; omega
  rw [e] at this
  exact this
theorem mp_lt {s : Nat} : mp s < 16 := by
  unfold mp
  split <;> omega
theorem sgM_and {q : Nat × Nat} (h : okSt q) : sgM q &&& (15 : Int32) = o3 (mp q.1) := by
  have hm := mp_lt (s := q.1)
  have := o3_and (x := mp q.1 + 16 * q.2) (p := 4) (by have := h.2.1; omega) (by omega)
  have e : (mp q.1 + 16 * q.2) % 2 ^ 4 = mp q.1 := by omega
  rw [e] at this
  exact this
theorem sgM_shr {q : Nat × Nat} (h : okSt q) : sgM q >>> ((4 : Int32) &&& 31) = o3 q.2 := by
  have hm := mp_lt (s := q.1)
  have := o3_shr (x := mp q.1 + 16 * q.2) (b := (4 : Int32) &&& 31) (p := 4) (by have := h.2.1; omega) (by decide) (by omega)
  have e : (mp q.1 + 16 * q.2) / 2 ^ 4 = q.2 := by omega
  rw [e] at this
  exact this
def jo (s : Nat) (a b : Int64) : Int64 :=
  if s = 7 then a + b else if s = 8 then a - b else if s = 9 then a * b
  else if s = 10 then (if b = 0 then 0 else a / b)
  else if s = 5 then (if a = 0 then 0 else if b = 0 then 0 else 1)
  else if s = 6 then (if a = 0 then (if b = 0 then 0 else 1) else 1)
  else if s = 11 then (if b ≤ a then 0 else 1)
  else if s = 12 then (if b < a then 0 else 1)
  else if s = 13 then (if a = b then 1 else 0)
  else if s = 14 then (if a < b then 0 else 1)
  else (if a ≤ b then 0 else 1)
def exS (W : Nat → Int64) (q : Nat × Nat) (st : List Int64) : List Int64 :=
  if q.1 = 2 then o6 q.2 :: st
  else if q.1 = 3 then W q.2 :: st
  else if q.1 = 4 then (match st with
    | x :: r => (if x = 0 then 1 else 0) :: r
    | [] => [])
  else (match st with
    | b :: a :: r => jo q.1 a b :: r
    | _ => [])
def exc (W : Nat → Int64) : List (Nat × Nat) → List Int64 → List Int64
  | [], st => st
  | q :: e, st => exc W e (exS W q st)
def tls : List Bool → List Int64 → Prop
  | [], [] => True
  | b :: τ, x :: st => (b = true → x = 0 ∨ x = 1) ∧ tls τ st
  | _, _ => False
theorem tls_len : ∀ (τ : List Bool) (st : List Int64), tls τ st → st.length = τ.length := by
  intro τ
  induction τ with
  | nil => intro st h; cases st with
    | nil => rfl
    | cons x st => exact absurd h id
  | cons b τ ih => intro st h; cases st with
    | nil => exact absurd h id
    | cons x st => show st.length + 1 = τ.length + 1; rw [ih st h.2]
theorem jo_b {s : Nat} {a b : Int64} (h : s = 5 ∨ s = 6 ∨ (11 ≤ s ∧ s ≤ 15)) : jo s a b = 0 ∨ jo s a b = 1 := by
  unfold jo
  rw [if_neg (by omega), if_neg (by omega), if_neg (by omega), if_neg (by omega)]
  by_cases h5 : s = 5
  · rw [if_pos h5]; split
    · exact Or.inl rfl
    · split
      · exact Or.inl rfl
      · exact Or.inr rfl
  rw [if_neg h5]
  by_cases h6 : s = 6
  · rw [if_pos h6]; split
    · split
      · exact Or.inl rfl
      · exact Or.inr rfl
    · exact Or.inr rfl
  rw [if_neg h6]
  split
  · split
    · exact Or.inl rfl
    · exact Or.inr rfl
  · split
    · split
      · exact Or.inl rfl
      · exact Or.inr rfl
    · split
      · split
        · exact Or.inr rfl
        · exact Or.inl rfl
      · split
        · split
          · exact Or.inl rfl
          · exact Or.inr rfl
        · split
          · exact Or.inl rfl
          · exact Or.inr rfl
/-- the shape of a typed step -/
theorem tyS_cs {q : Nat × Nat} {τ τ' : List Bool} (h : tyS q τ = some τ') : ((q.1 = 2 ∨ q.1 = 3) ∧ τ' = false :: τ) ∨ (q.1 = 4 ∧ ∃ r, τ = true :: r ∧ τ' = true :: r) ∨ ((q.1 = 5 ∨ q.1 = 6) ∧ ∃ r, τ = true :: true :: r ∧ τ' = true :: r) ∨ ((7 ≤ q.1 ∧ q.1 ≤ 10) ∧ ∃ r, τ = false :: false :: r ∧ τ' = false :: r) ∨ ((11 ≤ q.1 ∧ q.1 ≤ 15) ∧ ∃ r, τ = false :: false :: r ∧ τ' = true :: r) := by
  unfold tyS at h
  by_cases h1 : q.1 = 2 ∨ q.1 = 3
  · rw [if_pos h1] at h; exact Or.inl ⟨h1, (Option.some.inj h).symm⟩
  rw [if_neg h1] at h
  by_cases h2 : q.1 = 4
  · rw [if_pos h2] at h
    refine Or.inr (Or.inl ⟨h2, ?_⟩)
    split at h
    · exact ⟨_, rfl, (Option.some.inj h).symm⟩
    · exact nomatch h
  rw [if_neg h2] at h
  by_cases h3 : q.1 = 5 ∨ q.1 = 6
  · rw [if_pos h3] at h
    refine Or.inr (Or.inr (Or.inl ⟨h3, ?_⟩))
    split at h
    · exact ⟨_, rfl, (Option.some.inj h).symm⟩
    · exact nomatch h
  rw [if_neg h3] at h
  by_cases h4 : 7 ≤ q.1 ∧ q.1 ≤ 10
  · rw [if_pos h4] at h
    refine Or.inr (Or.inr (Or.inr (Or.inl ⟨h4, ?_⟩)))
    split at h
    · exact ⟨_, rfl, (Option.some.inj h).symm⟩
    · exact nomatch h
  rw [if_neg h4] at h
  by_cases h5 : 11 ≤ q.1 ∧ q.1 ≤ 15
  · rw [if_pos h5] at h
    refine Or.inr (Or.inr (Or.inr (Or.inr ⟨h5, ?_⟩)))
    split at h
    · exact ⟨_, rfl, (Option.some.inj h).symm⟩
    · exact nomatch h
  · rw [if_neg h5] at h; exact nomatch h
/-- the shape of a step over a stack of these kinds -/
theorem exS_cs {W : Nat → Int64} {q : Nat × Nat} {τ τ' : List Bool} {st : List Int64} (h : tyS q τ = some τ') (hs : tls τ st) : tls τ' (exS W q st) ∧ ((q.1 = 2 ∧ exS W q st = o6 q.2 :: st) ∨ (q.1 = 3 ∧ exS W q st = W q.2 :: st) ∨ (q.1 = 4 ∧ ∃ x r, st = x :: r ∧ (x = 0 ∨ x = 1) ∧ exS W q st = (if x = 0 then 1 else 0) :: r) ∨ ((5 ≤ q.1 ∧ q.1 ≤ 15) ∧ ∃ a b r, st = b :: a :: r ∧ (q.1 = 5 ∨ q.1 = 6 → (a = 0 ∨ a = 1) ∧ (b = 0 ∨ b = 1)) ∧ exS W q st = jo q.1 a b :: r)) := by
  unfold exS
  rcases tyS_cs h with ⟨h1, rfl⟩ | ⟨h1, r, rfl, rfl⟩ | ⟨h1, r, rfl, rfl⟩ | ⟨h1, r, rfl, rfl⟩ | ⟨h1, r, rfl, rfl⟩
  · by_cases h2 : q.1 = 2
    · rw [if_pos h2]; exact ⟨⟨(fun z => nomatch z), hs⟩, Or.inl ⟨h2, rfl⟩⟩
    · rw [if_neg h2, if_pos (by omega)]; exact ⟨⟨(fun z => nomatch z), hs⟩, Or.inr (Or.inl ⟨by omega, rfl⟩)⟩
  · rw [if_neg (by omega), if_neg (by omega), if_pos h1]
    match st, hs with
    | x :: st, hs =>
      refine ⟨⟨fun _ => ?_, hs.2⟩, Or.inr (Or.inr (Or.inl ⟨h1, x, st, rfl, hs.1 rfl, rfl⟩))⟩
      split
      · exact Or.inr rfl
      · exact Or.inl rfl
  · rw [if_neg (by omega), if_neg (by omega), if_neg (by omega)]
    match st, hs with
    | b :: a :: st, hs => exact ⟨⟨fun _ => jo_b (by omega), hs.2.2⟩, Or.inr (Or.inr (Or.inr ⟨by omega, a, b, st, rfl, fun _ => ⟨hs.2.1 rfl, hs.1 rfl⟩, rfl⟩))⟩
  · rw [if_neg (by omega), if_neg (by omega), if_neg (by omega)]
    match st, hs with
    | b :: a :: st, hs => exact ⟨⟨(fun z => nomatch z), hs.2.2⟩, Or.inr (Or.inr (Or.inr ⟨by omega, a, b, st, rfl, fun z => by omega, rfl⟩))⟩
  · rw [if_neg (by omega), if_neg (by omega), if_neg (by omega)]
    match st, hs with
    | b :: a :: st, hs => exact ⟨⟨fun _ => jo_b (by omega), hs.2.2⟩, Or.inr (Or.inr (Or.inr ⟨by omega, a, b, st, rfl, fun z => by omega, rfl⟩))⟩
theorem c_joined {s : Nat} (hs : 5 ≤ s ∧ s ≤ 15) {a b : Int64} {S : fS} : f_X4_joined (o3 s) a b S = some (jo s a b) := by
  have : s = 5 ∨ s = 6 ∨ s = 7 ∨ s = 8 ∨ s = 9 ∨ s = 10 ∨ s = 11 ∨ s = 12 ∨ s = 13 ∨ s = 14 ∨ s = 15 := by omega
  rcases this with rfl | rfl | rfl | rfl | rfl | rfl | rfl | rfl | rfl | rfl | rfl
  · show ((if a = 0 then some (0 : Int32) else if b = 0 then some 0 else some 1).bind fun q9 => if q9 = (0 : Int32) then some (0 : Int64) else some 1) = some (if a = 0 then 0 else if b = 0 then 0 else 1)
    split
    · rfl
    · split <;> rfl
  · show ((if a = 0 then (if b = 0 then some (0 : Int32) else some 1) else some 1).bind fun q9 => if q9 = (0 : Int32) then some (0 : Int64) else some 1) = some (if a = 0 then (if b = 0 then 0 else 1) else 1)
    split
    · split <;> rfl
    · rfl
  · rfl
  · rfl
  · rfl
  · show (if b = 0 then some (0 : Int64) else ((dL a b).bind fun a6 => some a6)) = some (if b = 0 then 0 else a / b)
    by_cases h : b = 0
    · rw [if_pos h, if_pos h]
    · rw [if_neg h, if_neg h]; unfold dL; rw [if_neg h]; rfl
  · show ((if b ≤ a then some (0 : Int32) else some 1).bind fun q9 => if q9 = (0 : Int32) then some (0 : Int64) else some 1) = some (if b ≤ a then 0 else 1)
    split <;> rfl
  · show ((if b < a then some (0 : Int32) else some 1).bind fun q9 => if q9 = (0 : Int32) then some (0 : Int64) else some 1) = some (if b < a then 0 else 1)
    split <;> rfl
  · show ((if a = b then some (1 : Int32) else some 0).bind fun q9 => if q9 = (0 : Int32) then some (0 : Int64) else some 1) = some (if a = b then 1 else 0)
    split <;> rfl
  · show ((if a < b then some (0 : Int32) else some 1).bind fun q9 => if q9 = (0 : Int32) then some (0 : Int64) else some 1) = some (if a < b then 0 else 1)
    split <;> rfl
  · show ((if a ≤ b then some (0 : Int32) else some 1).bind fun q9 => if q9 = (0 : Int32) then some (0 : Int64) else some 1) = some (if a ≤ b then 0 else 1)
    split <;> rfl
theorem m_one {s : Nat} (hs : 5 ≤ s ∧ s ≤ 15) {a b : Int64} {S : fS} (hb : s = 5 ∨ s = 6 → (a = 0 ∨ a = 1) ∧ (b = 0 ∨ b = 1)) : f_X11_one (o3 (mp s)) a b S = some (jo s a b) := by
  have : s = 5 ∨ s = 6 ∨ s = 7 ∨ s = 8 ∨ s = 9 ∨ s = 10 ∨ s = 11 ∨ s = 12 ∨ s = 13 ∨ s = 14 ∨ s = 15 := by omega
  rcases this with rfl | rfl | rfl | rfl | rfl | rfl | rfl | rfl | rfl | rfl | rfl
  · obtain ⟨h1, h2⟩ := hb (by omega)
    rcases h1 with rfl | rfl <;> rcases h2 with rfl | rfl <;> rfl
  · obtain ⟨h1, h2⟩ := hb (by omega)
    rcases h1 with rfl | rfl <;> rcases h2 with rfl | rfl <;> rfl
  · rfl
  · rfl
  · rfl
  · show (if b = 0 then some (0 : Int64) else ((dL a b).bind fun a6 => some a6)) = some (if b = 0 then 0 else a / b)
    by_cases h : b = 0
    · rw [if_pos h, if_pos h]
    · rw [if_neg h, if_neg h]; unfold dL; rw [if_neg h]; rfl
  · show (if b ≤ a then some (0 : Int64) else some 1) = some (if b ≤ a then 0 else 1)
    split <;> rfl
  · show (if b < a then some (0 : Int64) else some 1) = some (if b < a then 0 else 1)
    split <;> rfl
  · show (if a = b then some (1 : Int64) else some 0) = some (if a = b then 1 else 0)
    split <;> rfl
  · show (if a < b then some (0 : Int64) else some 1) = some (if a < b then 0 else 1)
    split <;> rfl
  · show (if a ≤ b then some (0 : Int64) else some 1) = some (if a ≤ b then 0 else 1)
    split <;> rfl
theorem gd_ar {α : Type} {c e : List α} {d : α} {k : Nat} : (c ++ e).getD (c.length + k) d = e.getD k d := by
  induction c with
  | nil => rw [List.nil_append, List.length_nil, Nat.zero_add]
  | cons a c ih =>
    rw [List.cons_append, List.length_cons, show c.length + 1 + k = (c.length + k) + 1 by omega]
    exact ih
end
section
/-! the class: a rule's goal -/
def RS (S : fS) (p : Nat) (st : List Int64) : Prop := S.1 p 3 = o3 st.length ∧ ∀ k, k < st.length → S.2 (p + 2) k = st.reverse.getD k 0
def eK (p : Nat) (S T : fS) : Prop := (∀ a k, ¬ (a = p ∧ k = 3) → T.1 a k = S.1 a k) ∧ (∀ a k, a ≠ p + 2 → T.2 a k = S.2 a k)
theorem eK.rf {p : Nat} {S : fS} : eK p S S := ⟨fun _ _ _ => rfl, fun _ _ _ => rfl⟩
theorem eK.tr {p : Nat} {S T U : fS} (h : eK p S T) (g : eK p T U) : eK p S U := ⟨fun a k n => (g.1 a k n).trans (h.1 a k n), fun a k n => (g.2 a k n).trans (h.2 a k n)⟩
theorem pL_row {S : fS} {a k b : Nat} {y : Int64} (h : b ≠ a) {j : Nat} : (pL S a k y).2 b j = S.2 b j := pL_ne (fun q => h q.1)
section CG
variable {p : Nat} {S : fS} {st : List Int64}
theorem ck_push {v : Int64} (hR : RS S p st) (hl : st.length < 60) : ∃ T, f_X4_push p v S = some T ∧ RS T p (v :: st) ∧ eK p S T := by
  obtain ⟨r1, r2⟩ := hR
  unfold f_X4_push
  rw [r1, if_neg (o3_nn (by omega)), if_neg (show ¬ (60 : Int32) ≤ o3 st.length from fun q => by have := (o3_le (a := 60) (by omega) (by omega)).mp q; omega), sL_o hl (by omega), bd_some, bd_some, pL_1, r1, o3_s]
  refine ⟨_, rfl, ⟨?_, fun k hk => ?_⟩, fun a k h => pI_ne h, fun a k h => pL_row h⟩
  · rw [pI_eq]; rfl
  · have hk : k < st.length + 1 := hk
    show (pL S (p + 2) st.length v).2 (p + 2) k = _
    rw [List.reverse_cons]
    by_cases e : k = st.length
    · subst e
      have := gd_r (c := st.reverse) (q := v) (d := 0)
      rw [List.length_reverse] at this
      rw [pL_eq, this]
    · rw [pL_ne (by omega), gd_l (by rw [List.length_reverse]; omega)]
      exact r2 k (by omega)
theorem ck_pop {x : Int64} (hR : RS S p (x :: st)) (hl : st.length < 60) : ∃ T, f_X4_pop p S = some (x, T) ∧ RS T p st ∧ eK p S T := by
  obtain ⟨r1, r2⟩ := hR
  have r1 : S.1 p 3 = o3 (st.length + 1) := r1
  unfold f_X4_pop
  rw [r1, if_neg (show ¬ o3 (st.length + 1) ≤ (0 : Int32) from fun q => by have := (o3_le (b := 0) (by omega) (by omega)).mp q; omega), if_pos (show o3 (st.length + 1) ≤ (60 : Int32) from (o3_le (b := 60) (by omega) (by omega)).mpr (by omega)), bd_some, show (1 : Int32) = o3 1 from rfl, o3_sub (by omega), show st.length + 1 - 1 = st.length by omega, pI_eq, gL_o hl (by omega), bd_some]
  have e : (pI S p 3 (o3 st.length)).2 (p + 2) st.length = x := by
    show S.2 (p + 2) st.length = x
    rw [r2 st.length (by show _ < st.length + 1; omega), List.reverse_cons]
    have := gd_r (c := st.reverse) (q := x) (d := 0)
    rw [List.length_reverse] at this
    exact this
  rw [e]
  refine ⟨_, rfl, ⟨pI_eq, fun k hk => ?_⟩, fun a k h => pI_ne h, fun a k h => rfl⟩
  show S.2 (p + 2) k = _
  rw [r2 k (by show k < st.length + 1; omega), List.reverse_cons, gd_l (by rw [List.length_reverse]; exact hk)]
end CG
section CG2
variable {p t0 c0 : Nat} {th : Int32} {W : Nat → Int64} {K : fS → Option (Int32 × fS)}
theorem ck_step {S : fS} {q : Nat × Nat} {τ τ' : List Bool} {st : List Int64} {k L nn : Nat} (h2 : S.1 p 2 = o3 L) (hL : L ≤ 400) (hk : k < L) (hc : S.1 (p + 1) k = enc q) (hq : okSt q) (ht : tyS q τ = some τ') (hs : tls τ st) (hR : RS S p st) (hd : st.length + nv [q] ≤ 60) (hW : ∀ v, v < 8 → f_X0_wordOf c0 t0 th (o3 v) S = some (W v)) : ∃ T, lp_X4_goalOf_8 p t0 c0 th K (nn + 1) (o3 k) S = lp_X4_goalOf_8 p t0 c0 th K nn (o3 (k + 1)) T ∧ RS T p (exS W q st) ∧ eK p S T ∧ tls τ' (exS W q st) := by
  obtain ⟨hx, hcs⟩ := exS_cs (W := W) ht hs
  rw [lp_X4_goalOf_8.eq_2, h2, if_neg (fun q => by have := (o3_le (by omega) (by omega)).mp q; omega), if_neg (show ¬ (400 : Int32) ≤ o3 k from fun q => by have := (o3_le (a := 400) (by omega) (by omega)).mp q; omega), gI_o (by omega) (by omega), bd_some, bd_some, hc, enc_and hq, enc_shr hq, o3_s]
  have e0 : ∀ j : Nat, j < 2147483648 → ∀ z : Nat, z < 2147483648 → (o3 j = o3 z ↔ j = z) := fun j hj z hz => o3_inj hj hz
  rcases hcs with ⟨h, e⟩ | ⟨h, e⟩ | ⟨h, x, r, rfl, hx2, e⟩ | ⟨h, a, b, r, rfl, hb, e⟩
  · have hn : nv [q] = 1 := by show 0 + _ = 1; rw [if_pos (Or.inl h)]
    rw [h, if_neg (show ¬ o3 2 = (0 : Int32) by decide), if_neg (show ¬ o3 2 = (1 : Int32) by decide), if_pos (show o3 2 = (2 : Int32) from rfl), o6_of3 (by have := hq.2.1; omega)]
    obtain ⟨T, t1, t2, t3⟩ := ck_push (v := o6 q.2) hR (by omega)
    rw [t1, bd_some]
    exact ⟨T, rfl, by rw [e]; exact t2, t3, hx⟩
  · have hn : nv [q] = 1 := by show 0 + _ = 1; rw [if_pos (Or.inr h)]
    rw [h, if_neg (show ¬ o3 3 = (0 : Int32) by decide), if_neg (show ¬ o3 3 = (1 : Int32) by decide), if_neg (show ¬ o3 3 = (2 : Int32) by decide), if_pos (show o3 3 = (3 : Int32) from rfl), hW q.2 (hq.2.2 h), bd_some]
    obtain ⟨T, t1, t2, t3⟩ := ck_push (v := W q.2) hR (by omega)
    rw [t1, bd_some]
    exact ⟨T, rfl, by rw [e]; exact t2, t3, hx⟩
  · have hd : r.length + 1 + nv [q] ≤ 60 := hd
    obtain ⟨T, t1, t2, t3⟩ := ck_pop hR (by omega)
    rw [h, if_neg (show ¬ o3 4 = (0 : Int32) by decide), if_neg (show ¬ o3 4 = (1 : Int32) by decide), if_neg (show ¬ o3 4 = (2 : Int32) by decide), if_neg (show ¬ o3 4 = (3 : Int32) by decide), if_pos (show o3 4 = (4 : Int32) from rfl), t1, bd_some]
    dsimp only
    rw [e]
    rw [e] at hx
    by_cases h0 : x = 0
    · rw [if_pos h0]
      rw [if_pos h0] at hx
      obtain ⟨T2, v1, v2, v3⟩ := ck_push (v := 1) t2 (by omega)
      rw [v1, bd_some, if_pos h0]
      exact ⟨T2, rfl, v2, t3.tr v3, hx⟩
    · rw [if_neg h0]
      rw [if_neg h0] at hx
      obtain ⟨T2, v1, v2, v3⟩ := ck_push (v := 0) t2 (by omega)
      rw [v1, bd_some, if_neg h0]
      exact ⟨T2, rfl, v2, t3.tr v3, hx⟩
  · have hd : r.length + 1 + 1 + nv [q] ≤ 60 := hd
    have hne : ∀ z : Nat, z < 5 → ¬ o3 q.1 = o3 z := fun z hz w => by have := (o3_inj (by omega) (by omega)).mp w; omega
    obtain ⟨T, t1, t2, t3⟩ := ck_pop hR (by show r.length + 1 < 60; omega)
    obtain ⟨T2, v1, v2, v3⟩ := ck_pop t2 (by omega)
    obtain ⟨T3, w1, w2, w3⟩ := ck_push (v := jo q.1 a b) v2 (by omega)
    rw [if_neg (show ¬ o3 q.1 = (0 : Int32) from hne 0 (by omega)), if_neg (show ¬ o3 q.1 = (1 : Int32) from hne 1 (by omega)), if_neg (show ¬ o3 q.1 = (2 : Int32) from hne 2 (by omega)), if_neg (show ¬ o3 q.1 = (3 : Int32) from hne 3 (by omega)), if_neg (show ¬ o3 q.1 = (4 : Int32) from hne 4 (by omega)), t1, bd_some]
    dsimp only
    rw [v1, bd_some]
    dsimp only
    rw [c_joined h, bd_some, w1, bd_some, e]
    rw [e] at hx
    exact ⟨T3, rfl, w2, (t3.tr v3).tr w3, hx⟩
theorem ck_seg {S0 : fS} (hW : ∀ T, eK p S0 T → ∀ v, v < 8 → f_X0_wordOf c0 t0 th (o3 v) T = some (W v)) {L : Nat} (h2 : S0.1 p 2 = o3 L) (hL : L ≤ 400) : ∀ (e : List (Nat × Nat)) (k nn : Nat) (S : fS) (τ τ' : List Bool) (st : List Int64), eK p S0 S → (∀ j, j < e.length → S0.1 (p + 1) (k + j) = enc (e.getD j (0, 0))) → k + e.length ≤ L → (∀ q ∈ e, okSt q) → tyc e τ = some τ' → tls τ st → RS S p st → st.length + nv e ≤ 60 → ∃ T, lp_X4_goalOf_8 p t0 c0 th K (nn + e.length) (o3 k) S = lp_X4_goalOf_8 p t0 c0 th K nn (o3 (k + e.length)) T ∧ RS T p (exc W e st) ∧ eK p S0 T ∧ tls τ' (exc W e st) := by
  intro e
  induction e with
  | nil =>
    intro k nn S τ τ' st hE hc hk ho ht hs hR hd
    obtain rfl := Option.some.inj ht
    exact ⟨S, rfl, hR, hE, hs⟩
  | cons q e ih =>
    intro k nn S τ τ' st hE hc hk ho ht hs hR hd
    have hk : k + (e.length + 1) ≤ L := hk
    have ht : (tyS q τ).bind (tyc e) = some τ' := ht
    cases hq : tyS q τ with
    | none => rw [hq] at ht; exact nomatch ht
    | some σ =>
      rw [hq] at ht
      have ht : tyc e σ = some τ' := ht
      have hn : nv (q :: e) = nv e + nv [q] := by show nv e + _ = nv e + (0 + _); omega
      obtain ⟨T, t1, t2, t3, t4⟩ := ck_step (q := q) (K := K) (nn := nn + e.length) (W := W) (t0 := t0) (c0 := c0) (th := th) (k := k) (L := L) ((hE.1 p 2 (by omega)).trans h2) hL (by omega) ((hE.1 (p + 1) k (by omega)).trans (hc 0 (by show 0 < e.length + 1; omega))) (ho q List.mem_cons_self) hq hs hR (by omega) (hW S hE)
      have hlen : (exS W q st).length + nv e ≤ 60 := by
        have h1 := tls_len _ _ t4
        have h5 := tls_len _ _ hs
        have h3 : σ.length ≤ τ.length + nv [q] := by
          rcases tyS_cs hq with ⟨z, rfl⟩ | ⟨z, r, rfl, rfl⟩ | ⟨z, r, rfl, rfl⟩ | ⟨z, r, rfl, rfl⟩ | ⟨z, r, rfl, rfl⟩
          · show τ.length + 1 ≤ τ.length + (0 + _)
            rw [if_pos z]; omega
          · exact Nat.le_add_right _ _
          · show r.length + 1 ≤ r.length + 1 + 1 + _; omega
          · show r.length + 1 ≤ r.length + 1 + 1 + _; omega
          · show r.length + 1 ≤ r.length + 1 + 1 + _; omega
        omega
      obtain ⟨T2, v1, v2, v3, v4⟩ := ih (k + 1) nn T σ τ' (exS W q st) (hE.tr t3) (fun j hj => by
        have := hc (j + 1) (by show j + 1 < e.length + 1; omega)
        rw [show k + 1 + j = k + (j + 1) by omega]
        exact this) (by omega) (fun z hz => ho z (List.mem_cons_of_mem _ hz)) ht t4 t2 hlen
      refine ⟨T2, ?_, v2, v3, v4⟩
      show lp_X4_goalOf_8 p t0 c0 th K (nn + e.length + 1) (o3 k) S = _
      rw [t1, v1]
      show _ = lp_X4_goalOf_8 p t0 c0 th K nn (o3 (k + (e.length + 1))) T2
      rw [show k + 1 + e.length = k + (e.length + 1) by omega]
/-- the goal that a rule sends to, or -1 -/
def vw (W : Nat → Int64) (w : List (Nat × Nat)) : Int64 := (exc W w []).headD 0
def gl (W : Nat → Int64) : List Cl → Int32
  | [] => -1
  | (q, none) :: _ => o3 q
  | (q, some w) :: L => if vw W w = 0 then gl W L else o3 q
theorem tls_1 {st : List Int64} (h : tls [true] st) : ∃ x, st = [x] ∧ (x = 0 ∨ x = 1) := by
  match st, h with
  | [x], h => exact ⟨x, rfl, h.1 rfl⟩
theorem vw_b {w : List (Nat × Nat)} (h : tls [true] (exc W w [])) : exc W w [] = [vw W w] ∧ (vw W w = 0 ∨ vw W w = 1) := by
  obtain ⟨x, e, hx⟩ := tls_1 h
  unfold vw
  rw [e]
  exact ⟨rfl, hx⟩
theorem ck_goal {S0 : fS} (hW : ∀ T, eK p S0 T → ∀ v, v < 8 → f_X0_wordOf c0 t0 th (o3 v) T = some (W v)) {L : Nat} (h2 : S0.1 p 2 = o3 L) (hL : L ≤ 400) : ∀ (Q : List Cl) (k nn : Nat) (S : fS), eK p S0 S → (∀ j, j < (ccode Q).length → S0.1 (p + 1) (k + j) = enc ((ccode Q).getD j (0, 0))) → k + (ccode Q).length = L → okRu Q → RS S p [] → (ccode Q).length < nn → ∃ T, lp_X4_goalOf_8 p t0 c0 th (fun S52 => some ((-1 : Int32), S52)) nn (o3 k) S = some (gl W Q, T) ∧ eK p S0 T := by
  intro Q
  induction Q with
  | nil =>
    intro k nn S hE hc hk ho hR hnn
    have hk : k + 0 = L := hk
    obtain ⟨nn, rfl⟩ : ∃ z, nn = z + 1 := ⟨nn - 1, by omega⟩
    rw [lp_X4_goalOf_8.eq_2, hE.1 p 2 (by omega), h2, if_pos ((o3_le (by omega) (by omega)).mpr (by omega))]
    exact ⟨S, rfl, hE⟩
  | cons q Q ih =>
    intro k nn S hE hc hk ho hR hnn
    have hcc : ccode (q :: Q) = ccl q ++ ccode Q := by unfold ccode; rw [List.flatMap_cons]
    rw [hcc] at hc hk hnn
    rw [List.length_append] at hk hnn
    obtain ⟨fl, t⟩ := q
    obtain ⟨ho1, ho2⟩ := ho (fl, t) List.mem_cons_self
    have ho1 : fl ≤ 9 := ho1
    have h2S : S.1 p 2 = o3 L := (hE.1 p 2 (by omega)).trans h2
    cases t with
    | none =>
      have hk : k + (1 + (ccode Q).length) = L := hk
      obtain ⟨nn, rfl⟩ : ∃ z, nn = z + 1 := ⟨nn - 1, by omega⟩
      have c0' : S.1 (p + 1) k = enc (0, fl) := (hE.1 (p + 1) k (by omega)).trans (hc 0 (by rw [List.length_append]; show 0 < 1 + _; omega))
      have hok : okSt (0, fl) := ⟨by show 0 ≤ 15; omega, by show fl ≤ 99999; omega, (fun z => nomatch z)⟩
      rw [lp_X4_goalOf_8.eq_2, h2S, if_neg (fun q => by have := (o3_le (by omega) (by omega)).mp q; omega), if_neg (show ¬ (400 : Int32) ≤ o3 k from fun q => by have := (o3_le (a := 400) (by omega) (by omega)).mp q; omega), gI_o (by omega) (by omega), bd_some, bd_some, c0', enc_and hok, if_pos (show o3 0 = (0 : Int32) from rfl), enc_shr hok]
      exact ⟨S, rfl, hE⟩
    | some w =>
      obtain ⟨w1, w2, w3⟩ := ho2 w rfl
      have hlw : (ccl (fl, some w)).length = w.length + 1 := by show (w ++ [(1, fl)]).length = _; rw [ln_app]
      have hcw : ccl (fl, some w) = w ++ [(1, fl)] := rfl
      rw [hlw] at hk hnn
      obtain ⟨nn, rfl⟩ : ∃ z, nn = z + 1 + w.length := ⟨nn - 1 - w.length, by omega⟩
      obtain ⟨T, t1, t2, t3, t4⟩ := ck_seg (K := fun S52 => some ((-1 : Int32), S52)) hW h2 hL w k (nn + 1) S [] [true] [] hE (fun j hj => by
        have := hc j (by rw [List.length_append, hlw]; omega)
        rw [this, hcw, List.append_assoc, gd_l hj]) (by omega) w2 w1 trivial hR (by show 0 + nv w ≤ 60; omega)
      obtain ⟨e1, e2⟩ := vw_b t4
      have hok : okSt (1, fl) := ⟨by show 1 ≤ 15; omega, by show fl ≤ 99999; omega, fun z => absurd z (show ¬ 1 = 3 by decide)⟩
      have c1 : T.1 (p + 1) (k + w.length) = enc (1, fl) := by
        rw [t3.1 (p + 1) (k + w.length) (by omega), hc w.length (by rw [List.length_append, hlw]; omega)]
        rw [hcw, gd_l (by rw [ln_app]; omega), gd_r]
      rw [e1] at t2
      have hgd : ∀ j, (ccl (fl, some w) ++ ccode Q).getD (w.length + 1 + j) (0, 0) = (ccode Q).getD j (0, 0) := fun j => by
        have hg := gd_ar (c := ccl (fl, some w)) (e := ccode Q) (d := (0, 0)) (k := j)
        rw [hlw] at hg
        exact hg
      obtain ⟨T2, v1, v2, v3⟩ := ck_pop t2 (by show 0 < 60; omega)
      rw [t1, lp_X4_goalOf_8.eq_2, t3.1 p 2 (by omega), h2, if_neg (fun q => by have := (o3_le (by omega) (by omega)).mp q; omega), if_neg (show ¬ (400 : Int32) ≤ o3 _ from fun q => by have := (o3_le (a := 400) (by omega) (by omega)).mp q; omega), gI_o (by omega) (by omega), bd_some, bd_some, c1, enc_and hok, if_neg (show ¬ o3 1 = (0 : Int32) by decide), if_pos (show o3 1 = (1 : Int32) from rfl), v1, bd_some, enc_shr hok, o3_s]
      dsimp only
      show ∃ T, _ = some (if vw W w = 0 then gl W Q else o3 fl, T) ∧ _
      by_cases h0 : vw W w = 0
      · rw [if_pos h0, if_pos h0]
        exact ih (k + w.length + 1) nn T2 (t3.tr v3) (fun j hj => by
          have := hc (w.length + 1 + j) (by rw [List.length_append, hlw]; omega)
          rw [show k + w.length + 1 + j = k + (w.length + 1 + j) by omega, this]
          exact congrArg enc (hgd j)) (by omega) (fun z hz => ho z (List.mem_cons_of_mem _ hz)) v2 (by omega)
      · rw [if_neg h0, if_neg h0]
        exact ⟨T2, rfl, t3.tr v3⟩
end CG2
theorem c_goal {S : fS} {p t0 c0 : Nat} {th : Int32} {W : Nat → Int64} {Q : List Cl} (hW : ∀ T, eK p S T → ∀ v, v < 8 → f_X0_wordOf c0 t0 th (o3 v) T = some (W v)) (hC : cdC S p (ccode Q)) (ho : okRu Q) : ∃ T, f_X4_goalOf p t0 c0 th S = some (gl W Q, T) ∧ eK p S T := by
  unfold f_X4_goalOf
  rw [bd_some]
  have hE : eK p S (pI S p 3 0) := ⟨fun a k h => pI_ne h, fun _ _ _ => rfl⟩
  exact ck_goal hW hC.1 hC.2.1 Q 0 FU (pI S p 3 0) hE (fun j hj => by rw [Nat.zero_add]; exact hC.2.2 j hj) (by omega) ho ⟨pI_eq, fun k hk => absurd hk (Nat.not_lt_zero _)⟩ (FU_lt (by have := hC.2.1; omega))
end
