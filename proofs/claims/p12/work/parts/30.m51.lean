section
/-! the reference: tested() -/
section MT9
variable {t : Nat → Int32} {n x : Nat}
theorem RH_pu2 {S : fS} {H : List Nat} {s : Nat} (h : RH S H) (hd : dep (s :: H) = dep H) : RH (pI (pI S 154 H.length (o3 (hm s))) 145 21 (o3 (H.length + 1))) (s :: H) := by
  refine RH_eq (RH_pu h hd.symm) ?_ ?_ (fun k => ?_)
  · rw [pI_eq, pI_eq]
  · rw [pI_ne (by omega), pI_ne (by omega), pI_ne (by omega), pI_ne (by omega), pI_eq, h.2.1]
  · by_cases e : k = H.length
    · subst e
      rw [pI_ne (by omega), pI_eq, pI_ne (by omega), pI_eq]
    · rw [pI_ne (by omega), pI_ne (by omega), pI_ne (by omega), pI_ne (by omega), pI_ne (by omega)]
def tstK : fS → Option (Int32 × fS) := fun S128 => (f_X11_isInside  S128).bind fun q130 =>
  if q130 = (0 : Int32) then ((f_X11_settles (1 : Int32) S128).bind fun q134 =>
  some ((1 : Int32), q134)) else
  ((f_X11_see  S128).bind fun q137 =>
  (f_X11_fails (0 : Int32) (q137.2.1 145 13) q137.2).bind fun q140 =>
  (bZ q140.1).bind fun z143 => some (z143, q140.2))
/-- a joining word: settled, held, passed -/
theorem mb_push (hl : n ≤ 400) (hx : x < 6) {m : Nat} {u : Int32} {H : List Nat} {c : List (Nat × Nat)} {S : fS} {e s : Nat} (hn : S.1 145 1 = o3 n) (ht : S.1 146 = t) (hR : RQ S x m (c ++ stO 3 H)) (hH : RH S (stR 3 H)) (hf : fH H) (hD : dep H ≤ 10) (hc : c.length + H.length < 400) (hs : s = 5 ∨ s = 6) {sv : Int32} (hv : sv = o3 (hm s)) {β : Type} {G : fS → Option β} (he : e ≤ n) : ∃ T, ((f_X11_passWord (mS S (o3 e) 0 u)).bind fun q39 => (f_X11_strength sv q39).bind fun q42 => (f_X11_settles q42 q39).bind fun q45 => (sI q45 154 400 (q45.1 145 21) sv).bind fun S48 => (some (pI S48 145 21 ((S48.1 145 21) + (1 : Int32)))).bind G) = G (mS T (o3 (e + ll t n e)) 0 u) ∧ eMr x S T ∧ RQ T x m (c ++ stO (bnd s) H) ∧ RH T (s :: stR (bnd s) H) := by
  subst hv
  obtain ⟨s1, s2⟩ := st_st (b := bnd s) (b' := 3) (by rcases hs with rfl | rfl <;> decide) H
  have hlen := stR_len (b := 3) H
  have hlen1 := stR_len (b := bnd s) H
  have hcl : (c ++ stO 3 H).length = c.length + (stO 3 H).length := List.length_append
  rw [mt_pass hn hl he, bd_some, ms_str (by omega), bd_some, ht]
  obtain ⟨T1, e1, e2, e3, e4⟩ := ms_set (i := o3 (e + ll t n e)) (u := u) hx (b := bnd s) (by rcases hs with rfl | rfl <;> decide) (by rcases hs with rfl | rfl <;> decide) hR hH (fH_st hf) (Nat.le_trans (stR_dep H) hD) (by omega)
  rw [s2] at e4
  rw [List.append_assoc, s1] at e3
  rw [e1, bd_some, mS_ne (by omega), e4.1, sI_o (by omega) (by omega), bd_some, mS_p (by omega), bd_some, mS_ne (by omega), pI_ne (by omega), e4.1, o3_s, mS_p (by omega)]
  refine ⟨_, rfl, (e2.tr (eMr_pI (by unfold wMr; omega))).tr (eMr_pI (by unfold wMr; omega)), ?_, RH_pu2 e4 (dep_pu (by omega))⟩
  refine RQ_eq e3 ?_ ?_ (fun k => ?_) (fun k => ?_) <;> rw [pI_ne (by omega), pI_ne (by omega)]
theorem AR_true {m i : Nat} {c : List (Nat × Nat)} {H : List Nat} (hr : rk t n i = 0) (hs : sk t n i = i) : AR t n true m c H i = (if jn t n (sk t n (clo t n (brk H + 1) i H).2.1) = 0 then
        (if brk (clo t n (brk H + 1) i H).2.2 = 0 then (0, sk t n (clo t n (brk H + 1) i H).2.1, m, c ++ (clo t n (brk H + 1) i H).1 ++ stO 1 (clo t n (brk H + 1) i H).2.2)
          else (1 + 8 * sk t n (clo t n (brk H + 1) i H).2.1, 0, 0, []))
        else RUN t n (true, false, m, c ++ (clo t n (brk H + 1) i H).1 ++ stO (bnd (jn t n (sk t n (clo t n (brk H + 1) i H).2.1))) (clo t n (brk H + 1) i H).2.2, jn t n (sk t n (clo t n (brk H + 1) i H).2.1) :: stR (bnd (jn t n (sk t n (clo t n (brk H + 1) i H).2.1))) (clo t n (brk H + 1) i H).2.2, sk t n (clo t n (brk H + 1) i H).2.1 + jnL (jn t n (sk t n (clo t n (brk H + 1) i H).2.1)))) := by
  unfold AR aft
  rw [hs, if_pos hr, if_pos rfl]
  generalize clo t n (brk H + 1) i H = Q
  by_cases h1 : jn t n (sk t n Q.2.1) = 0
  · rw [if_pos h1, if_pos h1]
    by_cases h2 : brk Q.2.2 = 0
    · rw [if_pos h2, if_pos h2]; rfl
    · rw [if_neg h2, if_neg h2]; rfl
  · rw [if_neg h1, if_neg h1]; rfl
theorem cnt_0 : ∀ {H : List Nat}, fH H → brk H = 0 → cnt (stR 1 H) = 0 := by
  intro H
  induction H with
  | nil => intro _ _; rfl
  | cons s H ih =>
    intro hf hb
    have hs := hf s List.mem_cons_self
    have h16 : s ≠ 16 := fun q => by rw [q, brk_16] at hb; omega
    rw [brk_c h16] at hb
    rw [stR_c (by rcases hs with rfl | rfl | rfl | rfl <;> first | decide | exact absurd rfl h16)]
    exact ih (fun y hy => hf y (List.mem_cons_of_mem _ hy)) hb
def rOK (t : Nat → Int32) (n x i : Nat) (T : fS) (r : TR) : Prop := r.1 = 0 → RQ T x r.2.2.1 r.2.2.2 ∧ r.2.1 ≤ n ∧ i < r.2.1 ∧ sk t n r.2.1 = r.2.1 ∧ r.2.2.1 ≤ 60 ∧ r.2.2.2.length ≤ r.2.1
theorem mb_tst (hl : n ≤ 400) (hx : x < 6) (hb : ∀ k, byt (t k)) {c0 : List (Nat × Nat)} : ∀ d i m c H (S : fS) (u : Int32) (cp : Bool) nn, n - i ≤ d → d + 1 < nn → S.1 145 1 = o3 n → S.1 146 = t → RQ S x m c → RH S H → fH H → dep H ≤ 10 → m ≤ 60 → c.length + H.length ≤ i → i ≤ n → (∃ e0, c = c0 ++ e0 ∧ tyc e0 [] = some (rep (cnt H))) → ∃ T w' u', lp_X11_tested_12 tstK nn 1 (mS S (o3 i) 0 u) = some (if (RUN t n (true, cp, m, c, H, i)).1 = 0 then (1, mS T (o3 (RUN t n (true, cp, m, c, H, i)).2.1) 0 u') else (0, mS T w' (o3 (RUN t n (true, cp, m, c, H, i)).1) u')) ∧ eMr x S T ∧ rOK t n x i T (RUN t n (true, cp, m, c, H, i)) ∧ ((RUN t n (true, cp, m, c, H, i)).1 = 0 → ∃ e, (RUN t n (true, cp, m, c, H, i)).2.2.2 = c0 ++ e ∧ tyc e [] = some [true]) := by
  intro d
  induction d with
  | zero =>
    intro i m c H S u cp nn hd hnn hn ht hR hH hf hD hm hc hi hty
    obtain ⟨nn, rfl⟩ : ∃ k, nn = k + 1 := ⟨nn - 1, by omega⟩
    obtain ⟨F, T, i', m', c', H', w', u', a1, a2, a3, a4⟩ := mb_fact hl hx hb (u := u) hn ht hR hH hf hD hm hc hi
    rw [lp_X11_tested_12.eq_2, if_neg (by decide), a1, bd_some, a4 cp]
    by_cases hF : F = 0
    · obtain ⟨_, _, _, _, q1, q2, _⟩ := a3 hF
      omega
    · rw [if_neg hF, if_neg hF]
      dsimp only
      rw [if_pos rfl]
      exact ⟨T, w', u', by rw [if_neg hF], a2, fun q => absurd q hF, fun q => absurd q hF⟩
  | succ d ih =>
    intro i m c H S u cp nn hd hnn hn ht hR hH hf hD hm hc hi hty
    obtain ⟨nn, rfl⟩ : ∃ k, nn = k + 1 := ⟨nn - 1, by omega⟩
    obtain ⟨F, T, i', m', c', H', w', u', a1, a2, a3, a4⟩ := mb_fact hl hx hb (u := u) hn ht hR hH hf hD hm hc hi
    rw [lp_X11_tested_12.eq_2, if_neg (by decide), a1, bd_some, a4 cp]
    by_cases hF : F = 0
    · obtain ⟨b1, b2, b3, b4, b5, b6, b7, b8, b9, b10, b11, e9, b12, b13⟩ := a3 hF
      obtain ⟨e0, t1, t2⟩ := hty
      have hcl0 := ty_clo (t := t) (n := n) (brk H' + 1) i' H' b3
      rw [if_pos hF, if_pos hF]
      dsimp only
      rw [if_neg (show ¬ (1 : Int32) = 0 by decide)]
      obtain ⟨T2, e1, e2, e3, e4, e5⟩ := mb_close hl hx hb (u := u') ((eMr_1 a2).trans hn) ((eMr_t a2).trans ht) b1 b2 b3 b4 b9 b6
      have hpr := clo_pr (n := n) (t := t) (brk H' + 1) H' i' (fH_el b3) (by omega) b6
      rw [e1, bd_some, AR_true b10 b7]
      generalize clo t n (brk H' + 1) i' H' = Q at e3 e4 e5 hpr hcl0
      have hT : tyc (e0 ++ e9 ++ Q.1) [] = some (rep (cnt Q.2.2 + 1)) := by
        rw [tyc_app, tyc_app, t2, Option.bind_some, b13, Option.bind_some, ← b11, ← rep_s, hcl0]
      have hC : c' ++ Q.1 = c0 ++ (e0 ++ e9 ++ Q.1) := by rw [b12, t1]; simp only [List.append_assoc]
      obtain ⟨q1, q2, q3, q4, q5⟩ := hpr
      have hE := a2.tr e2
      have hn2 := (eMr_1 hE).trans hn
      have ht2 := (eMr_t hE).trans ht
      have hj := sk_le (t := t) q5
      have hg := sk_ge (t := t) (n := n) (i := Q.2.1)
      have hid := sk_id (t := t) (n := n) (i := Q.2.1)
      generalize sk t n Q.2.1 = e at hj hg hid
      have hcl : (c' ++ Q.1).length = c'.length + Q.1.length := List.length_append
      rw [mr_word hn2 hl 6385252 14 (by decide) (by decide) hj, bd_some, ht2, hid]
      dsimp only
      by_cases hw : wat t n (mm_sb.getD 14 []) e = true
      · have hjn : jn t n e = 5 := by unfold jn; rw [if_pos hw]
        obtain ⟨j1, j2, j3⟩ := jn_cs (t := t) hj (by omega)
        have hll : ll t n e = 3 := ((wat_ll (t := t) (n := n) _ e (mw_L 14 (by decide))).mp hw).1
        rw [hjn] at j2 ⊢
        have j2 : e + 3 ≤ n := j2
        rw [if_pos hw, if_neg (show ¬ (1 : Int32) = 0 by decide), if_neg (show ¬ (1 : Int32) = 0 by decide), mr_word hn2 hl 6385252 14 (by decide) (by decide) hj, bd_some, ht2, hid, if_pos hw]
        dsimp only
        rw [if_neg (show ¬ (1 : Int32) = 0 by decide), if_neg (show ¬ 5 = 0 by decide)]
        obtain ⟨T3, g1, g2, g3, g4⟩ := mb_push (u := u') (e := e) hl hx hn2 ht2 e3 e4 e5 (by omega) (by omega) (s := 5) (Or.inl rfl) (sv := 12) rfl (G := fun S51 => lp_X11_tested_12 tstK nn 1 S51) hj
        rw [g1, hll]
        have hE2 := hE.tr g2
        have hlen := stR_len (b := bnd 5) Q.2.2
        obtain ⟨T4, w4, u4, k1, k2, k3, k4⟩ := ih (e + 3) m' (c' ++ Q.1 ++ stO (bnd 5) Q.2.2) (5 :: stR (bnd 5) Q.2.2) T3 u' false nn (by omega) (by omega) ((eMr_1 hE2).trans hn) ((eMr_t hE2).trans ht) g3 g4 (fH_c (fH_st e5) (by decide)) (by rw [dep_pu (by decide)]; exact Nat.le_trans (stR_dep _) (by omega)) b8 (by rw [List.length_append, List.length_cons]; omega) j2 ⟨e0 ++ e9 ++ Q.1 ++ stO (bnd 5) Q.2.2, by rw [hC, List.append_assoc], by rw [tyc_app, hT, Option.bind_some, ty_st (by decide) Q.2.2 e5]; rfl⟩
        exact ⟨T4, w4, u4, k1, hE2.tr k2, fun q => by
          obtain ⟨z1, z2, z3, z4⟩ := k3 q
          exact ⟨z1, z2, Nat.lt_of_le_of_lt (show i ≤ e + 3 by omega) z3, z4⟩, k4⟩
      · rw [if_neg hw, if_pos rfl, mr_word hn2 hl 28530 15 (by decide) (by decide) hj, bd_some, ht2, hid]
        dsimp only
        by_cases hw2 : wat t n (mm_sb.getD 15 []) e = true
        · have hjn : jn t n e = 6 := by unfold jn; rw [if_neg hw, if_pos hw2]
          obtain ⟨j1, j2, j3⟩ := jn_cs (t := t) hj (by omega)
          have hll : ll t n e = 2 := ((wat_ll (t := t) (n := n) _ e (mw_L 15 (by decide))).mp hw2).1
          rw [hjn] at j2 ⊢
          have j2 : e + 2 ≤ n := j2
          rw [if_pos hw2, if_neg (show ¬ (1 : Int32) = 0 by decide), if_neg (show ¬ (1 : Int32) = 0 by decide), mr_word hn2 hl 6385252 14 (by decide) (by decide) hj, bd_some, ht2, hid, if_neg hw]
          dsimp only
          rw [if_pos rfl, if_neg (show ¬ 6 = 0 by decide)]
          obtain ⟨T3, g1, g2, g3, g4⟩ := mb_push (u := u') (e := e) hl hx hn2 ht2 e3 e4 e5 (by omega) (by omega) (s := 6) (Or.inr rfl) (sv := 13) rfl (G := fun S51 => lp_X11_tested_12 tstK nn 1 S51) hj
          rw [g1, hll]
          have hE2 := hE.tr g2
          have hlen := stR_len (b := bnd 6) Q.2.2
          obtain ⟨T4, w4, u4, k1, k2, k3, k4⟩ := ih (e + 2) m' (c' ++ Q.1 ++ stO (bnd 6) Q.2.2) (6 :: stR (bnd 6) Q.2.2) T3 u' false nn (by omega) (by omega) ((eMr_1 hE2).trans hn) ((eMr_t hE2).trans ht) g3 g4 (fH_c (fH_st e5) (by decide)) (by rw [dep_pu (by decide)]; exact Nat.le_trans (stR_dep _) (by omega)) b8 (by rw [List.length_append, List.length_cons]; omega) j2 ⟨e0 ++ e9 ++ Q.1 ++ stO (bnd 6) Q.2.2, by rw [hC, List.append_assoc], by rw [tyc_app, hT, Option.bind_some, ty_st (by decide) Q.2.2 e5]; rfl⟩
          exact ⟨T4, w4, u4, k1, hE2.tr k2, fun q => by
            obtain ⟨z1, z2, z3, z4⟩ := k3 q
            exact ⟨z1, z2, Nat.lt_of_le_of_lt (show i ≤ e + 2 by omega) z3, z4⟩, k4⟩
        · have hjn : jn t n e = 0 := by unfold jn; rw [if_neg hw, if_neg hw2]
          obtain ⟨nn, rfl⟩ : ∃ k, nn = k + 1 := ⟨nn - 1, by omega⟩
          rw [hjn, if_pos rfl, if_neg hw2, if_pos rfl, if_pos rfl, lp_X11_tested_12.eq_2, if_pos rfl]
          unfold tstK
          have hlen3 := stR_len (b := 3) Q.2.2
          rw [ms_inside e4 (by omega) (fH_st e5), bd_some, stR_brk (by omega)]
          by_cases hbk : brk Q.2.2 = 0
          · rw [if_neg (show ¬ 0 < brk Q.2.2 by omega), if_pos rfl, if_pos hbk]
            obtain ⟨s1, s2⟩ := st_st (b := 1) (b' := 3) (by decide) Q.2.2
            have hlen1 := stR_len (b := 1) Q.2.2
            obtain ⟨T3, g1, g2, g3, g4⟩ := ms_set (i := o3 e) (u := u') hx (b := 1) (by omega) (by omega) e3 e4 (fH_st e5) (Nat.le_trans (stR_dep _) (by omega)) (by rw [List.length_append]; omega)
            have g1' : f_X11_settles 1 (mS T2 (o3 e) 0 u') = some (mS T3 (o3 e) 0 u') := g1
            rw [List.append_assoc, s1] at g3
            rw [g1', bd_some]
            refine ⟨T3, 0, u', by rw [if_pos rfl], hE.tr g2, fun _ => ⟨g3, hj, by show i < e; omega, hid, b8, ?_⟩, fun _ => ⟨e0 ++ e9 ++ Q.1 ++ stO 1 Q.2.2, by show c' ++ Q.1 ++ _ = _; rw [hC, List.append_assoc], ?_⟩⟩
            rotate_left
            · rw [tyc_app, hT, Option.bind_some, ty_st (by decide) Q.2.2 e5, cnt_0 e5 hbk]
              rfl
            show (c' ++ Q.1 ++ stO 1 Q.2.2).length ≤ e
            rw [List.length_append]
            omega
          · rw [if_pos (show 0 < brk Q.2.2 by omega), if_neg (show ¬ (1 : Int32) = 0 by decide), if_neg hbk, mt_see hn2 hl hj, bd_some, ht2, hid]
            dsimp only
            rw [mS_13, mt_fails mS_14, bd_some, mS_wr, show (8 : Int32) = o3 8 from rfl, show (1 : Int32) = o3 1 from rfl, show (0 : Int32) = o3 0 from rfl, o3_mul, o3_add, o3_add]
            refine ⟨T2, o3 e, u', ?_, hE, fun q => absurd q (show ¬ 1 + 8 * e = 0 by omega), fun q => absurd q (show ¬ 1 + 8 * e = 0 by omega)⟩
            rw [if_neg (show ¬ 1 + 8 * e = 0 by omega)]
            rfl
    · rw [if_neg hF, if_neg hF]
      dsimp only
      rw [if_pos rfl]
      exact ⟨T, w', u', by rw [if_neg hF], a2, fun q => absurd q hF, fun q => absurd q hF⟩
end MT9
/-! what is written: steps that can be; values as many as made -/
def okSt (q : Nat × Nat) : Prop := q.1 ≤ 15 ∧ q.2 ≤ 99999 ∧ (q.1 = 3 → q.2 < 8)
def nv : List (Nat × Nat) → Nat
  | [] => 0
  | q :: c => nv c + (if q.1 = 2 ∨ q.1 = 3 then 1 else 0)
theorem nv_app : ∀ c e : List (Nat × Nat), nv (c ++ e) = nv c + nv e := by
  intro c
  induction c with
  | nil => intro e; show nv e = 0 + nv e; omega
  | cons q c ih =>
    intro e
    show nv (c ++ e) + _ = nv c + _ + nv e
    rw [ih e]
    omega
def okc (m0 m : Nat) (c : List (Nat × Nat)) : Prop := (∀ q ∈ c, okSt q) ∧ nv c + m0 ≤ m ∧ m ≤ 60
theorem stO_ok {b : Nat} (hb : 1 ≤ b) : ∀ H, elH H → (∀ q ∈ stO b H, okSt q) ∧ nv (stO b H) = 0 := by
  intro H
  induction H with
  | nil => intro _; exact ⟨fun q hq => absurd hq List.not_mem_nil, rfl⟩
  | cons s H ih =>
    intro he
    have hs := he s List.mem_cons_self
    have ih := ih (fun y hy => he y (List.mem_cons_of_mem _ hy))
    by_cases h : b ≤ bnd s
    · rw [stO_c h]
      have h16 : s ≠ 16 := fun q => by rw [q] at h; have : bnd 16 = 0 := rfl; omega
      refine ⟨fun q hq => ?_, ?_⟩
      · rcases List.mem_cons.mp hq with rfl | hq
        · exact ⟨by show s ≤ 15; omega, by show 0 ≤ 99999; omega, fun z => absurd z (by show ¬ s = 3; omega)⟩
        · exact ih.1 q hq
      · show nv (stO b H) + (if s = 2 ∨ s = 3 then 1 else 0) = 0
        rw [ih.2, if_neg (by omega)]
    · have e1 : stO b (s :: H) = [] := by show (if b ≤ bnd s then _ else _) = _; rw [if_neg h]
      rw [e1]
      exact ⟨fun q hq => absurd hq List.not_mem_nil, rfl⟩
theorem clo_ok {t : Nat → Int32} {n : Nat} : ∀ f i H, elH H → (∀ q ∈ (clo t n f i H).1, okSt q) ∧ nv (clo t n f i H).1 = 0 := by
  intro f
  induction f with
  | zero => intro i H _; exact ⟨fun q hq => absurd hq List.not_mem_nil, rfl⟩
  | succ f ih =>
    intro i H he
    rw [clo_s]
    by_cases hb : 0 < brk H
    · rw [if_pos hb]
      by_cases h9 : sk t n i < n ∧ t (sk t n i) = 93
      · rw [if_pos h9]
        obtain ⟨H', p1, p2, p3, p4, p5⟩ := st1_16 H he hb
        obtain ⟨a1, a2⟩ := stO_ok (b := 1) (by omega) H he
        obtain ⟨b1, b2⟩ := ih (sk t n i + 1) H' p4
        dsimp only
        rw [p1]
        refine ⟨fun q hq => ?_, ?_⟩
        · rcases List.mem_append.mp hq with hq | hq
          · exact a1 q hq
          · exact b1 q hq
        · rw [nv_app, a2]; show 0 + nv (clo t n f (sk t n i + 1) H').1 = 0; omega
      · rw [if_neg h9]; exact ⟨fun q hq => absurd hq List.not_mem_nil, rfl⟩
    · rw [if_neg hb]; exact ⟨fun q hq => absurd hq List.not_mem_nil, rfl⟩
theorem okc_app {m0 m m' : Nat} {c e : List (Nat × Nat)} (h : okc m0 m c) (he : (∀ q ∈ e, okSt q) ∧ nv e = 0) (hm : m ≤ m') (h6 : m' ≤ 60) : okc m0 m' (c ++ e) := by
  refine ⟨fun q hq => ?_, ?_, h6⟩
  · rcases List.mem_append.mp hq with hq | hq
    · exact h.1 q hq
    · exact he.1 q hq
  · rw [nv_app, he.2]; have := h.2.1; omega
def okX (m0 : Nat) (x : TR ⊕ TS) : Prop := match x with
  | .inl r => r.1 = 0 → okc m0 r.2.2.1 r.2.2.2
  | .inr y => okc m0 y.2.2.1 y.2.2.2.1
section OKC
variable {t : Nat → Int32} {n m0 : Nat}
theorem bnd_j1 : ∀ x, x = 5 ∨ x = 6 → 1 ≤ bnd x := by
  intro x h
  rcases h with rfl | rfl <;> decide
theorem aft_ok {cp : Bool} {m i : Nat} {c : List (Nat × Nat)} {H : List Nat} (he : elH H) (hi : i ≤ n) (hc : okc m0 m c) : okX m0 (aft t n cp m c H i) := by
  have hj := sk_le (t := t) hi
  unfold aft
  generalize sk t n i = j at hj
  by_cases hr : rk t n j = 0
  · rw [if_pos hr]
    by_cases hp : cp = true
    · rw [if_pos hp]
      obtain ⟨q1, q2, q3, q4, q5⟩ := clo_pr (n := n) (t := t) (brk H + 1) H j he (by omega) hj
      have ho := clo_ok (t := t) (n := n) (brk H + 1) j H he
      generalize clo t n (brk H + 1) j H = Q at q1 q2 q3 q4 q5 ho
      have h1 := okc_app hc ho (Nat.le_refl _) hc.2.2
      by_cases hn : jn t n (sk t n Q.2.1) = 0
      · rw [if_pos hn]
        split
        · exact fun _ => okc_app h1 (stO_ok (by omega) _ q1) (Nat.le_refl _) hc.2.2
        · exact fun q => absurd q (show ¬ 1 + 8 * sk t n Q.2.1 = 0 by omega)
      · rw [if_neg hn]
        have := jn_or t n (sk t n Q.2.1)
        exact okc_app h1 (stO_ok (bnd_j1 _ (by omega)) _ q1) (Nat.le_refl _) hc.2.2
    · rw [if_neg hp]
      by_cases hm : cm t n j = 0
      · rw [if_pos hm]; exact fun q => absurd q (show ¬ 1 + 8 * j = 0 by omega)
      · rw [if_neg hm]
        by_cases h6 : 60 ≤ m
        · rw [if_pos h6]; exact fun q => absurd q (show ¬ 1 + 8 * j + 3 = 0 by omega)
        · rw [if_neg h6]
          exact okc_app hc (stO_ok (by omega) _ he) (show m ≤ m + 1 by omega) (show m + 1 ≤ 60 by omega)
  · rw [if_neg hr]
    obtain ⟨k1, k2⟩ := rk_cs hr
    exact okc_app hc (stO_ok (by rcases k1 with e | e | e | e <;> rw [e] <;> decide) _ he) (Nat.le_refl _) hc.2.2
theorem tval_ok {cp : Bool} {m i : Nat} {c : List (Nat × Nat)} {H : List Nat} (he : elH H) (hi : i ≤ n) (hc : okc m0 m c) : okX m0 (tval t n cp m c H i) := by
  have hj := sk_le (t := t) hi
  unfold tval
  by_cases hv : vlF t n m (sk t n i) = 0
  · rw [if_pos hv]
    obtain ⟨v1, v2, v3⟩ := vl_gt hj sk_id hv
    refine aft_ok he v2 ⟨fun q hq => ?_, ?_, by omega⟩
    · rcases List.mem_append.mp hq with hq | hq
      · exact hc.1 q hq
      · rw [List.mem_singleton] at hq
        subst hq
        unfold vlF at hv
        unfold vlC
        by_cases hd : 0 < dl t n (sk t n i)
        · rw [if_pos hd] at hv ⊢
          by_cases hf : nmf t n (sk t n i) 0 99999 = 0
          · have := (nmf_0 hf).2.2.2
            exact ⟨by show 2 ≤ 15; omega, by show nmv _ _ _ ≤ 99999; omega, fun z => absurd z (by show ¬ 2 = 3; omega)⟩
          · rw [if_neg hf] at hv; exact absurd hv hf
        · rw [if_neg hd] at hv ⊢
          by_cases h8 : nmI t n (sk t n i) < 8
          · exact ⟨by show 3 ≤ 15; omega, by show nmI _ _ _ ≤ 99999; omega, fun _ => h8⟩
          · rw [if_neg h8] at hv; exact absurd hv (by omega)
    · rw [nv_app]
      have := hc.2.1
      have h1 : nv [vlC t n (sk t n i)] ≤ 1 := by
        show 0 + _ ≤ 1
        split <;> omega
      omega
  · rw [if_neg hv]; exact fun q => absurd q hv
theorem stp_ok {x : TS} (hx : jT n x) (hc : okc m0 x.2.2.1 x.2.2.2.1) : okX m0 (stp t n x) := by
  obtain ⟨due, cp, m, c, H, i⟩ := x
  obtain ⟨he, hd, hi⟩ := hx
  dsimp only at he hd hi hc
  unfold stp
  dsimp only
  by_cases hu : due = true
  · rw [if_pos hu]
    have hp := opn_pr (t := t) (n := n) (11 - dep H) i H hi hd
    generalize opn t n (11 - dep H) i H = Q at hp
    by_cases hq : Q.1 = 0
    · rw [if_pos hq]
      obtain ⟨P, p1, p2, p3, p4, p5, p6⟩ := hp hq
      exact tval_ok (H := Q.2.2) (fun z hz => by
        rw [p1] at hz
        rcases List.mem_append.mp hz with hz | hz
        · have := p2 z hz; omega
        · exact he z hz) p5 hc
    · rw [if_neg hq]; exact fun q => absurd q hq
  · rw [if_neg hu]
    exact tval_ok he hi hc
theorem run_ok : ∀ F (x : TS), jT n x → okc m0 x.2.2.1 x.2.2.2.1 → (run t n F x).1 = 0 → okc m0 (run t n F x).2.2.1 (run t n F x).2.2.2 := by
  intro F
  induction F with
  | zero => intro x _ _ h; exact absurd h (by show ¬ 1 = 0; omega)
  | succ F ih =>
    intro x hx hc
    have hs := stp_ok (t := t) hx hc
    rw [run_s]
    cases he : stp t n x with
    | inl r => rw [he] at hs; exact hs
    | inr y => rw [he] at hs; exact ih y (stp_J hx he).1 hs
end OKC
end
