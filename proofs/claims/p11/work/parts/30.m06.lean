section
/-! the reference: a rule's goal -/
def RT (S : fS) (st : List Int64) : Prop := S.1 145 23 = o3 st.length ∧ ∀ k, k < st.length → S.2 155 k = st.reverse.getD k 0
def eJ (S T : fS) : Prop := (∀ a k, ¬ (a = 145 ∧ k = 23) → T.1 a k = S.1 a k) ∧ (∀ a k, a ≠ 155 → T.2 a k = S.2 a k)
theorem eJ.rf {S : fS} : eJ S S := ⟨fun _ _ _ => rfl, fun _ _ _ => rfl⟩
theorem eJ.tr {S T U : fS} (h : eJ S T) (g : eJ T U) : eJ S U := ⟨fun a k n => (g.1 a k n).trans (h.1 a k n), fun a k n => (g.2 a k n).trans (h.2 a k n)⟩
section MG
variable {S : fS} {st : List Int64}
theorem mk_push {v : Int64} (hR : RT S st) (hl : st.length < 64) : ∃ T, f_X11_push v S = some T ∧ RT T (v :: st) ∧ eJ S T := by
  obtain ⟨r1, r2⟩ := hR
  unfold f_X11_push
  rw [r1, sL_o hl (by omega), bd_some, bd_some, pL_1, r1, o3_s]
  refine ⟨_, rfl, ⟨?_, fun k hk => ?_⟩, fun a k h => pI_ne h, fun a k h => pL_row h⟩
  · rw [pI_eq]; rfl
  · have hk : k < st.length + 1 := hk
    show (pL S 155 st.length v).2 155 k = _
    rw [List.reverse_cons]
    by_cases e : k = st.length
    · subst e
      have := gd_r (c := st.reverse) (q := v) (d := 0)
      rw [List.length_reverse] at this
      rw [pL_eq, this]
    · rw [pL_ne (by omega), gd_l (by rw [List.length_reverse]; omega)]
      exact r2 k (by omega)
theorem mk_pop {x : Int64} (hR : RT S (x :: st)) (hl : st.length < 64) : ∃ T, f_X11_pop S = some (x, T) ∧ RT T st ∧ eJ S T := by
  obtain ⟨r1, r2⟩ := hR
  have r1 : S.1 145 23 = o3 (st.length + 1) := r1
  unfold f_X11_pop
  rw [r1, bd_some, show (1 : Int32) = o3 1 from rfl, o3_sub (by omega), show st.length + 1 - 1 = st.length by omega, pI_eq, gL_o hl (by omega), bd_some]
  have e : (pI S 145 23 (o3 st.length)).2 155 st.length = x := by
    show S.2 155 st.length = x
    rw [r2 st.length (by show _ < st.length + 1; omega), List.reverse_cons]
    have := gd_r (c := st.reverse) (q := x) (d := 0)
    rw [List.length_reverse] at this
    exact this
  rw [e]
  refine ⟨_, rfl, ⟨pI_eq, fun k hk => ?_⟩, fun a k h => pI_ne h, fun a k h => rfl⟩
  show S.2 155 k = _
  rw [r2 k (by show k < st.length + 1; omega), List.reverse_cons, gd_l (by rw [List.length_reverse]; exact hk)]
end MG
section MG2
variable {x : Nat} {W : Nat → Int64} {K : fS → Option (Int64 × fS)}
theorem mk_step {S : fS} {q : Nat × Nat} {τ τ' : List Bool} {st : List Int64} {k L nn : Nat} (hx : x < 6) (hL : L ≤ 400) (hk : k < L) (hc : S.1 147 (400 * x + k) = sgM q) (hq : okSt q) (ht : tyS q τ = some τ') (hs : tls τ st) (hR : RT S st) (hd : st.length + nv [q] ≤ 60) (hW : ∀ v, v < 8 → S.2 156 v = W v) : ∃ T, lp_X11_reckons_8 (o3 x) (o3 L) K (nn + 1) (o3 k) S = lp_X11_reckons_8 (o3 x) (o3 L) K nn (o3 (k + 1)) T ∧ RT T (exS W q st) ∧ eJ S T ∧ tls τ' (exS W q st) := by
  obtain ⟨hx', hcs⟩ := exS_cs (W := W) ht hs
  rw [lp_X11_reckons_8.eq_2, if_neg (fun q => by have := (o3_le (by omega) (by omega)).mp q; omega), show (400 : Int32) = o3 400 from rfl, o3_mul, o3_add, gI_o (by omega) (by omega), bd_some, bd_some, hc, sgM_and hq, sgM_shr hq, o3_s]
  rcases hcs with ⟨h, e⟩ | ⟨h, e⟩ | ⟨h, y, r, rfl, hx2, e⟩ | ⟨h, a, b, r, rfl, hb, e⟩
  · have hn : nv [q] = 1 := by show 0 + _ = 1; rw [if_pos (Or.inl h)]
    rw [h, if_pos (show o3 (mp 2) = (0 : Int32) from rfl), o6_of3 (by have := hq.2.1; omega)]
    obtain ⟨T, t1, t2, t3⟩ := mk_push (v := o6 q.2) hR (by omega)
    rw [t1, bd_some]
    exact ⟨T, rfl, by rw [e]; exact t2, t3, hx'⟩
  · have hn : nv [q] = 1 := by show 0 + _ = 1; rw [if_pos (Or.inr h)]
    have h8 := hq.2.2 h
    rw [h, if_neg (show ¬ o3 (mp 3) = (0 : Int32) by decide), if_pos (show o3 (mp 3) = (1 : Int32) from rfl), gL_o h8 (by omega), bd_some, hW q.2 h8]
    obtain ⟨T, t1, t2, t3⟩ := mk_push (v := W q.2) hR (by omega)
    rw [t1, bd_some]
    exact ⟨T, rfl, by rw [e]; exact t2, t3, hx'⟩
  · have hd : r.length + 1 + nv [q] ≤ 60 := hd
    obtain ⟨T, t1, t2, t3⟩ := mk_pop hR (by omega)
    rw [h, if_neg (show ¬ o3 (mp 4) = (0 : Int32) by decide), if_neg (show ¬ o3 (mp 4) = (1 : Int32) by decide), if_pos (show o3 (mp 4) = (11 : Int32) from rfl), t1, bd_some]
    dsimp only
    have e2 : (1 : Int64) - y = if y = 0 then 1 else 0 := by
      rcases hx2 with rfl | rfl
      · rfl
      · rfl
    rw [e, e2]
    rw [e] at hx'
    obtain ⟨T2, v1, v2, v3⟩ := mk_push (v := if y = 0 then 1 else 0) t2 (by omega)
    rw [v1, bd_some]
    exact ⟨T2, rfl, v2, t3.tr v3, hx'⟩
  · have hd : r.length + 1 + 1 + nv [q] ≤ 60 := hd
    have hmp : ¬ mp q.1 = 0 ∧ ¬ mp q.1 = 1 ∧ ¬ mp q.1 = 11 := by
      have : q.1 = 5 ∨ q.1 = 6 ∨ q.1 = 7 ∨ q.1 = 8 ∨ q.1 = 9 ∨ q.1 = 10 ∨ q.1 = 11 ∨ q.1 = 12 ∨ q.1 = 13 ∨ q.1 = 14 ∨ q.1 = 15 := by omega
      rcases this with z | z | z | z | z | z | z | z | z | z | z <;> rw [z] <;> decide
    have hml := mp_lt (s := q.1)
    obtain ⟨T, t1, t2, t3⟩ := mk_pop hR (by show r.length + 1 < 64; omega)
    obtain ⟨T2, v1, v2, v3⟩ := mk_pop t2 (by omega)
    obtain ⟨T3, w1, w2, w3⟩ := mk_push (v := jo q.1 a b) v2 (by omega)
    rw [if_neg (show ¬ o3 (mp q.1) = (0 : Int32) from fun z => hmp.1 ((o3_inj (b := 0) (by omega) (by omega)).mp z)), if_neg (show ¬ o3 (mp q.1) = (1 : Int32) from fun z => hmp.2.1 ((o3_inj (b := 1) (by omega) (by omega)).mp z)), if_neg (show ¬ o3 (mp q.1) = (11 : Int32) from fun z => hmp.2.2 ((o3_inj (b := 11) (by omega) (by omega)).mp z)), t1, bd_some]
    dsimp only
    rw [v1, bd_some]
    dsimp only
    rw [m_one h hb, bd_some, w1, bd_some, e]
    rw [e] at hx'
    exact ⟨T3, rfl, w2, (t3.tr v3).tr w3, hx'⟩
theorem mk_seg {S0 : fS} (hx : x < 6) (hW : ∀ v, v < 8 → S0.2 156 v = W v) {L : Nat} (hL : L ≤ 400) : ∀ (e : List (Nat × Nat)) (k nn : Nat) (S : fS) (τ τ' : List Bool) (st : List Int64), eJ S0 S → (∀ j, j < e.length → S0.1 147 (400 * x + (k + j)) = sgM (e.getD j (0, 0))) → k + e.length ≤ L → (∀ q ∈ e, okSt q) → tyc e τ = some τ' → tls τ st → RT S st → st.length + nv e ≤ 60 → ∃ T, lp_X11_reckons_8 (o3 x) (o3 L) K (nn + e.length) (o3 k) S = lp_X11_reckons_8 (o3 x) (o3 L) K nn (o3 (k + e.length)) T ∧ RT T (exc W e st) ∧ eJ S0 T ∧ tls τ' (exc W e st) := by
  intro e
  induction e with
  | nil =>
    intro k nn S τ τ' st hE hc hk ho ht hs hR hd
    obtain rfl := Option.some.inj ht
    exact ⟨S, rfl, hR, hE, hs⟩
  | cons q e ih =>
    intro k nn S τ τ' st hE hc hk ho ht hs hR hd
    have hk : k + (e.length + 1) ≤ L := hk
    have ht : (tyS q τ).bind (tyc e) = some τ' := ht
    cases hq : tyS q τ with
    | none => rw [hq] at ht; exact nomatch ht
    | some σ =>
      rw [hq] at ht
      have ht : tyc e σ = some τ' := ht
      have hn : nv (q :: e) = nv e + nv [q] := by show nv e + _ = nv e + (0 + _); omega
      obtain ⟨T, t1, t2, t3, t4⟩ := mk_step (q := q) (K := K) (nn := nn + e.length) (W := W) (k := k) (L := L) (S := S) hx hL (by omega) ((hE.1 147 (400 * x + k) (by omega)).trans (hc 0 (by show 0 < e.length + 1; omega))) (ho q List.mem_cons_self) hq hs hR (by omega) (fun v hv => (hE.2 156 v (by omega)).trans (hW v hv))
      have hlen : (exS W q st).length + nv e ≤ 60 := by
        have h1 := tls_len _ _ t4
        have h5 := tls_len _ _ hs
        have h3 : σ.length ≤ τ.length + nv [q] := by
          rcases tyS_cs hq with ⟨z, rfl⟩ | ⟨z, r, rfl, rfl⟩ | ⟨z, r, rfl, rfl⟩ | ⟨z, r, rfl, rfl⟩ | ⟨z, r, rfl, rfl⟩
          · show τ.length + 1 ≤ τ.length + (0 + _)
            rw [if_pos z]; omega
          · exact Nat.le_add_right _ _
          · show r.length + 1 ≤ r.length + 1 + 1 + _; omega
          · show r.length + 1 ≤ r.length + 1 + 1 + _; omega
          · show r.length + 1 ≤ r.length + 1 + 1 + _; omega
        omega
      obtain ⟨T2, v1, v2, v3, v4⟩ := ih (k + 1) nn T σ τ' (exS W q st) (hE.tr t3) (fun j hj => by
        have := hc (j + 1) (by show j + 1 < e.length + 1; omega)
        rw [show k + 1 + j = k + (j + 1) by omega]
        exact this) (by omega) (fun z hz => ho z (List.mem_cons_of_mem _ hz)) ht t4 t2 hlen
      refine ⟨T2, ?_, v2, v3, v4⟩
      show lp_X11_reckons_8 (o3 x) (o3 L) K (nn + e.length + 1) (o3 k) S = _
      rw [t1, v1]
      show _ = lp_X11_reckons_8 (o3 x) (o3 L) K nn (o3 (k + (e.length + 1))) T2
      rw [show k + 1 + e.length = k + (e.length + 1) by omega]
theorem m_reck {S : fS} (hx : x < 6) (hW : ∀ v, v < 8 → S.2 156 v = W v) {w : List (Nat × Nat)} {k : Nat} (hc : ∀ j, j < w.length → S.1 147 (400 * x + (k + j)) = sgM (w.getD j (0, 0))) (hk : k + w.length ≤ 400) (h1 : tyc w [] = some [true]) (h2 : ∀ z ∈ w, okSt z) (h3 : nv w ≤ 60) : ∃ T, f_X11_reckons (o3 x) (o3 k) (o3 (k + w.length)) S = some (vw W w, T) ∧ eJ S T ∧ (vw W w = 0 ∨ vw W w = 1) := by
  have hE : eJ S (pI S 145 23 0) := ⟨fun a k h => pI_ne h, fun _ _ _ => rfl⟩
  have e0 : f_X11_reckons (o3 x) (o3 k) (o3 (k + w.length)) S = lp_X11_reckons_8 (o3 x) (o3 (k + w.length)) (fun S41 => (f_X11_pop S41).bind fun q43 => some (q43.1, q43.2)) FU (o3 k) (pI S 145 23 0) := by
    unfold f_X11_reckons
    rw [bd_some]
  obtain ⟨fu, hfu⟩ : ∃ z, FU = z + 1 + w.length := ⟨FU - 1 - w.length, by have := FU_lt (d := w.length) (by omega); omega⟩
  obtain ⟨T, t1, t2, t3, t4⟩ := mk_seg (K := fun S41 => (f_X11_pop S41).bind fun q43 => some (q43.1, q43.2)) hx hW hk w k (fu + 1) (pI S 145 23 0) [] [true] [] hE hc (Nat.le_refl _) h2 h1 trivial ⟨pI_eq, fun k hk => absurd hk (Nat.not_lt_zero _)⟩ (by show 0 + nv w ≤ 60; omega)
  obtain ⟨e1, e2⟩ := vw_b t4
  rw [e1] at t2
  obtain ⟨T2, v1, v2, v3⟩ := mk_pop t2 (by show 0 < 64; omega)
  rw [e0, hfu, t1, lp_X11_reckons_8.eq_2, if_pos ((o3_le (by omega) (by omega)).mpr (Nat.le_refl _)), v1, bd_some]
  exact ⟨T2, rfl, t3.tr v3, e2⟩
theorem mcode_c {q : Cl} {Q : List Cl} : mcode (q :: Q) = mcl q ++ mcode Q := by unfold mcode; rw [List.flatMap_cons]
theorem mcode_a {P Q : List Cl} : mcode (P ++ Q) = mcode P ++ mcode Q := by unfold mcode; rw [List.flatMap_append]
theorem mk_sent {S0 : fS} (hx : x < 6) (hW : ∀ v, v < 8 → S0.2 156 v = W v) : ∀ (Q P : List Cl) (nn : Nat) (S : fS), cdM S0 x (P ++ Q) → eJ S0 S → Q.length < nn → ∃ T, lp_X11_sent_7 (o3 x) (fun S28 => some ((-1 : Int32), S28)) nn (o3 P.length) S = some (gl W Q, T) ∧ eJ S0 T := by
  intro Q
  induction Q with
  | nil =>
    intro P nn S hM hE hnn
    have hnn : 0 < nn := hnn
    obtain ⟨nn, rfl⟩ : ∃ z, nn = z + 1 := ⟨nn - 1, by omega⟩
    rw [List.append_nil] at hM
    have h12 := hM.2.1
    rw [lp_X11_sent_7.eq_2, gI_o (by omega) (by omega), bd_some, hE.1 150 x (by omega), hM.1.1, if_pos ((o3_le (by omega) (by omega)).mpr (Nat.le_refl _))]
    exact ⟨S, rfl, hE⟩
  | cons q Q ih =>
    intro P nn S hM hE hnn
    have hnn : Q.length + 1 < nn := hnn
    obtain ⟨nn, rfl⟩ : ∃ z, nn = z + 1 := ⟨nn - 1, by omega⟩
    have hM0 := hM
    obtain ⟨hcl, h12, h148, h400, hok, hcode⟩ := hM
    have hlen : (P ++ q :: Q).length = P.length + (Q.length + 1) := List.length_append
    rw [hlen] at h12
    obtain ⟨ho1, ho2⟩ := hok q (List.mem_append.mpr (Or.inr List.mem_cons_self))
    obtain ⟨c1, c2, c3⟩ := hcl.2 P.length (by omega)
    have hg0 : (P ++ q :: Q).getD P.length (0, none) = q := by
      have := gd_ar (c := P) (e := q :: Q) (d := (0, none)) (k := 0)
      exact this
    have hq1 : P ++ q :: Q = (P ++ [q]) ++ Q := by simp only [List.append_assoc]; rfl
    have ht1 : (P ++ q :: Q).take P.length = P := by rw [List.take_left]
    have ht2 : (P ++ q :: Q).take (P.length + 1) = P ++ [q] := by
      rw [hq1, show P.length + 1 = (P ++ [q]).length by rw [ln_app], List.take_left]
    rw [hg0] at c1 c2
    rw [ht1] at c2
    rw [ht2, mcode_app, List.length_append] at c3
    have e36 : ((36 : Int32) * o3 x) + ((3 : Int32) * o3 P.length) = o3 (36 * x + 3 * P.length) := by
      rw [show (36 : Int32) = o3 36 from rfl, show (3 : Int32) = o3 3 from rfl, o3_mul, o3_mul, o3_add]
    have e37 : o3 (36 * x + 3 * P.length) + (1 : Int32) = o3 (36 * x + 3 * P.length + 1) := o3_s
    have e38 : o3 (36 * x + 3 * P.length) + (2 : Int32) = o3 (36 * x + 3 * P.length + 2) := by rw [show (2 : Int32) = o3 2 from rfl, o3_add]
    have hS : ∀ k, S.1 149 k = S0.1 149 k := fun k => hE.1 149 k (by omega)
    rw [lp_X11_sent_7.eq_2, gI_o (by omega) (by omega), bd_some, hE.1 150 x (by omega), hcl.1, hlen, if_neg (fun z => by have := (o3_le (by omega) (by omega)).mp z; omega), e36, e37, gI_o (by omega) (by omega), bd_some, hS, c2]
    obtain ⟨fl, t⟩ := q
    have ho1 : fl ≤ 9 := ho1
    cases t with
    | none =>
      rw [if_neg (show ¬ ((fl, none) : Cl).2.isSome = true from fun z => nomatch z), if_pos (by decide), gI_o (by omega) (by omega), bd_some, hS, c1]
      exact ⟨S, rfl, hE⟩
    | some w =>
      obtain ⟨w1, w2, w3⟩ := ho2 w rfl
      have hmc : mcode (P ++ (fl, some w) :: Q) = mcode P ++ (w ++ mcode Q) := by rw [mcode_a, mcode_c]; rfl
      have hml : (mcode (P ++ (fl, some w) :: Q)).length = (mcode P).length + (w.length + (mcode Q).length) := by rw [hmc, List.length_append, List.length_append]
      rw [hml] at h400
      rw [if_pos (show ((fl, some w) : Cl).2.isSome = true from rfl), if_neg (o3_nn (by omega)), bd_some, e38, gI_o (by omega) (by omega), bd_some, hS, c3]
      obtain ⟨T, t1, t2, t3⟩ := m_reck (S := S) (W := W) (w := w) (k := (mcode P).length) hx (fun v hv => (hE.2 156 v (by omega)).trans (hW v hv)) (fun j hj => by
        have := hcode ((mcode P).length + j) (by rw [hml]; omega)
        rw [hE.1 147 _ (by omega), this, hmc, gd_ar, gd_l hj]) (by omega) w1 w2 w3
      have t1' : f_X11_reckons (o3 x) (o3 (mcode P).length) (o3 ((mcode P).length + (mcl (fl, some w)).length)) S = some (vw W w, T) := t1
      rw [t1', bd_some]
      dsimp only
      have hgl : gl W ((fl, some w) :: Q) = if vw W w = 0 then gl W Q else o3 fl := rfl
      rw [hgl]
      rcases t3 with h0 | h1
      · rw [h0, if_neg (show ¬ (0 : Int64) = 1 by decide), if_pos rfl, o3_s]
        have hM1 : cdM S0 x ((P ++ [(fl, some w)]) ++ Q) := by rw [← hq1]; exact hM0
        have := ih (P ++ [(fl, some w)]) nn T hM1 (hE.tr t2) (by omega)
        rw [ln_app] at this
        exact this
      · rw [h1, if_pos rfl, if_neg (show ¬ (1 : Int64) = 0 by decide), gI_o (by omega) (by omega), bd_some, t2.1 149 _ (by omega), hS, c1]
        exact ⟨T, rfl, hE.tr t2⟩
end MG2
end
section
/-! the words of a rule, of a crowd C on floors F -/
def stn (p : Nat → Int32) (f : Int32) : Nat → Nat
  | 0 => 0
  | k + 1 => stn p f k + (if p k = f then 1 else 0)
theorem stn_le {p : Nat → Int32} {f : Int32} : ∀ k, stn p f k ≤ k := by
  intro k
  induction k with
  | zero => exact Nat.le_refl _
  | succ k ih =>
    show stn p f k + _ ≤ k + 1
    split <;> omega
def wd (F : List (Nat × Nat)) (C : Cw) (th v : Nat) : Int64 :=
  if v = 0 then o6 C.2.1 else if v = 1 then o6 th
  else if v = 2 then Int32.toInt64 (C.2.2.1 th)
  else if v = 3 then C.2.2.2.2.2.2 th / 232792560
  else if v = 4 then o6 (stn C.2.2.1 (C.2.2.1 th) C.1)
  else if v = 5 then o6 (1000 * (F.getD (C.2.2.1 th).toNatClampNeg (0, 0)).1 / (F.getD (C.2.2.1 th).toNatClampNeg (0, 0)).2)
  else if v = 6 then (if ∀ k, k < C.1 → C.2.2.2.2.2.2 k ≤ C.2.2.2.2.2.2 th then 1 else 0)
  else (if ∀ k, k < C.1 → C.2.2.2.2.2.2 th ≤ C.2.2.2.2.2.2 k then 1 else 0)
theorem nl_nle {a b : Int64} : ¬ a ≤ b ↔ b < a := by rw [nl_le, nl_lt]; omega
theorem nl_lt_le {a b : Int64} (h : a < b) : a ≤ b := by rw [nl_lt] at h; rw [nl_le]; omega
theorem nl_le_tr {a b c : Int64} (h : a ≤ b) (g : b ≤ c) : a ≤ c := by rw [nl_le] at h g ⊢; omega
theorem nl_le_rf {a : Int64} : a ≤ a := by rw [nl_le]; omega
theorem nl_anti {a b : Int64} (h : a ≤ b) (g : b ≤ a) : a = b := by rw [nl_le] at h g; rw [nl_eq]; omega
section CW
variable {S : fS} {c : Nat} {C : Cw}
theorem cw_standing (hC : cwC S c C) (h8 : C.1 ≤ 8) {f : Int32} : f_X0_standingOn c f S = some (o3 (stn C.2.2.1 f C.1)) := by
  have key : ∀ d k nn, k + d = C.1 → d < nn → lp_X0_standingOn_4 c f S (fun u6 => some u6) nn (o3 (stn C.2.2.1 f k)) (o3 k) = some (o3 (stn C.2.2.1 f C.1)) := by
    intro d
    induction d with
    | zero =>
      intro k nn hk hnn
      obtain ⟨nn, rfl⟩ : ∃ z, nn = z + 1 := ⟨nn - 1, by omega⟩
      rw [lp_X0_standingOn_4.eq_2, hC.1, if_pos ((o3_le (by omega) (by omega)).mpr (by omega)), show k = C.1 by omega]
    | succ d ih =>
      intro k nn hk hnn
      obtain ⟨nn, rfl⟩ : ∃ z, nn = z + 1 := ⟨nn - 1, by omega⟩
      have hs : stn C.2.2.1 f (k + 1) = stn C.2.2.1 f k + (if C.2.2.1 k = f then 1 else 0) := rfl
      rw [lp_X0_standingOn_4.eq_2, hC.1, if_neg (fun q => by have := (o3_le (by omega) (by omega)).mp q; omega), gI_o (by omega) (by omega), bd_some, (hC.2.2 k (by omega)).1]
      by_cases h : C.2.2.1 k = f
      · rw [if_pos h] at hs
        rw [if_pos h, o3_s, o3_s, ← hs]
        exact ih (k + 1) nn (by omega) (by omega)
      · rw [if_neg h] at hs
        rw [if_neg h, show (0 : Int32) = o3 0 from rfl, o3_add, o3_s, ← hs]
        exact ih (k + 1) nn (by omega) (by omega)
  exact key C.1 0 FU (by omega) (FU_lt (by omega))
theorem cw_eldest (hC : cwC S c C) (h8 : C.1 ≤ 8) (h1 : 0 < C.1) : ∃ i, i < C.1 ∧ f_X0_eldest c S = some (o3 i) ∧ ∀ k, k < C.1 → C.2.2.2.2.2.2 k ≤ C.2.2.2.2.2.2 i := by
  have key : ∀ d k nn i, k + d = C.1 → d < nn → i < C.1 → (∀ j, j < k → C.2.2.2.2.2.2 j ≤ C.2.2.2.2.2.2 i) → ∃ i', i' < C.1 ∧ lp_X0_eldest_4 c S (fun u9 => some u9) nn (o3 i) (o3 k) = some (o3 i') ∧ ∀ j, j < C.1 → C.2.2.2.2.2.2 j ≤ C.2.2.2.2.2.2 i' := by
    intro d
    induction d with
    | zero =>
      intro k nn i hk hnn hi hm
      obtain ⟨nn, rfl⟩ : ∃ z, nn = z + 1 := ⟨nn - 1, by omega⟩
      rw [lp_X0_eldest_4.eq_2, hC.1, if_pos ((o3_le (by omega) (by omega)).mpr (by omega))]
      exact ⟨i, hi, rfl, fun j hj => hm j (by omega)⟩
    | succ d ih =>
      intro k nn i hk hnn hi hm
      obtain ⟨nn, rfl⟩ : ∃ z, nn = z + 1 := ⟨nn - 1, by omega⟩
      rw [lp_X0_eldest_4.eq_2, hC.1, if_neg (fun q => by have := (o3_le (by omega) (by omega)).mp q; omega), gL_o (by omega) (by omega), bd_some, gL_o (by omega) (by omega), bd_some, (hC.2.2 k (by omega)).2.2.2.2, (hC.2.2 i hi).2.2.2.2, o3_s]
      by_cases h : C.2.2.2.2.2.2 k ≤ C.2.2.2.2.2.2 i
      · rw [if_pos h]
        exact ih (k + 1) nn i (by omega) (by omega) hi (fun j hj => by
          by_cases e : j = k
          · rw [e]; exact h
          · exact hm j (by omega))
      · rw [if_neg h]
        exact ih (k + 1) nn k (by omega) (by omega) (by omega) (fun j hj => by
          by_cases e : j = k
          · rw [e]; exact nl_le_rf
          · exact nl_le_tr (hm j (by omega)) (nl_lt_le (nl_nle.mp h)))
  obtain ⟨i, a, b, e⟩ := key (C.1 - 1) 1 FU 0 (by omega) (FU_lt (by omega)) h1 (fun j hj => by rw [show j = 0 by omega]; exact nl_le_rf)
  exact ⟨i, a, b, e⟩
theorem cw_youngest (hC : cwC S c C) (h8 : C.1 ≤ 8) (h1 : 0 < C.1) : ∃ i, i < C.1 ∧ f_X0_youngest c S = some (o3 i) ∧ ∀ k, k < C.1 → C.2.2.2.2.2.2 i ≤ C.2.2.2.2.2.2 k := by
  have key : ∀ d k nn i, k + d = C.1 → d < nn → i < C.1 → (∀ j, j < k → C.2.2.2.2.2.2 i ≤ C.2.2.2.2.2.2 j) → ∃ i', i' < C.1 ∧ lp_X0_youngest_4 c S (fun u9 => some u9) nn (o3 i) (o3 k) = some (o3 i') ∧ ∀ j, j < C.1 → C.2.2.2.2.2.2 i' ≤ C.2.2.2.2.2.2 j := by
    intro d
    induction d with
    | zero =>
      intro k nn i hk hnn hi hm
      obtain ⟨nn, rfl⟩ : ∃ z, nn = z + 1 := ⟨nn - 1, by omega⟩
      rw [lp_X0_youngest_4.eq_2, hC.1, if_pos ((o3_le (by omega) (by omega)).mpr (by omega))]
      exact ⟨i, hi, rfl, fun j hj => hm j (by omega)⟩
    | succ d ih =>
      intro k nn i hk hnn hi hm
      obtain ⟨nn, rfl⟩ : ∃ z, nn = z + 1 := ⟨nn - 1, by omega⟩
      rw [lp_X0_youngest_4.eq_2, hC.1, if_neg (fun q => by have := (o3_le (by omega) (by omega)).mp q; omega), gL_o (by omega) (by omega), bd_some, gL_o (by omega) (by omega), bd_some, (hC.2.2 k (by omega)).2.2.2.2, (hC.2.2 i hi).2.2.2.2, o3_s]
      by_cases h : C.2.2.2.2.2.2 i ≤ C.2.2.2.2.2.2 k
      · rw [if_pos h]
        exact ih (k + 1) nn i (by omega) (by omega) hi (fun j hj => by
          by_cases e : j = k
          · rw [e]; exact h
          · exact hm j (by omega))
      · rw [if_neg h]
        exact ih (k + 1) nn k (by omega) (by omega) (by omega) (fun j hj => by
          by_cases e : j = k
          · rw [e]; exact nl_le_rf
          · exact nl_le_tr (nl_lt_le (nl_nle.mp h)) (hm j (by omega)))
  obtain ⟨i, a, b, e⟩ := key (C.1 - 1) 1 FU 0 (by omega) (FU_lt (by omega)) h1 (fun j hj => by rw [show j = 0 by omega]; exact nl_le_rf)
  exact ⟨i, a, b, e⟩
theorem pc_1000 {q : Nat × Nat} (h : okF q) : dL ((1000 : Int64) * pc q) (232792560 : Int64) = some (o6 (1000 * q.1 / q.2)) := by
  obtain ⟨h1, h2, h3, h4⟩ := h
  have hd : 232792560 / q.2 * q.2 = 232792560 := by
    have : q.2 = 1 ∨ q.2 = 2 ∨ q.2 = 3 ∨ q.2 = 4 ∨ q.2 = 5 ∨ q.2 = 6 ∨ q.2 = 7 ∨ q.2 = 8 ∨ q.2 = 9 ∨ q.2 = 10 ∨ q.2 = 11 ∨ q.2 = 12 ∨ q.2 = 13 ∨ q.2 = 14 ∨ q.2 = 15 ∨ q.2 = 16 ∨ q.2 = 17 ∨ q.2 = 18 ∨ q.2 = 19 ∨ q.2 = 20 := by omega
    rcases this with e | e | e | e | e | e | e | e | e | e | e | e | e | e | e | e | e | e | e | e <;> rw [e]
  have hp : q.1 * (232792560 / q.2) ≤ 20 * 232792560 := Nat.mul_le_mul h2 (Nat.div_le_self _ _)
  unfold pc
  rw [show (1000 : Int64) = o6 1000 from rfl, show (232792560 : Int64) = o6 232792560 from rfl, o6_mul, o6_dL (by omega) (by omega) (by omega)]
  congr 2
  have e : 1000 * (q.1 * (232792560 / q.2)) = (1000 * q.1) * (232792560 / q.2) := by rw [Nat.mul_assoc]
  rw [e]
  have hz : 0 < 232792560 / q.2 := Nat.div_pos (by omega) (by omega)
  generalize 232792560 / q.2 = z at hd hz
  rw [show 232792560 = q.2 * z by rw [Nat.mul_comm]; exact hd.symm]
  exact Nat.mul_div_mul_right _ _ hz
theorem c_word {F : List (Nat × Nat)} {E : List (Nat × Nat × Nat × Nat × Nat)} {t th : Nat} (hC : cwC S c C) (hT : twC S t F E) (hF : ∀ q ∈ F, okF q) (h8 : C.1 ≤ 8) (h9 : C.2.1 ≤ 10199) (h10 : F.length ≤ 10) (hth : th < C.1) {f : Nat} (hf : f < F.length) (hp : C.2.2.1 th = o3 f) {v : Nat} (hv : v < 8) : f_X0_wordOf c t (o3 th) (o3 v) S = some (wd F C th v) := by
  obtain ⟨k1, k2, k3, k4, k5⟩ := hC.2.2 th hth
  have hfo : okF (F.getD f (0, 0)) := hF _ (gd_mem hf)
  unfold f_X0_wordOf wd
  have : v = 0 ∨ v = 1 ∨ v = 2 ∨ v = 3 ∨ v = 4 ∨ v = 5 ∨ v = 6 ∨ v = 7 := by omega
  rcases this with rfl | rfl | rfl | rfl | rfl | rfl | rfl | rfl
  · rw [if_pos (show o3 0 = (0 : Int32) from rfl), if_pos rfl, hC.2.1, o6_of3 (by omega)]
  · rw [if_neg (show ¬ o3 1 = (0 : Int32) by decide), if_pos (show o3 1 = (1 : Int32) from rfl), if_neg (by decide), if_pos rfl, o6_of3 (by omega)]
  · rw [if_neg (show ¬ o3 2 = (0 : Int32) by decide), if_neg (show ¬ o3 2 = (1 : Int32) by decide), if_pos (show o3 2 = (2 : Int32) from rfl), if_neg (by decide), if_neg (by decide), if_pos rfl, gI_o (by omega) (by omega), bd_some, k1]
  · rw [if_neg (show ¬ o3 3 = (0 : Int32) by decide), if_neg (show ¬ o3 3 = (1 : Int32) by decide), if_neg (show ¬ o3 3 = (2 : Int32) by decide), if_pos (show o3 3 = (3 : Int32) from rfl), if_neg (by decide), if_neg (by decide), if_neg (by decide), if_pos rfl, gL_o (by omega) (by omega), bd_some, k5]
    rfl
  · rw [if_neg (show ¬ o3 4 = (0 : Int32) by decide), if_neg (show ¬ o3 4 = (1 : Int32) by decide), if_neg (show ¬ o3 4 = (2 : Int32) by decide), if_neg (show ¬ o3 4 = (3 : Int32) by decide), if_pos (show o3 4 = (4 : Int32) from rfl), if_neg (by decide), if_neg (by decide), if_neg (by decide), if_neg (by decide), if_pos rfl, gI_o (by omega) (by omega), bd_some, k1, cw_standing hC h8, bd_some, o6_of3 (by have := stn_le (p := C.2.2.1) (f := C.2.2.1 th) C.1; omega)]
  · rw [if_neg (show ¬ o3 5 = (0 : Int32) by decide), if_neg (show ¬ o3 5 = (1 : Int32) by decide), if_neg (show ¬ o3 5 = (2 : Int32) by decide), if_neg (show ¬ o3 5 = (3 : Int32) by decide), if_neg (show ¬ o3 5 = (4 : Int32) by decide), if_pos (show o3 5 = (5 : Int32) from rfl), if_neg (by decide), if_neg (by decide), if_neg (by decide), if_neg (by decide), if_neg (by decide), if_pos rfl, gI_o (by omega) (by omega), bd_some, k1, hp, gL_o (by omega) (by omega), bd_some, hT.2.2.1 f hf, pc_1000 hfo, bd_some, o3_nat (by omega)]
  · rw [if_neg (show ¬ o3 6 = (0 : Int32) by decide), if_neg (show ¬ o3 6 = (1 : Int32) by decide), if_neg (show ¬ o3 6 = (2 : Int32) by decide), if_neg (show ¬ o3 6 = (3 : Int32) by decide), if_neg (show ¬ o3 6 = (4 : Int32) by decide), if_neg (show ¬ o3 6 = (5 : Int32) by decide), if_pos (show o3 6 = (6 : Int32) from rfl), if_neg (by decide), if_neg (by decide), if_neg (by decide), if_neg (by decide), if_neg (by decide), if_neg (by decide), if_pos rfl, gL_o (by omega) (by omega), bd_some, k5]
    obtain ⟨i, i1, i2, i3⟩ := cw_eldest hC h8 (by omega)
    rw [i2, bd_some, gL_o (by omega) (by omega), bd_some, (hC.2.2 i i1).2.2.2.2]
    by_cases h : ∀ k, k < C.1 → C.2.2.2.2.2.2 k ≤ C.2.2.2.2.2.2 th
    · rw [if_pos h, if_pos (nl_anti (i3 th hth) (h i i1))]
    · rw [if_neg h, if_neg (fun q => h (fun k hk => by rw [q]; exact i3 k hk))]
  · rw [if_neg (show ¬ o3 7 = (0 : Int32) by decide), if_neg (show ¬ o3 7 = (1 : Int32) by decide), if_neg (show ¬ o3 7 = (2 : Int32) by decide), if_neg (show ¬ o3 7 = (3 : Int32) by decide), if_neg (show ¬ o3 7 = (4 : Int32) by decide), if_neg (show ¬ o3 7 = (5 : Int32) by decide), if_neg (show ¬ o3 7 = (6 : Int32) by decide), if_neg (by decide), if_neg (by decide), if_neg (by decide), if_neg (by decide), if_neg (by decide), if_neg (by decide), if_neg (by decide), gL_o (by omega) (by omega), bd_some, k5]
    obtain ⟨i, i1, i2, i3⟩ := cw_youngest hC h8 (by omega)
    rw [i2, bd_some, gL_o (by omega) (by omega), bd_some, (hC.2.2 i i1).2.2.2.2]
    by_cases h : ∀ k, k < C.1 → C.2.2.2.2.2.2 th ≤ C.2.2.2.2.2.2 k
    · rw [if_pos h, if_pos (nl_anti (h i i1) (i3 th hth))]
    · rw [if_neg h, if_neg (fun q => h (fun k hk => by rw [q]; exact i3 k hk))]
end CW
end
section
/-! the reference's words -/
def mxk (A : Nat → Int64) (th k : Nat) : Int64 := if ∀ j, j < k → A j ≤ A th then 1 else 0
def mnk (A : Nat → Int64) (th k : Nat) : Int64 := if ∀ j, j < k → A th ≤ A j then 1 else 0
theorem mxk_s {A : Nat → Int64} {th k : Nat} : mxk A th (k + 1) = if A k ≤ A th then mxk A th k else 0 := by
  unfold mxk
  by_cases h : A k ≤ A th
  · rw [if_pos h]
    by_cases g : ∀ j, j < k → A j ≤ A th
    · rw [if_pos g, if_pos (fun j hj => by
        by_cases e : j = k
        · rw [e]; exact h
        · exact g j (by omega))]
    · rw [if_neg g, if_neg (fun q => g (fun j hj => q j (by omega)))]
  · rw [if_neg h, if_neg (fun q => h (q k (by omega)))]
theorem mnk_s {A : Nat → Int64} {th k : Nat} : mnk A th (k + 1) = if A th ≤ A k then mnk A th k else 0 := by
  unfold mnk
  by_cases h : A th ≤ A k
  · rw [if_pos h]
    by_cases g : ∀ j, j < k → A th ≤ A j
    · rw [if_pos g, if_pos (fun j hj => by
        by_cases e : j = k
        · rw [e]; exact h
        · exact g j (by omega))]
    · rw [if_neg g, if_neg (fun q => g (fun j hj => q j (by omega)))]
  · rw [if_neg h, if_neg (fun q => h (q k (by omega)))]
def eW (S T : fS) : Prop := T.1 = S.1 ∧ ∀ a k, a ≠ 156 → T.2 a k = S.2 a k
section MWD
variable {C : Cw} {th : Nat}
theorem mw_118 (h8 : C.1 ≤ 8) (hth : th < C.1) {K : fS → Option fS} : ∀ d k nn (S : fS), k + d = C.1 → d < nn → S.1 157 2 = o3 C.1 → (∀ j, j < C.1 → S.2 158 j = C.2.2.2.2.2.2 j) → S.2 156 6 = mxk C.2.2.2.2.2.2 th k → S.2 156 7 = mnk C.2.2.2.2.2.2 th k → ∃ T, lp_X11_words_118 (o3 th) K nn (o3 k) S = K T ∧ T.1 = S.1 ∧ (∀ a j, ¬ (a = 156 ∧ (j = 6 ∨ j = 7)) → T.2 a j = S.2 a j) ∧ T.2 156 6 = mxk C.2.2.2.2.2.2 th C.1 ∧ T.2 156 7 = mnk C.2.2.2.2.2.2 th C.1 := by
  intro d
  induction d with
  | zero =>
    intro k nn S hk hnn h2 hA h6 h7
    obtain ⟨nn, rfl⟩ : ∃ z, nn = z + 1 := ⟨nn - 1, by omega⟩
    rw [lp_X11_words_118.eq_2, show (2 : Int32) = o3 2 from rfl, gI_o (by omega) (by omega), bd_some, h2, if_pos ((o3_le (by omega) (by omega)).mpr (by omega))]
    rw [show k = C.1 by omega] at h6 h7
    exact ⟨S, rfl, rfl, fun _ _ _ => rfl, h6, h7⟩
  | succ d ih =>
    intro k nn S hk hnn h2 hA h6 h7
    obtain ⟨nn, rfl⟩ : ∃ z, nn = z + 1 := ⟨nn - 1, by omega⟩
    rw [lp_X11_words_118.eq_2, show (2 : Int32) = o3 2 from rfl, gI_o (by omega) (by omega), bd_some, h2, if_neg (fun q => by have := (o3_le (by omega) (by omega)).mp q; omega), gL_o (by omega) (by omega), bd_some, gL_o (by omega) (by omega), bd_some, hA k (by omega), hA th hth, o3_s]
    by_cases h : C.2.2.2.2.2.2 k ≤ C.2.2.2.2.2.2 th
    · rw [if_pos h, bd_some, bd_some]
      by_cases g : C.2.2.2.2.2.2 th ≤ C.2.2.2.2.2.2 k
      · rw [if_pos g]
        exact ih (k + 1) nn S (by omega) (by omega) h2 hA (by rw [mxk_s, if_pos h]; exact h6) (by rw [mnk_s, if_pos g]; exact h7)
      · rw [if_neg g, show (7 : Int32) = o3 7 from rfl, sL_o (by omega) (by omega), bd_some]
        obtain ⟨T, t1, t2, t3, t4⟩ := ih (k + 1) nn (pL S 156 7 0) (by omega) (by omega) h2 (fun j hj => by rw [pL_ne (by omega)]; exact hA j hj) (by rw [mxk_s, if_pos h, pL_ne (by omega)]; exact h6) (by rw [mnk_s, if_neg g, pL_eq])
        exact ⟨T, t1, t2, fun a j hj => by rw [t3 a j hj, pL_ne (by omega)], t4⟩
    · have g : C.2.2.2.2.2.2 th ≤ C.2.2.2.2.2.2 k := nl_lt_le (nl_nle.mp h)
      rw [if_neg h, show (6 : Int32) = o3 6 from rfl, sL_o (by omega) (by omega), bd_some, gL_o (by omega) (by omega), bd_some, gL_o (by omega) (by omega), bd_some, pL_ne (by omega), pL_ne (by omega), hA k (by omega), hA th hth, if_pos g]
      obtain ⟨T, t1, t2, t3, t4⟩ := ih (k + 1) nn (pL S 156 6 0) (by omega) (by omega) h2 (fun j hj => by rw [pL_ne (by omega)]; exact hA j hj) (by rw [mxk_s, if_neg h, pL_eq]) (by rw [mnk_s, if_pos g, pL_ne (by omega)]; exact h7)
      exact ⟨T, t1, t2, fun a j hj => by rw [t3 a j hj, pL_ne (by omega)], t4⟩
theorem mw_thing {S : fS} {a : Nat} (hth : th < 8) (ha : a < 4) : f_X11_thingOf (o3 th) (o3 a) S = some (S.1 157 (90 + 4 * th + a)) := by
  unfold f_X11_thingOf
  rw [show (90 : Int32) = o3 90 from rfl, show (4 : Int32) = o3 4 from rfl, o3_mul, o3_add, o3_add, gI_o (by omega) (by omega), bd_some]
theorem mw_standing {S : fS} {A : Nat → Int64} (hC : cwM (S.1 157) A C) (h8 : C.1 ≤ 8) {f : Int32} : f_X11_standing f S = some (o3 (stn C.2.2.1 f C.1)) := by
  have key : ∀ d k nn, k + d = C.1 → d < nn → lp_X11_standing_4 f S (fun u9 => some u9) nn (o3 (stn C.2.2.1 f k)) (o3 k) = some (o3 (stn C.2.2.1 f C.1)) := by
    intro d
    induction d with
    | zero =>
      intro k nn hk hnn
      obtain ⟨nn, rfl⟩ : ∃ z, nn = z + 1 := ⟨nn - 1, by omega⟩
      rw [lp_X11_standing_4.eq_2, show (2 : Int32) = o3 2 from rfl, gI_o (by omega) (by omega), bd_some, hC.1, if_pos ((o3_le (by omega) (by omega)).mpr (by omega)), show k = C.1 by omega]
    | succ d ih =>
      intro k nn hk hnn
      obtain ⟨nn, rfl⟩ : ∃ z, nn = z + 1 := ⟨nn - 1, by omega⟩
      have hs : stn C.2.2.1 f (k + 1) = stn C.2.2.1 f k + (if C.2.2.1 k = f then 1 else 0) := rfl
      rw [lp_X11_standing_4.eq_2, show (2 : Int32) = o3 2 from rfl, gI_o (by omega) (by omega), bd_some, hC.1, if_neg (fun q => by have := (o3_le (by omega) (by omega)).mp q; omega), show (0 : Int32) = o3 0 from rfl, mw_thing (by omega) (by omega), bd_some, show 90 + 4 * k + 0 = 90 + 4 * k by omega, (hC.2.2 k (by omega)).1]
      by_cases h : C.2.2.1 k = f
      · rw [if_pos h] at hs
        rw [if_pos h, o3_s, o3_s, ← hs]
        exact ih (k + 1) nn (by omega) (by omega)
      · rw [if_neg h] at hs
        rw [if_neg h, o3_add, o3_s, ← hs]
        exact ih (k + 1) nn (by omega) (by omega)
  exact key C.1 0 FU (by omega) (FU_lt (by omega))
theorem m_words {S : fS} {F : List (Nat × Nat)} {E : List (Nat × Nat × Nat × Nat × Nat)} (hC : cwM (S.1 157) (S.2 158) C) (hT : twM (S.1 157) F E) (hF : ∀ q ∈ F, okF q) (h8 : C.1 ≤ 8) (h9 : C.2.1 ≤ 10199) (h10 : F.length ≤ 10) (hth : th < C.1) {f : Nat} (hf : f < F.length) (hp : C.2.2.1 th = o3 f) : ∃ T, f_X11_words (o3 th) S = some T ∧ eW S T ∧ ∀ v, v < 8 → T.2 156 v = wd F C th v := by
  obtain ⟨k1, k2, k3, k4, k5⟩ := hC.2.2 th hth
  have hfo : okF (F.getD f (0, 0)) := hF _ (gd_mem hf)
  obtain ⟨o1, o2, o3', o4⟩ := hfo
  obtain ⟨f1, f2⟩ := hT.2.2.1 f hf
  have hst := stn_le (p := C.2.2.1) (f := C.2.2.1 th) C.1
  have hdv : 1000 * (F.getD f (0, 0)).1 / (F.getD f (0, 0)).2 ≤ 1000 * (F.getD f (0, 0)).1 := Nat.div_le_self _ _
  unfold f_X11_words
  rw [show (0 : Int32) = o3 0 from rfl, mw_thing (by omega) (by omega), bd_some, show 90 + 4 * th + 0 = 90 + 4 * th by omega, k1, show (3 : Int32) = o3 3 from rfl, gI_o (by omega) (by omega), bd_some, sL_o (by omega) (by omega), bd_some, show (1 : Int32) = o3 1 from rfl, sL_o (by omega) (by omega), bd_some, show (2 : Int32) = o3 2 from rfl, sL_o (by omega) (by omega), bd_some, gL_o (by omega) (by omega), bd_some, pL_ne (by omega), pL_ne (by omega), pL_ne (by omega), k5]
  have e3 : dL (C.2.2.2.2.2.2 th) 232792560 = some (C.2.2.2.2.2.2 th / 232792560) := rfl
  rw [e3, bd_some, sL_o (by omega) (by omega), bd_some]
  rw [mw_standing (C := C) (A := S.2 158) (by exact hC) h8, bd_some, show (4 : Int32) = o3 4 from rfl, sL_o (by omega) (by omega), bd_some, hp, show (10 : Int32) = o3 10 from rfl, o3_mul, o3_add, gI_o (by omega) (by omega), bd_some, o3_add, gI_o (by omega) (by omega), bd_some]
  simp only [pL_1]
  rw [f1, f2, show (1000 : Int32) = o3 1000 from rfl, o3_mul, o3_dI (by omega) (by omega) (by omega), bd_some, show (5 : Int32) = o3 5 from rfl, sL_o (by omega) (by omega), bd_some, show (6 : Int32) = o3 6 from rfl, sL_o (by omega) (by omega), bd_some, show (7 : Int32) = o3 7 from rfl, sL_o (by omega) (by omega), bd_some]
  obtain ⟨T, t1, t2, t3, t4, t5⟩ := mw_118 (C := C) (th := th) h8 hth (K := fun S83 => some S83) C.1 0 FU _ (by omega) (FU_lt (by omega)) (show (pL (pL (pL (pL (pL (pL (pL (pL S 156 0 (S.1 157 3).toInt64) 156 1 (o3 th).toInt64) 156 2 (o3 f).toInt64) 156 3 (C.2.2.2.2.2.2 th / 232792560)) 156 4 (o3 (stn C.2.2.1 (o3 f) C.1)).toInt64) 156 5 (o3 (1000 * (F.getD f (0, 0)).1 / (F.getD f (0, 0)).2)).toInt64) 156 6 1) 156 7 1).1 157 2 = o3 C.1 from hC.1) (fun j hj => by
    rw [pL_ne (by omega), pL_ne (by omega), pL_ne (by omega), pL_ne (by omega), pL_ne (by omega), pL_ne (by omega), pL_ne (by omega), pL_ne (by omega)]
    exact (hC.2.2 j hj).2.2.2.2) (by
    rw [pL_ne (by omega), pL_eq]
    unfold mxk
    rw [if_pos (fun j hj => absurd hj (Nat.not_lt_zero _))]) (by
    rw [pL_eq]
    unfold mnk
    rw [if_pos (fun j hj => absurd hj (Nat.not_lt_zero _))])
  refine ⟨T, t1, ⟨t2, fun a k h => ?_⟩, fun v hv => ?_⟩
  · rw [t3 a k (by omega), pL_ne (by omega), pL_ne (by omega), pL_ne (by omega), pL_ne (by omega), pL_ne (by omega), pL_ne (by omega), pL_ne (by omega), pL_ne (by omega)]
  · unfold wd
    rw [hp] at hst
    have : v = 0 ∨ v = 1 ∨ v = 2 ∨ v = 3 ∨ v = 4 ∨ v = 5 ∨ v = 6 ∨ v = 7 := by omega
    rcases this with rfl | rfl | rfl | rfl | rfl | rfl | rfl | rfl
    · rw [if_pos rfl, t3 _ _ (by omega), pL_ne (by omega), pL_ne (by omega), pL_ne (by omega), pL_ne (by omega), pL_ne (by omega), pL_ne (by omega), pL_ne (by omega), pL_eq, hC.2.1, o6_of3 (by omega)]
    · rw [if_neg (by decide), if_pos rfl, t3 _ _ (by omega), pL_ne (by omega), pL_ne (by omega), pL_ne (by omega), pL_ne (by omega), pL_ne (by omega), pL_ne (by omega), pL_eq, o6_of3 (by omega)]
    · rw [if_neg (by decide), if_neg (by decide), if_pos rfl, t3 _ _ (by omega), pL_ne (by omega), pL_ne (by omega), pL_ne (by omega), pL_ne (by omega), pL_ne (by omega), pL_eq, hp]
    · rw [if_neg (by decide), if_neg (by decide), if_neg (by decide), if_pos rfl, t3 _ _ (by omega), pL_ne (by omega), pL_ne (by omega), pL_ne (by omega), pL_ne (by omega), pL_eq]
    · rw [if_neg (by decide), if_neg (by decide), if_neg (by decide), if_neg (by decide), if_pos rfl, t3 _ _ (by omega), pL_ne (by omega), pL_ne (by omega), pL_ne (by omega), pL_eq, hp, o6_of3 (by omega)]
    · rw [if_neg (by decide), if_neg (by decide), if_neg (by decide), if_neg (by decide), if_neg (by decide), if_pos rfl, t3 _ _ (by omega), pL_ne (by omega), pL_ne (by omega), pL_eq, hp, o3_nat (by omega), o6_of3 (by omega)]
    · rw [if_neg (by decide), if_neg (by decide), if_neg (by decide), if_neg (by decide), if_neg (by decide), if_neg (by decide), if_pos rfl, t4]; rfl
    · rw [if_neg (by decide), if_neg (by decide), if_neg (by decide), if_neg (by decide), if_neg (by decide), if_neg (by decide), if_neg (by decide), t5]; rfl
end MWD
end
section
/-! a first stair; an hour, of a crowd C on floors F with stairs E by a rule Q -/
abbrev St5 : Type := Nat × Nat × Nat × Nat × Nat
def oeI (q : St5) (a : Nat) : Int32 := if q.1 = a then o3 q.2.1 else if q.2.1 = a then o3 q.1 else -1
abbrev hk (q : St5) (D : Mx) (a b : Nat) : Prop := (q.1 = a ∧ D q.2.1 b < 99999 ∧ q.2.2.1 + D q.2.1 b = D a b) ∨ (q.1 ≠ a ∧ q.2.1 = a ∧ D q.1 b < 99999 ∧ q.2.2.1 + D q.1 b = D a b)
def fsf (E : List St5) (D : Mx) (a b : Nat) : Nat → Nat → Option Nat
  | 0, _ => none
  | d + 1, k => if hk (E.getD k d5) D a b then some k else fsf E D a b d (k + 1)
def fS1 (E : List St5) (a b : Nat) : Option Nat := if a = b ∨ dst E a b = 99999 then none else fsf E (dst E) a b E.length 0
theorem fsf_pr {E : List St5} {D : Mx} {a b : Nat} : ∀ d k j, fsf E D a b d k = some j → k ≤ j ∧ j < k + d ∧ hk (E.getD j d5) D a b := by
  intro d
  induction d with
  | zero => intro k j h; exact nomatch h
  | succ d ih =>
    intro k j h
    rw [show fsf E D a b (d + 1) k = if hk (E.getD k d5) D a b then some k else fsf E D a b d (k + 1) from rfl] at h
    by_cases hh : hk (E.getD k d5) D a b
    · rw [if_pos hh] at h
      obtain rfl := Option.some.inj h
      exact ⟨Nat.le_refl _, by omega, hh⟩
    · rw [if_neg hh] at h
      obtain ⟨x, y, z⟩ := ih (k + 1) j h
      exact ⟨by omega, by omega, z⟩
theorem fsf_ex {E : List St5} {D : Mx} {a b : Nat} : ∀ d k, (∃ j, k ≤ j ∧ j < k + d ∧ hk (E.getD j d5) D a b) → ∃ j, fsf E D a b d k = some j := by
  intro d
  induction d with
  | zero => intro k ⟨j, h1, h2, _⟩; omega
  | succ d ih =>
    intro k ⟨j, h1, h2, h3⟩
    rw [show fsf E D a b (d + 1) k = if hk (E.getD k d5) D a b then some k else fsf E D a b d (k + 1) from rfl]
    by_cases hh : hk (E.getD k d5) D a b
    · rw [if_pos hh]; exact ⟨k, rfl⟩
    · rw [if_neg hh]
      have : j ≠ k := fun e => hh (e ▸ h3)
      exact ih (k + 1) ⟨j, by omega, by omega, h3⟩
theorem gd_of_mem {α : Type} {d : α} : ∀ (l : List α) (x : α), x ∈ l → ∃ k, k < l.length ∧ l.getD k d = x := by
  intro l x h
  obtain ⟨k, hk, e⟩ := List.getElem_of_mem h
  exact ⟨k, hk, by rw [List.getD_eq_getElem?_getD, List.getElem?_eq_getElem hk]; exact e⟩
theorem hk_ex {E : List St5} {m a b : Nat} (hE : ∀ q ∈ E, okS m q) (hm : m ≤ 10) (hab : a ≠ b) (h : dst E a b < 99999) : ∃ j, j < E.length ∧ hk (E.getD j d5) (dst E) a b := by
  obtain ⟨q, hq, hh⟩ := dst_fst (E := E) hab h
  obtain ⟨s1, s2, s3, s4⟩ := hE q hq
  have hst := dst_st hq
  obtain ⟨k, k1, k2⟩ := gd_of_mem (d := d5) E q hq
  refine ⟨k, k1, ?_⟩
  rw [k2]
  rcases hh with ⟨e, hh⟩ | ⟨e, hh⟩
  · have ht := dst_tri (E := E) (p := q.2.1) (by omega) a b
    rw [← e] at ht hh h ⊢
    exact Or.inl ⟨rfl, by omega, by omega⟩
  · have ht := dst_tri (E := E) (p := q.1) (by omega) a b
    rw [← e] at ht hh h ⊢
    exact Or.inr ⟨s3, rfl, by omega, by omega⟩
theorem dst_pos {E : List St5} {m a b : Nat} (hE : ∀ q ∈ E, okS m q) (hm : m ≤ 10) (hab : a ≠ b) (h : dst E a b < 99999) : 0 < dst E a b := by
  obtain ⟨j, j1, j2⟩ := hk_ex hE hm hab h
  obtain ⟨_, _, _, s4, _⟩ := hE _ (gd_mem (d := d5) j1)
  rcases j2 with ⟨_, _, e⟩ | ⟨_, _, _, e⟩ <;> omega
theorem fS1_ex {E : List St5} {m a b : Nat} (hE : ∀ q ∈ E, okS m q) (hm : m ≤ 10) (hab : a ≠ b) (h : dst E a b < 99999) : ∃ j, fS1 E a b = some j ∧ fsf E (dst E) a b E.length 0 = some j ∧ j < E.length ∧ hk (E.getD j d5) (dst E) a b := by
  obtain ⟨j0, j1, j2⟩ := hk_ex hE hm hab h
  obtain ⟨j, hj⟩ := fsf_ex (E := E) (D := dst E) (a := a) (b := b) E.length 0 ⟨j0, by omega, by omega, j2⟩
  obtain ⟨x, y, z⟩ := fsf_pr _ _ _ hj
  refine ⟨j, ?_, hj, by omega, z⟩
  unfold fS1
  rw [if_neg (by omega), hj]
def udN {α : Type} (f : Nat → α) (k : Nat) (x : α) : Nat → α := fun j => if j = k then x else f j
theorem udN_eq {α : Type} {f : Nat → α} {k : Nat} {x : α} : udN f k x k = x := if_pos rfl
theorem udN_ne {α : Type} {f : Nat → α} {k j : Nat} {x : α} (h : j ≠ k) : udN f k x j = f j := if_neg h
def cOff (C : Cw) (th s : Nat) (o : Int32) : Cw := (C.1, C.2.1, udN C.2.2.1 th (-1), udN C.2.2.2.1 th (o3 s), udN C.2.2.2.2.1 th 0, udN C.2.2.2.2.2.1 th o, C.2.2.2.2.2.2)
def cOb1 (F : List (Nat × Nat)) (E : List St5) (Q : List Cl) (C : Cw) (th : Nat) : Cw :=
  if C.2.2.1 th < 0 then C
  else if 0 ≤ (gl (wd F C th) Q).toInt ∧ (gl (wd F C th) Q).toInt < F.length then
    (match fS1 E (C.2.2.1 th).toNatClampNeg (gl (wd F C th) Q).toNatClampNeg with
      | some k => cOff C th k (oeI (E.getD k d5) (C.2.2.1 th).toNatClampNeg)
      | none => C)
  else C
def cOb (F : List (Nat × Nat)) (E : List St5) (Q : List Cl) (C : Cw) : Nat → Cw
  | 0 => C
  | k + 1 => cOb1 F E Q (cOb F E Q C k) k
theorem cOff_ok {m : Nat} {E : List St5} {C : Cw} {th s f : Nat} {D : Mx} {b : Nat} (hC : okD m E C) (hE : ∀ q ∈ E, okS m q) (hs : s < E.length) (hh : hk (E.getD s d5) D f b) : okD m E (cOff C th s (oeI (E.getD s d5) f)) := by
  obtain ⟨c1, c2, c3⟩ := hC
  refine ⟨c1, c2, fun k hk' => ?_⟩
  obtain ⟨d1, d2, d3⟩ := c3 k hk'
  refine ⟨?_, d2, d3⟩
  by_cases e : k = th
  · subst e
    obtain ⟨_, _, _, s4, _⟩ := hE _ (gd_mem (d := d5) hs)
    show okT m E (udN _ k _ k) (udN _ k _ k) (udN _ k _ k) (udN _ k _ k)
    rw [udN_eq, udN_eq, udN_eq, udN_eq]
    rcases hh with ⟨h1, _⟩ | ⟨h1, h2, _⟩
    · refine Or.inr ⟨s, 0, (E.getD s d5).2.1, hs, rfl, rfl, rfl, by omega, ?_, Or.inr rfl⟩
      unfold oeI
      rw [if_pos h1]
    · refine Or.inr ⟨s, 0, (E.getD s d5).1, hs, rfl, rfl, rfl, by omega, ?_, Or.inl rfl⟩
      unfold oeI
      rw [if_neg h1, if_pos h2]
  · show okT m E (udN _ th _ k) (udN _ th _ k) (udN _ th _ k) (udN _ th _ k)
    rw [udN_ne e, udN_ne e, udN_ne e, udN_ne e]
    exact d1
theorem okT_nn {m : Nat} {E : List St5} {p w g e : Int32} (h : okT m E p w g e) (hm : m ≤ 10) (hp : ¬ p < 0) : ∃ f, f < m ∧ p = o3 f := by
  rcases h with ⟨f, h1, h2, _⟩ | ⟨s, j, f, _, h2, _⟩
  · exact ⟨f, h1, h2⟩
  · rw [h2] at hp; exact absurd (by decide) hp
theorem gl_cs {W : Nat → Int64} : ∀ Q, okRu Q → gl W Q = -1 ∨ ∃ g, g ≤ 9 ∧ gl W Q = o3 g := by
  intro Q
  induction Q with
  | nil => intro _; exact Or.inl rfl
  | cons q Q ih =>
    intro h
    obtain ⟨q1, t⟩ := q
    have h1 : q1 ≤ 9 := (h (q1, t) List.mem_cons_self).1
    cases t with
    | none => exact Or.inr ⟨q1, h1, rfl⟩
    | some w =>
      show (if vw W w = 0 then gl W Q else o3 q1) = -1 ∨ ∃ g, g ≤ 9 ∧ (if vw W w = 0 then gl W Q else o3 q1) = o3 g
      split
      · exact ih (fun z hz => h z (List.mem_cons_of_mem _ hz))
      · exact Or.inr ⟨q1, h1, rfl⟩
theorem cOb1_ok {F : List (Nat × Nat)} {E : List St5} {Q : List Cl} {C : Cw} {th : Nat} (hC : okD F.length E C) (hE : ∀ q ∈ E, okS F.length q) (hm : F.length ≤ 10) (hth : th < C.1) : okD F.length E (cOb1 F E Q C th) ∧ (cOb1 F E Q C th).1 = C.1 ∧ (cOb1 F E Q C th).2.1 = C.2.1 := by
  unfold cOb1
  by_cases h0 : C.2.2.1 th < 0
  · rw [if_pos h0]; exact ⟨hC, rfl, rfl⟩
  rw [if_neg h0]
  by_cases h1 : 0 ≤ (gl (wd F C th) Q).toInt ∧ (gl (wd F C th) Q).toInt < F.length
  · rw [if_pos h1]
    cases hf : fS1 E (C.2.2.1 th).toNatClampNeg (gl (wd F C th) Q).toNatClampNeg with
    | none => exact ⟨hC, rfl, rfl⟩
    | some k =>
      unfold fS1 at hf
      split at hf
      · exact nomatch hf
      · obtain ⟨x, y, z⟩ := fsf_pr _ _ _ hf
        exact ⟨cOff_ok hC hE (by omega) z, rfl, rfl⟩
  · rw [if_neg h1]; exact ⟨hC, rfl, rfl⟩
theorem cOb_ok {F : List (Nat × Nat)} {E : List St5} {Q : List Cl} {C : Cw} (hC : okD F.length E C) (hE : ∀ q ∈ E, okS F.length q) (hm : F.length ≤ 10) : ∀ k, k ≤ C.1 → okD F.length E (cOb F E Q C k) ∧ (cOb F E Q C k).1 = C.1 ∧ (cOb F E Q C k).2.1 = C.2.1 := by
  intro k
  induction k with
  | zero => intro _; exact ⟨hC, rfl, rfl⟩
  | succ k ih =>
    intro hk
    obtain ⟨a, b, c⟩ := ih (by omega)
    obtain ⟨x, y, z⟩ := cOb1_ok (Q := Q) (th := k) a hE hm (by omega)
    exact ⟨x, y.trans b, z.trans c⟩
/-- an hour passes -/
abbrev stays (E : List St5) (C : Cw) (k : Nat) : Prop := C.2.2.2.2.1 k + 1 < o3 (E.getD (C.2.2.2.1 k).toNatClampNeg d5).2.2.1
def cPs (F : List (Nat × Nat)) (E : List St5) (C : Cw) : Cw := (C.1, C.2.1 + 1,
  fun k => if C.2.2.1 k < 0 then (if stays E C k then C.2.2.1 k else C.2.2.2.2.2.1 k) else C.2.2.1 k,
  fun k => if C.2.2.1 k < 0 then (if stays E C k then C.2.2.2.1 k else -1) else C.2.2.2.1 k,
  fun k => if C.2.2.1 k < 0 then (if stays E C k then C.2.2.2.2.1 k + 1 else 0) else C.2.2.2.2.1 k,
  fun k => if C.2.2.1 k < 0 then (if stays E C k then C.2.2.2.2.2.1 k else -1) else C.2.2.2.2.2.1 k,
  fun k => if C.2.2.1 k < 0 then C.2.2.2.2.2.2 k + pc (E.getD (C.2.2.2.1 k).toNatClampNeg d5).2.2.2 else C.2.2.2.2.2.2 k + pc (F.getD (C.2.2.1 k).toNatClampNeg (0, 0)))
theorem pc_le {q : Nat × Nat} (h : okF q) : 0 ≤ (pc q).toInt ∧ (pc q).toInt ≤ 4655851200 := by
  obtain ⟨h1, h2, h3, h4⟩ := h
  have hp : q.1 * (232792560 / q.2) ≤ 20 * 232792560 := Nat.mul_le_mul h2 (Nat.div_le_self _ _)
  unfold pc
  rw [o6_int (by omega)]
  omega
theorem cPs_ok {F : List (Nat × Nat)} {E : List St5} {C : Cw} (hC : okD F.length E C) (hF : ∀ q ∈ F, okF q) (hE : ∀ q ∈ E, okS F.length q) (hm : F.length ≤ 10) (hl : E.length ≤ 12) (h9 : C.2.1 < 10199) : okD F.length E (cPs F E C) := by
  obtain ⟨c1, c2, c3⟩ := hC
  refine ⟨c1, by show C.2.1 + 1 ≤ 10199; omega, fun k hk' => ?_⟩
  obtain ⟨d1, d2, d3⟩ := c3 k hk'
  have c1' : k < 8 := by have : k < C.1 := hk'; omega
  have hage : ∀ x : Int64, 0 ≤ x.toInt → x.toInt ≤ 4655851200 → 0 ≤ (C.2.2.2.2.2.2 k + x).toInt ∧ (C.2.2.2.2.2.2 k + x).toInt ≤ 4655851200 * ((C.2.1 + 1 : Nat) : Int) := fun x h1 h2 => by
    rw [nl_add (by omega) (by omega)]
    omega
  show okT _ _ (if C.2.2.1 k < 0 then _ else _) (if C.2.2.1 k < 0 then _ else _) (if C.2.2.1 k < 0 then _ else _) (if C.2.2.1 k < 0 then _ else _) ∧ 0 ≤ (if C.2.2.1 k < 0 then _ else _ : Int64).toInt ∧ (if C.2.2.1 k < 0 then _ else _ : Int64).toInt ≤ _
  rcases d1 with ⟨f, e1, e2, e3, e4, e5⟩ | ⟨s, j, f, e1, e2, e3, e4, e5, e6, e7⟩
  · have hn : ¬ C.2.2.1 k < 0 := by rw [e2]; exact o3_nn (by omega)
    rw [if_neg hn, if_neg hn, if_neg hn, if_neg hn, if_neg hn, e2, o3_nat (by omega)]
    have := pc_le (hF _ (gd_mem (d := (0, 0)) e1))
    exact ⟨Or.inl ⟨f, e1, rfl, e3, e4, e5⟩, hage _ this.1 this.2⟩
  · have hn : C.2.2.1 k < 0 := by rw [e2]; decide
    obtain ⟨s1, s2, s3, s4, s5, s6⟩ := hE _ (gd_mem (d := d5) e1)
    rw [if_pos hn, if_pos hn, if_pos hn, if_pos hn, if_pos hn]
    have := pc_le s6
    have hst : stays E C k ↔ j + 1 < (E.getD s d5).2.2.1 := by
      unfold stays
      rw [e3, e4, o3_s, o3_nat (by omega), o3_lt (by omega) (by omega)]
    refine ⟨?_, ?_⟩
    · by_cases hs : stays E C k
      · rw [if_pos hs, if_pos hs, if_pos hs, if_pos hs, e2, e3, e4, o3_s]
        exact Or.inr ⟨s, j + 1, f, e1, rfl, rfl, rfl, hst.mp hs, e6, e7⟩
      · rw [if_neg hs, if_neg hs, if_neg hs, if_neg hs, e6]
        exact Or.inl ⟨f, by rcases e7 with e | e <;> omega, rfl, rfl, rfl, rfl⟩
    · rw [e3, o3_nat (by omega)]
      exact hage _ this.1 this.2
/-- an hour by a rule, or by none -/
def cHr (F : List (Nat × Nat)) (E : List St5) (Q : Option (List Cl)) (C : Cw) : Cw := match Q with
  | none => cPs F E C
  | some L => cPs F E (cOb F E L C C.1)
def cHrs (F : List (Nat × Nat)) (E : List St5) (Q : Option (List Cl)) : Nat → Cw → Cw
  | 0, C => C
  | k + 1, C => cHrs F E Q k (cHr F E Q C)
theorem cHr_ok {F : List (Nat × Nat)} {E : List St5} {Q : Option (List Cl)} {C : Cw} (hC : okD F.length E C) (hF : ∀ q ∈ F, okF q) (hE : ∀ q ∈ E, okS F.length q) (hm : F.length ≤ 10) (hl : E.length ≤ 12) (h9 : C.2.1 < 10199) : okD F.length E (cHr F E Q C) ∧ (cHr F E Q C).1 = C.1 ∧ (cHr F E Q C).2.1 = C.2.1 + 1 := by
  cases Q with
  | none => exact ⟨cPs_ok hC hF hE hm hl h9, rfl, rfl⟩
  | some L =>
    obtain ⟨a, b, c⟩ := cOb_ok (Q := L) hC hE hm C.1 (Nat.le_refl _)
    exact ⟨cPs_ok a hF hE hm hl (by omega), b, by show (cOb F E L C C.1).2.1 + 1 = _; rw [c]⟩
end
section
/-! the class: an hour -/
section CH
variable {S : fS} {t c : Nat} {F : List (Nat × Nat)} {E : List St5} {C : Cw}
theorem oe_or {q : St5} {a m : Nat} (hq : okS m q) (hm : m ≤ 10) : (∃ o, o < m ∧ oeI q a = o3 o ∧ ((q.1 = a ∧ o = q.2.1) ∨ (q.1 ≠ a ∧ q.2.1 = a ∧ o = q.1))) ∨ (oeI q a = -1 ∧ q.1 ≠ a ∧ q.2.1 ≠ a) := by
  obtain ⟨s1, s2, _⟩ := hq
  unfold oeI
  by_cases h : q.1 = a
  · rw [if_pos h]; exact Or.inl ⟨q.2.1, s2, rfl, Or.inl ⟨h, rfl⟩⟩
  · rw [if_neg h]
    by_cases g : q.2.1 = a
    · rw [if_pos g]; exact Or.inl ⟨q.1, s1, rfl, Or.inr ⟨h, g, rfl⟩⟩
    · rw [if_neg g]; exact Or.inr ⟨rfl, h, g⟩
theorem ch_other (hT : twC S t F E) (hE : ∀ q ∈ E, okS F.length q) (hm : F.length ≤ 10) (hl : E.length ≤ 12) {k a : Nat} (hk : k < E.length) (ha : a < 2147483648) : f_X8_otherEnd t (o3 k) (o3 a) S = some (oeI (E.getD k d5) a) := by
  obtain ⟨s1, s2, _⟩ := hE _ (gd_mem (d := d5) hk)
  obtain ⟨e1, e2, _⟩ := hT.2.2.2 k hk
  unfold f_X8_otherEnd oeI
  rw [gI_o (by omega) (by omega), bd_some, e1]
  by_cases h : (E.getD k d5).1 = a
  · rw [if_pos ((o3_inj (by omega) ha).mpr h), if_pos h, gI_o (by omega) (by omega), bd_some, e2]
  · rw [if_neg (fun q => h ((o3_inj (by omega) ha).mp q)), if_neg h, gI_o (by omega) (by omega), bd_some, e2]
    by_cases g : (E.getD k d5).2.1 = a
    · rw [if_pos ((o3_inj (by omega) ha).mpr g), if_pos g, bd_some]
    · rw [if_neg (fun q => g ((o3_inj (by omega) ha).mp q)), if_neg g]
theorem ch_btw {m : Nat} (hW : rWm S (t + 6) m (dst E)) (hm : m ≤ 10) {a b : Nat} (ha : a < m) (hb : b < m) : f_X8_hoursBetween t (o3 a) (o3 b) S = some (cwv (dst E a b)) := by
  unfold f_X8_hoursBetween
  rw [show (10 : Int32) = o3 10 from rfl, o3_mul, o3_add, gI_o (by omega) (by omega), bd_some, show a * 10 + b = 10 * a + b by omega, hW a b ha hb]
theorem cwv_cs {E : List St5} {a b : Nat} : (dst E a b = 99999 ∧ cwv (dst E a b) = -1) ∨ (dst E a b < 99999 ∧ cwv (dst E a b) = o3 (dst E a b)) := by
  have h9 := dst_9 (E := E) a b
  unfold cwv
  by_cases h : dst E a b = 99999
  · rw [if_pos h]; exact Or.inl ⟨h, rfl⟩
  · rw [if_neg h]; exact Or.inr ⟨by omega, rfl⟩
def fsI (E : List St5) (a b : Nat) : Int32 := match fS1 E a b with
  | some k => o3 k
  | none => -1
theorem ch_first (hT : twC S t F E) (hW : rWm S (t + 6) F.length (dst E)) (hE : ∀ q ∈ E, okS F.length q) (hm : F.length ≤ 10) (hl : E.length ≤ 12) {a b : Nat} (ha : a < F.length) (hb : b < F.length) : f_X8_firstStair t (o3 a) (o3 b) S = some (fsI E a b) := by
  unfold f_X8_firstStair
  rw [ch_btw hW hm ha hb, bd_some]
  unfold fsI fS1
  have hK : ∀ nn p3 k, 0 < nn → p3 ≤ (0 : Int32) → lp_X8_firstStair_10 t (o3 a) (o3 b) p3 S (fun _ => some (-1)) nn (o3 k) = some (-1) := fun nn p3 k hn hp => by
    obtain ⟨nn, rfl⟩ : ∃ z, nn = z + 1 := ⟨nn - 1, by omega⟩
    rw [lp_X8_firstStair_10.eq_2]
    by_cases hz : S.1 t 7 ≤ o3 k
    · rw [if_pos hz]
    · rw [if_neg hz, if_pos hp]
  rcases cwv_cs (E := E) (a := a) (b := b) with ⟨h, e⟩ | ⟨h, e⟩
  · rw [e, if_pos (Or.inr h)]
    exact hK FU _ 0 (FU_lt (by omega)) (by decide)
  · rw [e]
    by_cases hab : a = b
    · rw [if_pos (Or.inl hab)]
      have : dst E a b = 0 := by rw [hab]; exact dst_z b
      rw [this]
      exact hK FU _ 0 (FU_lt (by omega)) (by decide)
    · have hp := dst_pos hE hm hab h
      rw [if_neg (by omega)]
      have key : ∀ d k nn, k + d = E.length → d < nn → lp_X8_firstStair_10 t (o3 a) (o3 b) (o3 (dst E a b)) S (fun _ => some (-1)) nn (o3 k) = some (match fsf E (dst E) a b d k with
          | some k => o3 k
          | none => -1) := by
        intro d
        induction d with
        | zero =>
          intro k nn hk hnn
          obtain ⟨nn, rfl⟩ : ∃ z, nn = z + 1 := ⟨nn - 1, by omega⟩
          rw [lp_X8_firstStair_10.eq_2, hT.2.1, if_pos ((o3_le (by omega) (by omega)).mpr (by omega))]
          rfl
        | succ d ih =>
          intro k nn hk' hnn
          obtain ⟨nn, rfl⟩ : ∃ z, nn = z + 1 := ⟨nn - 1, by omega⟩
          have hkl : k < E.length := by omega
          have hq := hE _ (gd_mem (d := d5) hkl)
          rw [show fsf E (dst E) a b (d + 1) k = if hk (E.getD k d5) (dst E) a b then some k else fsf E (dst E) a b d (k + 1) from rfl]
          rw [lp_X8_firstStair_10.eq_2, hT.2.1, if_neg (fun q => by have := (o3_le (by omega) (by omega)).mp q; omega), if_neg (show ¬ o3 (dst E a b) ≤ (0 : Int32) from fun q => by have := (o3_le (b := 0) (by omega) (by omega)).mp q; omega), ch_other hT hE hm hl hkl (by omega), bd_some, o3_s]
          have hh := (hT.2.2.2 k hkl).2.2.1
          rcases oe_or (a := a) hq hm with ⟨o, o1, o2, o3'⟩ | ⟨o2, n1, n2⟩
          · rw [o2, if_pos (o3_0le (by omega)), ch_btw hW hm o1 hb, bd_some]
            have h9 := hq.2.2.2.2.1
            rcases cwv_cs (E := E) (a := o) (b := b) with ⟨g, e⟩ | ⟨g, e⟩
            · rw [e, if_pos (show (-1 : Int32) < 0 by decide), if_neg (fun q => by
                rcases q with ⟨q1, q2, _⟩ | ⟨q1, q2, q3, _⟩
                · rcases o3' with ⟨_, w⟩ | ⟨w, _⟩
                  · rw [← w] at q2; omega
                  · exact w q1
                · rcases o3' with ⟨w, _⟩ | ⟨_, _, w⟩
                  · exact q1 w
                  · rw [← w] at q3; omega)]
              exact ih (k + 1) nn (by omega) (by omega)
            · rw [e, if_neg (o3_nn (by omega)), gI_o (by omega) (by omega), bd_some, hh, o3_add]
              have heq : o3 ((E.getD k d5).2.2.1 + dst E o b) = o3 (dst E a b) ↔ hk (E.getD k d5) (dst E) a b := by
                rw [o3_inj (by omega) (by omega)]
                constructor
                · intro z
                  rcases o3' with ⟨w1, w2⟩ | ⟨w1, w2, w3⟩
                  · exact Or.inl ⟨w1, by rw [← w2]; exact g, by rw [← w2]; exact z⟩
                  · exact Or.inr ⟨w1, w2, by rw [← w3]; exact g, by rw [← w3]; exact z⟩
                · intro z
                  rcases z with ⟨q1, _, q2⟩ | ⟨q1, q2, _, q3⟩
                  · rcases o3' with ⟨_, w⟩ | ⟨w, _⟩
                    · rw [w]; exact q2
                    · exact absurd q1 w
                  · rcases o3' with ⟨w, _⟩ | ⟨_, _, w⟩
                    · exact absurd w q1
                    · rw [w]; exact q3
              by_cases hx : hk (E.getD k d5) (dst E) a b
              · rw [if_pos (heq.mpr hx), if_pos hx]
              · rw [if_neg (fun q => hx (heq.mp q)), if_neg hx]
                exact ih (k + 1) nn (by omega) (by omega)
          · rw [o2, if_neg (show ¬ (0 : Int32) ≤ -1 by decide), if_pos (show (-1 : Int32) < 0 by decide), if_neg (fun q => by
              rcases q with ⟨q1, _⟩ | ⟨_, q2, _⟩
              · exact n1 q1
              · exact n2 q2)]
            exact ih (k + 1) nn (by omega) (by omega)
      exact key E.length 0 FU (by omega) (FU_lt (by omega))
/-- what a crowd at c, going by a rule at p, may write -/
def eG (c p : Nat) (S T : fS) : Prop := (∀ a k, ¬ (c + 1 ≤ a ∧ a ≤ c + 4) → ¬ (a = c ∧ k = 6) → ¬ (a = p ∧ k = 3) → T.1 a k = S.1 a k) ∧ (∀ a k, a ≠ c + 5 → a ≠ p + 2 → T.2 a k = S.2 a k)
theorem eG.rf {c p : Nat} {S : fS} : eG c p S S := ⟨fun _ _ _ _ _ => rfl, fun _ _ _ _ => rfl⟩
theorem eG.tr {c p : Nat} {S T U : fS} (h : eG c p S T) (g : eG c p T U) : eG c p S U := ⟨fun a k x y z => (g.1 a k x y z).trans (h.1 a k x y z), fun a k x y => (g.2 a k x y).trans (h.2 a k x y)⟩
theorem eG_K {c p : Nat} {S T : fS} (h : eK p S T) : eG c p S T := ⟨fun a k _ _ z => h.1 a k z, fun a k _ y => h.2 a k y⟩
theorem twC_eq {S T : fS} {t : Nat} {F : List (Nat × Nat)} {E : List St5} (h : twC S t F E) (h1 : ∀ a k, t ≤ a → a ≤ t + 6 → T.1 a k = S.1 a k) (h2 : ∀ a k, t ≤ a → a ≤ t + 6 → T.2 a k = S.2 a k) : twC T t F E := by
  obtain ⟨a, b, c, d⟩ := h
  refine ⟨(h1 _ _ (by omega) (by omega)).trans a, (h1 _ _ (by omega) (by omega)).trans b, fun k hk => (h2 _ _ (by omega) (by omega)).trans (c k hk), fun k hk => ?_⟩
  obtain ⟨e1, e2, e3, e4⟩ := d k hk
  exact ⟨(h1 _ _ (by omega) (by omega)).trans e1, (h1 _ _ (by omega) (by omega)).trans e2, (h1 _ _ (by omega) (by omega)).trans e3, (h2 _ _ (by omega) (by omega)).trans e4⟩
theorem rWm_eq {S T : fS} {r m : Nat} {w : Mx} (h : rWm S r m w) (h1 : ∀ k, T.1 r k = S.1 r k) : rWm T r m w := fun a b ha hb => (h1 _).trans (h a b ha hb)
theorem cdC_eq {S T : fS} {p : Nat} {q : List (Nat × Nat)} (h : cdC S p q) (h1 : T.1 p 2 = S.1 p 2) (h2 : ∀ k, T.1 (p + 1) k = S.1 (p + 1) k) : cdC T p q := ⟨h1.trans h.1, h.2.1, fun k hk => (h2 k).trans (h.2.2 k hk)⟩
theorem cwC_eq {S T : fS} {c : Nat} {C : Cw} (h : cwC S c C) (h1 : ∀ a k, c ≤ a → a ≤ c + 4 → T.1 a k = S.1 a k) (h2 : ∀ k, T.2 (c + 5) k = S.2 (c + 5) k) : cwC T c C := by
  obtain ⟨a, b, d⟩ := h
  refine ⟨(h1 _ _ (by omega) (by omega)).trans a, (h1 _ _ (by omega) (by omega)).trans b, fun k hk => ?_⟩
  obtain ⟨e1, e2, e3, e4, e5⟩ := d k hk
  exact ⟨(h1 _ _ (by omega) (by omega)).trans e1, (h1 _ _ (by omega) (by omega)).trans e2, (h1 _ _ (by omega) (by omega)).trans e3, (h1 _ _ (by omega) (by omega)).trans e4, (h2 _).trans e5⟩
theorem ch_off (hC : cwC S c C) (h8 : C.1 ≤ 8) (hT : twC S t F E) (hE : ∀ q ∈ E, okS F.length q) (hm : F.length ≤ 10) (hl : E.length ≤ 12) {th k a : Nat} (hth : th < C.1) (hk : k < E.length) (ha : a < F.length) (hp : C.2.2.1 th = o3 a) : ∃ T, f_X0_setOff c t (o3 th) (o3 k) S = some (if oeI (E.getD k d5) a = -1 then (0, S) else (1, T)) ∧ cwC T c (cOff C th k (oeI (E.getD k d5) a)) ∧ (∀ p, eG c p S T) := by
  obtain ⟨k1, k2, k3, k4, k5⟩ := hC.2.2 th hth
  unfold f_X0_setOff
  rw [if_pos (o3_0le (by omega)), gI_o (by omega) (by omega), bd_some, k1, hp, ch_other hT hE hm hl hk (by omega), bd_some]
  refine ⟨pI (pI (pI (pI S (c + 1) th (-1)) (c + 2) th (o3 k)) (c + 3) th 0) (c + 4) th (oeI (E.getD k d5) a), ?_, ?_, fun p => ?_⟩
  · rcases oe_or (a := a) (hE _ (gd_mem (d := d5) hk)) hm with ⟨o, o1, o2, _⟩ | ⟨o2, _⟩
    · rw [o2, if_pos (o3_0le (by omega)), if_neg (o3_m1 (by omega)), sI_o (by omega) (by omega), bd_some, sI_o (by omega) (by omega), bd_some, sI_o (by omega) (by omega), bd_some, sI_o (by omega) (by omega), bd_some]
    · rw [o2, if_neg (by decide), if_pos rfl]
  · refine ⟨?_, ?_, fun j hj => ?_⟩
    · rw [pI_ne (by omega), pI_ne (by omega), pI_ne (by omega), pI_ne (by omega)]; exact hC.1
    · rw [pI_ne (by omega), pI_ne (by omega), pI_ne (by omega), pI_ne (by omega)]; exact hC.2.1
    · obtain ⟨j1, j2, j3, j4, j5⟩ := hC.2.2 j hj
      show _ = udN _ th _ j ∧ _ = udN _ th _ j ∧ _ = udN _ th _ j ∧ _ = udN _ th _ j ∧ _
      by_cases e : j = th
      · subst e
        rw [udN_eq, udN_eq, udN_eq, udN_eq]
        refine ⟨?_, ?_, ?_, ?_, j5⟩
        · rw [pI_ne (by omega), pI_ne (by omega), pI_ne (by omega), pI_eq]
        · rw [pI_ne (by omega), pI_ne (by omega), pI_eq]
        · rw [pI_ne (by omega), pI_eq]
        · rw [pI_eq]
      · rw [udN_ne e, udN_ne e, udN_ne e, udN_ne e]
        refine ⟨?_, ?_, ?_, ?_, j5⟩
        · rw [pI_ne (by omega), pI_ne (by omega), pI_ne (by omega), pI_ne (by omega)]; exact j1
        · rw [pI_ne (by omega), pI_ne (by omega), pI_ne (by omega), pI_ne (by omega)]; exact j2
        · rw [pI_ne (by omega), pI_ne (by omega), pI_ne (by omega), pI_ne (by omega)]; exact j3
        · rw [pI_ne (by omega), pI_ne (by omega), pI_ne (by omega), pI_ne (by omega)]; exact j4
  · refine ⟨fun b j x _ _ => ?_, fun _ _ _ _ => rfl⟩
    rw [pI_ne (by omega), pI_ne (by omega), pI_ne (by omega), pI_ne (by omega)]
theorem oe_hk {D : Mx} {q : St5} {a b m : Nat} (hq : okS m q) (hm : m ≤ 10) (h : hk q D a b) : oeI q a ≠ -1 := by
  rcases oe_or (a := a) hq hm with ⟨o, o1, o2, _⟩ | ⟨_, n1, n2⟩
  · rw [o2]; exact o3_m1 (by omega)
  · rcases h with ⟨h, _⟩ | ⟨_, h, _⟩
    · exact absurd h n1
    · exact absurd h n2
theorem from_o {v : Int32} {m : Nat} {S : fS} (hm : m < 2147483648) : f_X10_isFrom v 0 (o3 m - 1) S = some (if 0 ≤ v.toInt ∧ v.toInt < m then 1 else 0) := by
  have e : (o3 m - 1 : Int32).toInt = (m : Int) - 1 := by
    rw [ni_sub (by rw [o3_int hm, show (1 : Int32).toInt = 1 from rfl]; omega) (by rw [o3_int hm, show (1 : Int32).toInt = 1 from rfl]; omega), o3_int hm]
    rfl
  rcases op_isFrom01 (v := v) (a := 0) (b := o3 m - 1) (S := S) with ⟨h, g⟩ | ⟨h, g1, g2⟩
  · rw [h, if_neg (by rw [e, ni_0] at g; omega)]
  · rw [h, if_pos (by rw [e] at g2; rw [ni_0] at g1; omega)]
theorem ch_obey {p : Nat} {Q : List Cl} (htc : t + 6 < c) (hcp : c + 5 < p) (hF : ∀ q ∈ F, okF q) (hE : ∀ q ∈ E, okS F.length q) (hm : F.length ≤ 10) (hl : E.length ≤ 12) (hQ : okRu Q) {K : fS → Option fS} : ∀ d k nn (S : fS), k + d = C.1 → d < nn → okD F.length E C → cwC S c (cOb F E Q C k) → twC S t F E → rWm S (t + 6) F.length (dst E) → cdC S p (ccode Q) → ∃ T, lp_X0_obey_2 c t p K nn (o3 k) S = K T ∧ cwC T c (cOb F E Q C C.1) ∧ eG c p S T := by
  intro d
  induction d with
  | zero =>
    intro k nn S hk hnn hC hS hT hW hD
    obtain ⟨nn, rfl⟩ : ∃ z, nn = z + 1 := ⟨nn - 1, by omega⟩
    obtain ⟨o1, o2, o3'⟩ := cOb_ok (Q := Q) hC hE hm k (by omega)
    have h8 := hC.1
    rw [lp_X0_obey_2.eq_2, hS.1, o2, if_pos ((o3_le (by omega) (by omega)).mpr (by omega))]
    rw [show k = C.1 by omega] at hS
    exact ⟨S, rfl, hS, eG.rf⟩
  | succ d ih =>
    intro k nn S hk hnn hC hS hT hW hD
    obtain ⟨nn, rfl⟩ : ∃ z, nn = z + 1 := ⟨nn - 1, by omega⟩
    obtain ⟨o1, o2, o4⟩ := cOb_ok (Q := Q) hC hE hm k (by omega)
    have h8 := hC.1
    have h9 := hC.2.1
    have hs : cOb F E Q C (k + 1) = cOb1 F E Q (cOb F E Q C k) k := rfl
    generalize hCk : cOb F E Q C k = Ck at hS o1 o2 o4 hs
    obtain ⟨k1, k2, k3, k4, k5⟩ := hS.2.2 k (by omega)
    rw [lp_X0_obey_2.eq_2, hS.1, o2, if_neg (fun q => by have := (o3_le (by omega) (by omega)).mp q; omega), o3_s]
    unfold f_X0_isStanding
    rw [gI_o (by omega) (by omega), bd_some, k1]
    unfold cOb1 at hs
    by_cases h0 : Ck.2.2.1 k < 0
    · rw [if_pos h0] at hs ⊢
      rw [bd_some, if_pos rfl]
      exact ih (k + 1) nn S (by omega) (by omega) hC (by rw [hs]; exact hS) hT hW hD
    · rw [if_neg h0] at hs ⊢
      obtain ⟨f, f1, f2⟩ := okT_nn (o1.2.2 k (by omega)).1 hm h0
      rw [bd_some, if_neg (show ¬ (1 : Int32) = 0 by decide)]
      obtain ⟨T1, t1, t2⟩ := c_goal (S := S) (p := p) (t0 := t) (c0 := c) (th := o3 k) (W := wd F Ck k) (Q := Q) (fun U hU v hv => c_word (cwC_eq hS (fun a j x y => hU.1 a j (by omega)) (fun j => hU.2 _ j (by omega))) (twC_eq hT (fun a j x y => hU.1 a j (by omega)) (fun a j x y => hU.2 a j (by omega))) hF (by omega) (by omega) hm (by omega) f1 f2 hv) hD hQ
      have hS1 : cwC T1 c Ck := cwC_eq hS (fun a j x y => t2.1 a j (by omega)) (fun j => t2.2 _ j (by omega))
      have hT1 : twC T1 t F E := twC_eq hT (fun a j x y => t2.1 a j (by omega)) (fun a j x y => t2.2 a j (by omega))
      have hW1 : rWm T1 (t + 6) F.length (dst E) := rWm_eq hW (fun j => t2.1 _ j (by omega))
      have hD1 : cdC T1 p (ccode Q) := cdC_eq hD (t2.1 _ _ (by omega)) (fun j => t2.1 _ j (by omega))
      rw [t1, bd_some]
      dsimp only
      rw [hT1.1, from_o (by omega), bd_some]
      by_cases hg : 0 ≤ (gl (wd F Ck k) Q).toInt ∧ (gl (wd F Ck k) Q).toInt < F.length
      · rw [if_pos hg] at hs
        rw [if_pos hg, if_neg (show ¬ (1 : Int32) = 0 by decide), gI_o (by omega) (by omega), bd_some, (hS1.2.2 k (by omega)).1, f2]
        rw [f2, o3_nat (by omega)] at hs
        obtain ⟨g, g1, g2⟩ := o3_ex hg.1
        rw [g1, ch_first hT1 hW1 hE hm hl f1 (by omega), bd_some]
        rw [g1, o3_nat (by omega)] at hs
        unfold fsI
        cases hfs : fS1 E f g with
        | none =>
          rw [hfs] at hs
          have hso : f_X0_setOff c t (o3 k) (-1) T1 = some (0, T1) := by
            unfold f_X0_setOff
            rw [if_neg (by decide), if_neg (by decide)]
          dsimp only at hs ⊢
          rw [hso, bd_some]
          obtain ⟨T, a1, a2, a3⟩ := ih (k + 1) nn T1 (by omega) (by omega) hC (by rw [hs]; exact hS1) hT1 hW1 hD1
          exact ⟨T, a1, a2, (eG_K t2).tr a3⟩
        | some s =>
          rw [hfs] at hs
          dsimp only at hs ⊢
          unfold fS1 at hfs
          split at hfs
          · exact nomatch hfs
          · obtain ⟨x, y, z⟩ := fsf_pr _ _ _ hfs
            have hsl : s < E.length := by omega
            obtain ⟨T2, b1, b2, b3⟩ := ch_off hS1 (by omega) hT1 hE hm hl (th := k) (k := s) (a := f) (by omega) hsl f1 f2
            rw [b1, bd_some, if_neg (oe_hk (hE _ (gd_mem (d := d5) hsl)) hm z)]
            have b3 := b3 p
            obtain ⟨T, a1, a2, a3⟩ := ih (k + 1) nn T2 (by omega) (by omega) hC (by rw [hs]; exact b2) (twC_eq hT1 (fun a j x y => b3.1 a j (by omega) (by omega) (by omega)) (fun a j x y => b3.2 a j (by omega) (by omega))) (rWm_eq hW1 (fun j => b3.1 _ j (by omega) (by omega) (by omega))) (cdC_eq hD1 (b3.1 _ _ (by omega) (by omega) (by omega)) (fun j => b3.1 _ j (by omega) (by omega) (by omega)))
            exact ⟨T, a1, a2, ((eG_K t2).tr b3).tr a3⟩
      · rw [if_neg hg] at hs
        rw [if_neg hg, if_pos rfl]
        obtain ⟨T, a1, a2, a3⟩ := ih (k + 1) nn T1 (by omega) (by omega) hC (by rw [hs]; exact hS1) hT1 hW1 hD1
        exact ⟨T, a1, a2, (eG_K t2).tr a3⟩
end CH
end
section
/-! the class: an hour passes; hours lived -/
def rowC (S : fS) (c : Nat) (C : Cw) (k : Nat) : Prop := S.1 (c + 1) k = C.2.2.1 k ∧ S.1 (c + 2) k = C.2.2.2.1 k ∧ S.1 (c + 3) k = C.2.2.2.2.1 k ∧ S.1 (c + 4) k = C.2.2.2.2.2.1 k ∧ S.2 (c + 5) k = C.2.2.2.2.2.2 k
section CP
variable {t c : Nat} {F : List (Nat × Nat)} {E : List St5} {C : Cw}
theorem cp_loop (htc : t + 6 < c) (hF : ∀ q ∈ F, okF q) (hE : ∀ q ∈ E, okS F.length q) (hm : F.length ≤ 10) (hl : E.length ≤ 12) (hC : okD F.length E C) {K : fS → Option fS} : ∀ d k nn (S : fS), k + d = C.1 → d < nn → S.1 c 5 = o3 C.1 → (∀ j, j < k → rowC S c (cPs F E C) j) → (∀ j, k ≤ j → j < C.1 → rowC S c C j) → twC S t F E → ∃ T, lp_X0_passHour_2 c t K nn (o3 k) S = K T ∧ (∀ j, j < C.1 → rowC T c (cPs F E C) j) ∧ (∀ a j, ¬ (c + 1 ≤ a ∧ a ≤ c + 4) → T.1 a j = S.1 a j) ∧ (∀ a j, a ≠ c + 5 → T.2 a j = S.2 a j) := by
  intro d
  induction d with
  | zero =>
    intro k nn S hk hnn h5 hn ho hT
    obtain ⟨nn, rfl⟩ : ∃ z, nn = z + 1 := ⟨nn - 1, by omega⟩
    have h8 := hC.1
    rw [lp_X0_passHour_2.eq_2, h5, if_pos ((o3_le (by omega) (by omega)).mpr (by omega))]
    exact ⟨S, rfl, fun j hj => hn j (by omega), fun _ _ _ => rfl, fun _ _ _ => rfl⟩
  | succ d ih =>
    intro k nn S hk hnn h5 hn ho hT
    obtain ⟨nn, rfl⟩ : ∃ z, nn = z + 1 := ⟨nn - 1, by omega⟩
    have h8 := hC.1
    obtain ⟨k1, k2, k3, k4, k5⟩ := ho k (Nat.le_refl _) (by omega)
    obtain ⟨d1, d2, d3⟩ := hC.2.2 k (by omega)
    rw [lp_X0_passHour_2.eq_2, h5, if_neg (fun q => by have := (o3_le (by omega) (by omega)).mp q; omega), o3_s]
    unfold f_X0_isStanding
    rw [gI_o (by omega) (by omega), bd_some, k1]
    have nxt : ∀ S1 : fS, rowC S1 c (cPs F E C) k → (∀ a j, ¬ (c + 1 ≤ a ∧ a ≤ c + 4 ∧ j = k) → S1.1 a j = S.1 a j) → (∀ a j, ¬ (a = c + 5 ∧ j = k) → S1.2 a j = S.2 a j) → ∃ T, lp_X0_passHour_2 c t K nn (o3 (k + 1)) S1 = K T ∧ (∀ j, j < C.1 → rowC T c (cPs F E C) j) ∧ (∀ a j, ¬ (c + 1 ≤ a ∧ a ≤ c + 4) → T.1 a j = S.1 a j) ∧ (∀ a j, a ≠ c + 5 → T.2 a j = S.2 a j) := by
      intro S1 hr f1 f2
      have hrow : ∀ C' j, j ≠ k → rowC S c C' j → rowC S1 c C' j := fun C' j hj ⟨r1, r2, r3, r4, r5⟩ => ⟨(f1 _ _ (by omega)).trans r1, (f1 _ _ (by omega)).trans r2, (f1 _ _ (by omega)).trans r3, (f1 _ _ (by omega)).trans r4, (f2 _ _ (by omega)).trans r5⟩
      obtain ⟨T, t1, t2, t3, t4⟩ := ih (k + 1) nn S1 (by omega) (by omega) ((f1 c 5 (by omega)).trans h5) (fun j hj => by
        by_cases e : j = k
        · rw [e]; exact hr
        · exact hrow _ j e (hn j (by omega))) (fun j hj hj2 => hrow _ j (by omega) (ho j (by omega) hj2)) (twC_eq hT (fun a j x y => f1 a j (by omega)) (fun a j x y => f2 a j (by omega)))
      exact ⟨T, t1, t2, fun a j h => (t3 a j h).trans (f1 a j (by omega)), fun a j h => (t4 a j h).trans (f2 a j (by omega))⟩
    rcases d1 with ⟨f, e1, e2, e3, e4, e5⟩ | ⟨s, j, f, e1, e2, e3, e4, e5, e6, e7⟩
    · have h0 : ¬ C.2.2.1 k < 0 := by rw [e2]; exact o3_nn (by omega)
      rw [if_neg h0, bd_some, if_neg (show ¬ (1 : Int32) = 0 by decide), gL_o (by omega) (by omega), bd_some, bd_some, e2, gL_o (by omega) (by omega), bd_some, hT.2.2.1 f e1, k5, sL_o (by omega) (by omega), bd_some]
      refine nxt _ ?_ (fun _ _ _ => rfl) (fun a j h => pL_ne h)
      unfold rowC cPs
      dsimp only
      rw [if_neg h0, if_neg h0, if_neg h0, if_neg h0, if_neg h0, pL_eq, e2, o3_nat (by omega)]
      exact ⟨k1.trans e2, k2, k3, k4, rfl⟩
    · have h0 : C.2.2.1 k < 0 := by rw [e2]; decide
      obtain ⟨s1, s2, s3, s4, s5, s6⟩ := hE _ (gd_mem (d := d5) e1)
      obtain ⟨w1, w2, w3, w4⟩ := hT.2.2.2 s e1
      have hst : stays E C k ↔ j + 1 < (E.getD s d5).2.2.1 := by
        unfold stays
        rw [e3, e4, o3_s, o3_nat (by omega), o3_lt (by omega) (by omega)]
      rw [if_pos h0, bd_some, if_pos rfl, gI_o (by omega) (by omega), bd_some, k2, e3, gL_o (by omega) (by omega), bd_some, gL_o (by omega) (by omega), bd_some, w4, k5, sL_o (by omega) (by omega), bd_some, gI_o (by omega) (by omega), bd_some, pL_1, k3, e4, o3_s, sI_o (by omega) (by omega), bd_some, gI_o (by omega) (by omega), bd_some, pI_eq, gI_o (by omega) (by omega), bd_some, pI_ne (by omega), pL_1, w3]
      by_cases hs : j + 1 < (E.getD s d5).2.2.1
      · rw [if_pos ((o3_lt (by omega) (by omega)).mpr hs)]
        refine nxt _ ?_ (fun a i h => by rw [pI_ne (by omega)]; rfl) (fun a i h => pL_ne h)
        unfold rowC cPs
        dsimp only
        rw [if_pos h0, if_pos h0, if_pos h0, if_pos h0, if_pos h0, if_pos (hst.mpr hs), if_pos (hst.mpr hs), if_pos (hst.mpr hs), if_pos (hst.mpr hs), pI_ne (by omega), pI_ne (by omega), pI_eq, pI_ne (by omega), e4, o3_s, e3, o3_nat (by omega)]
        exact ⟨k1, k2.trans e3, rfl, k4, pL_eq⟩
      · rw [if_neg (fun q => hs ((o3_lt (by omega) (by omega)).mp q)), gI_o (by omega) (by omega), bd_some, pI_ne (by omega), pL_1, k4, e6]
        unfold f_X0_putOn
        rw [sI_o (by omega) (by omega), bd_some, sI_o (by omega) (by omega), bd_some, sI_o (by omega) (by omega), bd_some, sI_o (by omega) (by omega), bd_some, bd_some]
        refine nxt _ ?_ (fun a i h => by rw [pI_ne (by omega), pI_ne (by omega), pI_ne (by omega), pI_ne (by omega), pI_ne (by omega)]; rfl) (fun a i h => pL_ne h)
        unfold rowC cPs
        dsimp only
        have hns : ¬ stays E C k := fun q => hs (hst.mp q)
        rw [if_pos h0, if_pos h0, if_pos h0, if_pos h0, if_pos h0, if_neg hns, if_neg hns, if_neg hns, if_neg hns, pI_eq, e6]
        refine ⟨?_, ?_, ?_, rfl, ?_⟩
        · rw [pI_ne (by omega), pI_ne (by omega), pI_ne (by omega), pI_eq]
        · rw [pI_ne (by omega), pI_ne (by omega), pI_eq]
        · rw [pI_ne (by omega), pI_eq]
        · rw [e3, o3_nat (by omega)]; exact pL_eq
theorem c_pass {S : fS} (htc : t + 6 < c) (hF : ∀ q ∈ F, okF q) (hE : ∀ q ∈ E, okS F.length q) (hm : F.length ≤ 10) (hl : E.length ≤ 12) (hC : okD F.length E C) (hS : cwC S c C) (hT : twC S t F E) : ∃ T, f_X0_passHour c t S = some T ∧ cwC T c (cPs F E C) ∧ ∀ p, eG c p S T := by
  unfold f_X0_passHour
  obtain ⟨T, t1, t2, t3, t4⟩ := cp_loop htc hF hE hm hl hC (K := fun S49 => (some (pI S49 c 6 ((S49.1 c 6) + (1 : Int32)))).bind fun S51 => some S51) C.1 0 FU S (by omega) (FU_lt (by have := hC.1; omega)) hS.1 (fun j hj => absurd hj (Nat.not_lt_zero _)) (fun j _ hj => hS.2.2 j hj) hT
  have t1' : lp_X0_passHour_2 c t (fun S49 => (some (pI S49 c 6 ((S49.1 c 6) + (1 : Int32)))).bind fun S51 => some S51) FU (0 : Int32) S = (fun S49 => (some (pI S49 c 6 ((S49.1 c 6) + (1 : Int32)))).bind fun S51 => some S51) T := t1
  rw [t1']
  dsimp only
  rw [bd_some, t3 c 6 (by omega), hS.2.1, o3_s]
  refine ⟨_, rfl, ⟨?_, ?_, fun k hk => ?_⟩, fun p => ⟨fun a j h1 h2 _ => ?_, fun a j h1 _ => t4 a j h1⟩⟩
  · rw [pI_ne (by omega), t3 c 5 (by omega)]; exact hS.1
  · rw [pI_eq]; rfl
  · obtain ⟨r1, r2, r3, r4, r5⟩ := t2 k hk
    rw [pI_ne (by omega), pI_ne (by omega), pI_ne (by omega), pI_ne (by omega)]
    exact ⟨r1, r2, r3, r4, r5⟩
  · rw [pI_ne h2, t3 a j h1]
theorem lv_n {v x : Int32} {K : fS → Option fS} {n : Nat} {S : fS} : lp_X0_live_3 c t none v K (n + 1) x S = if v ≤ x then K S else ((f_X0_passHour c t S).bind fun q3 => lp_X0_live_3 c t none v K n (x + 1) q3) := rfl
theorem lv_s {r : Nat} {v x : Int32} {K : fS → Option fS} {n : Nat} {S : fS} : lp_X0_live_3 c t (some r) v K (n + 1) x S = if v ≤ x then K S else ((f_X0_obey c t r S).bind fun q6 => (f_X0_passHour c t q6).bind fun q9 => lp_X0_live_3 c t (some r) v K n (x + 1) q9) := rfl
/-- the rule by which one lives, where the class holds it -/
def ruC (S : fS) (p : Option Nat) (Q : Option (List Cl)) : Prop := (p = none ∧ Q = none) ∨ ∃ r L, p = some r ∧ Q = some L ∧ cdC S r (ccode L) ∧ okRu L
theorem c_live {p : Option Nat} {Q : Option (List Cl)} (htc : t + 6 < c) (hcp : c + 5 < p.getD 127) (hF : ∀ q ∈ F, okF q) (hE : ∀ q ∈ E, okS F.length q) (hm : F.length ≤ 10) (hl : E.length ≤ 12) {h : Nat} (hh : h < 2147483648) {K : fS → Option fS} : ∀ d k nn (S : fS) (C : Cw), k + d = h → d < nn → okD F.length E C → C.2.1 + d ≤ 10199 → cwC S c C → twC S t F E → rWm S (t + 6) F.length (dst E) → ruC S p Q → ∃ T, lp_X0_live_3 c t p (o3 h) K nn (o3 k) S = K T ∧ cwC T c (cHrs F E Q d C) ∧ eG c (p.getD 127) S T := by
  intro d
  induction d with
  | zero =>
    intro k nn S C hk hnn hC h9 hS hT hW hR
    obtain ⟨nn, rfl⟩ : ∃ z, nn = z + 1 := ⟨nn - 1, by omega⟩
    have hle : o3 h ≤ o3 k := (o3_le (by omega) (by omega)).mpr (by omega)
    cases p with
    | none => rw [lv_n, if_pos hle]; exact ⟨S, rfl, hS, eG.rf⟩
    | some r => rw [lv_s, if_pos hle]; exact ⟨S, rfl, hS, eG.rf⟩
  | succ d ih =>
    intro k nn S C hk hnn hC h9 hS hT hW hR
    obtain ⟨nn, rfl⟩ : ∃ z, nn = z + 1 := ⟨nn - 1, by omega⟩
    have hle : ¬ o3 h ≤ o3 k := fun q => by have := (o3_le (by omega) (by omega)).mp q; omega
    rcases hR with ⟨rfl, rfl⟩ | ⟨r, L, rfl, rfl, hD, hL⟩
    · obtain ⟨T1, a1, a2, a3⟩ := c_pass htc hF hE hm hl hC hS hT
      have a3 := a3 127
      have hcp : c + 5 < 127 := hcp
      rw [lv_n, if_neg hle, o3_s, a1, bd_some]
      obtain ⟨b1, b2, b3⟩ := cHr_ok (Q := none) hC hF hE hm hl (by omega)
      obtain ⟨T, c1, c2, c3⟩ := ih (k + 1) nn T1 (cHr F E none C) (by omega) (by omega) b1 (by omega) a2 (twC_eq hT (fun a j x y => a3.1 a j (by omega) (by omega) (by omega)) (fun a j x y => a3.2 a j (by omega) (by omega))) (rWm_eq hW (fun j => a3.1 _ j (by omega) (by omega) (by omega))) (Or.inl ⟨rfl, rfl⟩)
      exact ⟨T, c1, c2, a3.tr c3⟩
    · have hcp : c + 5 < r := hcp
      obtain ⟨T0, z1, z2, z3⟩ := ch_obey (K := fun S22 => some S22) htc hcp hF hE hm hl hL C.1 0 FU S (by omega) (FU_lt (by have := hC.1; omega)) hC hS hT hW hD
      have z1' : f_X0_obey c t r S = some T0 := z1
      obtain ⟨o1, o2, o4⟩ := cOb_ok (Q := L) hC hE hm C.1 (Nat.le_refl _)
      have hT0 := twC_eq hT (fun a j x y => z3.1 a j (by omega) (by omega) (by omega)) (fun a j x y => z3.2 a j (by omega) (by omega))
      obtain ⟨T1, a1, a2, a3⟩ := c_pass htc hF hE hm hl o1 z2 hT0
      have a3 := z3.tr (a3 r)
      rw [lv_s, if_neg hle, o3_s, z1', bd_some, a1, bd_some]
      obtain ⟨b1, b2, b3⟩ := cHr_ok (Q := some L) hC hF hE hm hl (by omega)
      obtain ⟨T, c1, c2, c3⟩ := ih (k + 1) nn T1 (cHr F E (some L) C) (by omega) (by omega) b1 (by omega) a2 (twC_eq hT (fun a j x y => a3.1 a j (by omega) (by omega) (by omega)) (fun a j x y => a3.2 a j (by omega) (by omega))) (rWm_eq hW (fun j => a3.1 _ j (by omega) (by omega) (by omega))) (Or.inr ⟨r, L, rfl, rfl, cdC_eq hD (a3.1 _ _ (by omega) (by omega) (by omega)) (fun j => a3.1 _ j (by omega) (by omega) (by omega)), hL⟩)
      exact ⟨T, c1, c2, a3.tr c3⟩
end CP
end
