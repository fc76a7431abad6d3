section
/-! the reference: a rule's goal -/
def RT (S : fS) (st : List Int64) : Prop := S.1 145 23 = o3 st.length ∧ ∀ k, k < st.length → S.2 155 k = st.reverse.getD k 0
def eJ (S T : fS) : Prop := (∀ a k, ¬ (a = 145 ∧ k = 23) → T.1 a k = S.1 a k) ∧ (∀ a k, a ≠ 155 → T.2 a k = S.2 a k)
theorem eJ.rf {S : fS} : eJ S S := ⟨fun _ _ _ => rfl, fun _ _ _ => rfl⟩
theorem eJ.tr {S T U : fS} (h : eJ S T) (g : eJ T U) : eJ S U := ⟨fun a k n => (g.1 a k n).trans (h.1 a k n), fun a k n => (g.2 a k n).trans (h.2 a k n)⟩
section MG
variable {S : fS} {st : List Int64}
theorem mk_push {v : Int64} (hR : RT S st) (hl : st.length < 64) : ∃ T, f_X11_push v S = some T ∧ RT T (v :: st) ∧ eJ S T := by
  obtain ⟨r1, r2⟩ := hR
  unfold f_X11_push
  rw [r1, sL_o hl (by omega), bd_some, bd_some, pL_1, r1, o3_s]
  refine ⟨_, rfl, ⟨?_, fun k hk => ?_⟩, fun a k h => pI_ne h, fun a k h => pL_row h⟩
  · rw [pI_eq]; rfl
  · have hk : k < st.length + 1 := hk
    show (pL S 155 st.length v).2 155 k = _
    rw [List.reverse_cons]
    by_cases e : k = st.length
    · subst e
      have := gd_r (c := st.reverse) (q := v) (d := 0)
      rw [List.length_reverse] at this
      rw [pL_eq, this]
    · rw [pL_ne (by omega), gd_l (by rw [List.length_reverse]; omega)]
      exact r2 k (by omega)
theorem mk_pop {x : Int64} (hR : RT S (x :: st)) (hl : st.length < 64) : ∃ T, f_X11_pop S = some (x, T) ∧ RT T st ∧ eJ S T := by
  obtain ⟨r1, r2⟩ := hR
  have r1 : S.1 145 23 = o3 (st.length + 1) := r1
  unfold f_X11_pop
  rw [r1, bd_some, show (1 : Int32) = o3 1 from rfl, o3_sub (by omega), show st.length + 1 - 1 = st.length by omega, pI_eq, gL_o hl (by omega), bd_some]
  have e : (pI S 145 23 (o3 st.length)).2 155 st.length = x := by
    show S.2 155 st.length = x
    rw [r2 st.length (by show _ < st.length + 1; omega), List.reverse_cons]
    have := gd_r (c := st.reverse) (q := x) (d := 0)
    rw [List.length_reverse] at this
    exact this
  rw [e]
  refine ⟨_, rfl, ⟨pI_eq, fun k hk => ?_⟩, fun a k h => pI_ne h, fun a k h => rfl⟩
  show S.2 155 k = _
  rw [r2 k (by show k < st.length + 1; omega), List.reverse_cons, gd_l (by rw [List.length_reverse]; exact hk)]
end MG
section MG2
variable {x : Nat} {W : Nat → Int64} {K : fS → Option (Int64 × fS)}
theorem mk_step {S : fS} {q : Nat × Nat} {τ τ' : List Bool} {st : List Int64} {k L nn : Nat} (hx : x < 6) (hL : L ≤ 400) (hk : k < L) (hc : S.1 147 (400 * x + k) = sgM q) (hq : okSt q) (ht : tyS q τ = some τ') (hs : tls τ st) (hR : RT S st) (hd : st.length + nv [q] ≤ 60) (hW : ∀ v, v < 8 → S.2 156 v = W v) : ∃ T, lp_X11_reckons_8 (o3 x) (o3 L) K (nn + 1) (o3 k) S = lp_X11_reckons_8 (o3 x) (o3 L) K nn (o3 (k + 1)) T ∧ RT T (exS W q st) ∧ eJ S T ∧ tls τ' (exS W q st) := by
  obtain ⟨hx', hcs⟩ := exS_cs (W := W) ht hs
  rw [lp_X11_reckons_8.eq_2, if_neg (fun q => by have := (o3_le (by omega) (by omega)).mp q; omega), show (400 : Int32) = o3 400 from rfl, o3_mul, o3_add, gI_o (by omega) (by omega), bd_some, bd_some, hc, sgM_and hq, sgM_shr hq, o3_s]
  rcases hcs with ⟨h, e⟩ | ⟨h, e⟩ | ⟨h, y, r, rfl, hx2, e⟩ | ⟨h, a, b, r, rfl, hb, e⟩
  · have hn : nv [q] = 1 := by show 0 + _ = 1; rw [if_pos (Or.inl h)]
    rw [h, if_pos (show o3 (mp 2) = (0 : Int32) from rfl), o6_of3 (by have := hq.2.1; omega)]
    obtain ⟨T, t1, t2, t3⟩ := mk_push (v := o6 q.2) hR (by omega)
    rw [t1, bd_some]
    exact ⟨T, rfl, by rw [e]; exact t2, t3, hx'⟩
  · have hn : nv [q] = 1 := by show 0 + _ = 1; rw [if_pos (Or.inr h)]
    have h8 := hq.2.2 h
    rw [h, if_neg (show ¬ o3 (mp 3) = (0 : Int32) by decide), if_pos (show o3 (mp 3) = (1 : Int32) from rfl), gL_o h8 (by omega), bd_some, hW q.2 h8]
    obtain ⟨T, t1, t2, t3⟩ := mk_push (v := W q.2) hR (by omega)
    rw [t1, bd_some]
    exact ⟨T, rfl, by rw [e]; exact t2, t3, hx'⟩
  · have hd : r.length + 1 + nv [q] ≤ 60 := hd
    obtain ⟨T, t1, t2, t3⟩ := mk_pop hR (by omega)
    rw [h, if_neg (show ¬ o3 (mp 4) = (0 : Int32) by decide), if_neg (show ¬ o3 (mp 4) = (1 : Int32) by decide), if_pos (show o3 (mp 4) = (11 : Int32) from rfl), t1, bd_some]
    dsimp only
    have e2 : (1 : Int64) - y = if y = 0 then 1 else 0 := by
      rcases hx2 with rfl | rfl
      · rfl
      · rfl
    rw [e, e2]
    rw [e] at hx'
    obtain ⟨T2, v1, v2, v3⟩ := mk_push (v := if y = 0 then 1 else 0) t2 (by omega)
    rw [v1, bd_some]
    exact ⟨T2, rfl, v2, t3.tr v3, hx'⟩
  · have hd : r.length + 1 + 1 + nv [q] ≤ 60 := hd
    have hmp : ¬ mp q.1 = 0 ∧ ¬ mp q.1 = 1 ∧ ¬ mp q.1 = 11 := by
      have : q.1 = 5 ∨ q.1 = 6 ∨ q.1 = 7 ∨ q.1 = 8 ∨ q.1 = 9 ∨ q.1 = 10 ∨ q.1 = 11 ∨ q.1 = 12 ∨ q.1 = 13 ∨ q.1 = 14 ∨ q.1 = 15 := by omega
      rcases this with z | z | z | z | z | z | z | z | z | z | z <;> rw [z] <;> decide
    have hml := mp_lt (s := q.1)
    obtain ⟨T, t1, t2, t3⟩ := mk_pop hR (by show r.length + 1 < 64; omega)
    obtain ⟨T2, v1, v2, v3⟩ := mk_pop t2 (by omega)
    obtain ⟨T3, w1, w2, w3⟩ := mk_push (v := jo q.1 a b) v2 (by omega)
    rw [if_neg (show ¬ o3 (mp q.1) = (0 : Int32) from fun z => hmp.1 ((o3_inj (b := 0) (by omega) (by omega)).mp z)), if_neg (show ¬ o3 (mp q.1) = (1 : Int32) from fun z => hmp.2.1 ((o3_inj (b := 1) (by omega) (by omega)).mp z)), if_neg (show ¬ o3 (mp q.1) = (11 : Int32) from fun z => hmp.2.2 ((o3_inj (b := 11) (by omega) (by omega)).mp z)), t1, bd_some]
    dsimp only
    rw [v1, bd_some]
    dsimp only
    rw [m_one h hb, bd_some, w1, bd_some, e]
    rw [e] at hx'
    exact ⟨T3, rfl, w2, (t3.tr v3).tr w3, hx'⟩
theorem mk_seg {S0 : fS} (hx : x < 6) (hW : ∀ v, v < 8 → S0.2 156 v = W v) {L : Nat} (hL : L ≤ 400) : ∀ (e : List (Nat × Nat)) (k nn : Nat) (S : fS) (τ τ' : List Bool) (st : List Int64), eJ S0 S → (∀ j, j < e.length → S0.1 147 (400 * x + (k + j)) = sgM (e.getD j (0, 0))) → k + e.length ≤ L → (∀ q ∈ e, okSt q) → tyc e τ = some τ' → tls τ st → RT S st → st.length + nv e ≤ 60 → ∃ T, lp_X11_reckons_8 (o3 x) (o3 L) K (nn + e.length) (o3 k) S = lp_X11_reckons_8 (o3 x) (o3 L) K nn (o3 (k + e.length)) T ∧ RT T (exc W e st) ∧ eJ S0 T ∧ tls τ' (exc W e st) := by
  intro e
  induction e with
  | nil =>
    intro k nn S τ τ' st hE hc hk ho ht hs hR hd
    obtain rfl := Option.some.inj ht
    exact ⟨S, rfl, hR, hE, hs⟩
  | cons q e ih =>
    intro k nn S τ τ' st hE hc hk ho ht hs hR hd
    have hk : k + (e.length + 1) ≤ L := hk
    have ht : (tyS q τ).bind (tyc e) = some τ' := ht
    cases hq : tyS q τ with
    | none => rw [hq] at ht; exact nomatch ht
    | some σ =>
      rw [hq] at ht
      have ht : tyc e σ = some τ' := ht
      have hn : nv (q :: e) = nv e + nv [q] := by show nv e + _ = nv e + (0 + _); omega
      obtain ⟨T, t1, t2, t3, t4⟩ := mk_step (q := q) (K := K) (nn := nn + e.length) (W := W) (k := k) (L := L) (S := S) hx hL (by omega) ((hE.1 147 (400 * x + k) (by omega)).trans (hc 0 (by show 0 < e.length + 1; omega))) (ho q List.mem_cons_self) hq hs hR (by omega) (fun v hv => (hE.2 156 v (by omega)).trans (hW v hv))
      have hlen : (exS W q st).length + nv e ≤ 60 := by
        have h1 := tls_len _ _ t4
        have h5 := tls_len _ _ hs
        have h3 : σ.length ≤ τ.length + nv [q] := by
          rcases tyS_cs hq with ⟨z, rfl⟩ | ⟨z, r, rfl, rfl⟩ | ⟨z, r, rfl, rfl⟩ | ⟨z, r, rfl, rfl⟩ | ⟨z, r, rfl, rfl⟩
          · show τ.length + 1 ≤ τ.length + (0 + _)
            rw [if_pos z]; omega
          · exact Nat.le_add_right _ _
          · show r.length + 1 ≤ r.length + 1 + 1 + _; omega
          · show r.length + 1 ≤ r.length + 1 + 1 + _; omega
          · show r.length + 1 ≤ r.length + 1 + 1 + _; omega
        omega
      obtain ⟨T2, v1, v2, v3, v4⟩ := ih (k + 1) nn T σ τ' (exS W q st) (hE.tr t3) (fun j hj => by
        have := hc (j + 1) (by show j + 1 < e.length + 1; omega)
        rw [show k + 1 + j = k + (j + 1) by omega]
        exact this) (by omega) (fun z hz => ho z (List.mem_cons_of_mem _ hz)) ht t4 t2 hlen
      refine ⟨T2, ?_, v2, v3, v4⟩
      show lp_X11_reckons_8 (o3 x) (o3 L) K (nn + e.length + 1) (o3 k) S = _
      rw [t1, v1]
      show _ = lp_X11_reckons_8 (o3 x) (o3 L) K nn (o3 (k + (e.length + 1))) T2
      rw [show k + 1 + e.length = k + (e.length + 1) by omega]
theorem m_reck {S : fS} (hx : x < 6) (hW : ∀ v, v < 8 → S.2 156 v = W v) {w : List (Nat × Nat)} {k : Nat} (hc : ∀ j, j < w.length → S.1 147 (400 * x + (k + j)) = sgM (w.getD j (0, 0))) (hk : k + w.length ≤ 400) (h1 : tyc w [] = some [true]) (h2 : ∀ z ∈ w, okSt z) (h3 : nv w ≤ 60) : ∃ T, f_X11_reckons (o3 x) (o3 k) (o3 (k + w.length)) S = some (vw W w, T) ∧ eJ S T ∧ (vw W w = 0 ∨ vw W w = 1) := by
  have hE : eJ S (pI S 145 23 0) := ⟨fun a k h => pI_ne h, fun _ _ _ => rfl⟩
  have e0 : f_X11_reckons (o3 x) (o3 k) (o3 (k + w.length)) S = lp_X11_reckons_8 (o3 x) (o3 (k + w.length)) (fun S41 => (f_X11_pop S41).bind fun q43 => some (q43.1, q43.2)) FU (o3 k) (pI S 145 23 0) := by
    unfold f_X11_reckons
    rw [bd_some]
  obtain ⟨fu, hfu⟩ : ∃ z, FU = z + 1 + w.length := ⟨FU - 1 - w.length, by have := FU_lt (d := w.length) (by omega); omega⟩
  obtain ⟨T, t1, t2, t3, t4⟩ := mk_seg (K := fun S41 => (f_X11_pop S41).bind fun q43 => some (q43.1, q43.2)) hx hW hk w k (fu + 1) (pI S 145 23 0) [] [true] [] hE hc (Nat.le_refl _) h2 h1 trivial ⟨pI_eq, fun k hk => absurd hk (Nat.not_lt_zero _)⟩ (by show 0 + nv w ≤ 60; omega)
  obtain ⟨e1, e2⟩ := vw_b t4
  rw [e1] at t2
  obtain ⟨T2, v1, v2, v3⟩ := mk_pop t2 (by show 0 < 64; omega)
  rw [e0, hfu, t1, lp_X11_reckons_8.eq_2, if_pos ((o3_le (by omega) (by omega)).mpr (Nat.le_refl _)), v1, bd_some]
  exact ⟨T2, rfl, t3.tr v3, e2⟩
theorem mcode_c {q : Cl} {Q : List Cl} : mcode (q :: Q) = mcl q ++ mcode Q := by unfold mcode; rw [List.flatMap_cons]
theorem mcode_a {P Q : List Cl} : mcode (P ++ Q) = mcode P ++ mcode Q := by unfold mcode; rw [List.flatMap_append]
theorem mk_sent {S0 : fS} (hx : x < 6) (hW : ∀ v, v < 8 → S0.2 156 v = W v) : ∀ (Q P : List Cl) (nn : Nat) (S : fS), cdM S0 x (P ++ Q) → eJ S0 S → Q.length < nn → ∃ T, lp_X11_sent_7 (o3 x) (fun S28 => some ((-1 : Int32), S28)) nn (o3 P.length) S = some (gl W Q, T) ∧ eJ S0 T := by
  intro Q
  induction Q with
  | nil =>
    intro P nn S hM hE hnn
    have hnn : 0 < nn := hnn
    obtain ⟨nn, rfl⟩ : ∃ z, nn = z + 1 := ⟨nn - 1, by omega⟩
    rw [List.append_nil] at hM
    have h12 := hM.2.1
    rw [lp_X11_sent_7.eq_2, gI_o (by omega) (by omega), bd_some, hE.1 150 x (by omega), hM.1.1, if_pos ((o3_le (by omega) (by omega)).mpr (Nat.le_refl _))]
    exact ⟨S, rfl, hE⟩
  | cons q Q ih =>
    intro P nn S hM hE hnn
    have hnn : Q.length + 1 < nn := hnn
    obtain ⟨nn, rfl⟩ : ∃ z, nn = z + 1 := ⟨nn - 1, by omega⟩
    have hM0 := hM
    obtain ⟨hcl, h12, h148, h400, hok, hcode⟩ := hM
    have hlen : (P ++ q :: Q).length = P.length + (Q.length + 1) := List.length_append
    rw [hlen] at h12
    obtain ⟨ho1, ho2⟩ := hok q (List.mem_append.mpr (Or.inr List.mem_cons_self))
    obtain ⟨c1, c2, c3⟩ := hcl.2 P.length (by omega)
    have hg0 : (P ++ q :: Q).getD P.length (0, none) = q := by
      have := gd_ar (c := P) (e := q :: Q) (d := (0, none)) (k := 0)
      exact this
    have hq1 : P ++ q :: Q = (P ++ [q]) ++ Q := by simp only [List.append_assoc]; rfl
    have ht1 : (P ++ q :: Q).take P.length = P := by rw [List.take_left]
    have ht2 : (P ++ q :: Q).take (P.length + 1) = P ++ [q] := by
      rw [hq1, show P.length + 1 = (P ++ [q]).length by rw [ln_app], List.take_left]
    rw [hg0] at c1 c2
    rw [ht1] at c2
    rw [ht2, mcode_app, List.length_append] at c3
    have e36 : ((36 : Int32) * o3 x) + ((3 : Int32) * o3 P.length) = o3 (36 * x + 3 * P.length) := by
      rw [show (36 : Int32) = o3 36 from rfl, show (3 : Int32) = o3 3 from rfl, o3_mul, o3_mul, o3_add]
    have e37 : o3 (36 * x + 3 * P.length) + (1 : Int32) = o3 (36 * x + 3 * P.length + 1) := o3_s
    have e38 : o3 (36 * x + 3 * P.length) + (2 : Int32) = o3 (36 * x + 3 * P.length + 2) := by rw [show (2 : Int32) = o3 2 from rfl, o3_add]
    have hS : ∀ k, S.1 149 k = S0.1 149 k := fun k => hE.1 149 k (by omega)
    rw [lp_X11_sent_7.eq_2, gI_o (by omega) (by omega), bd_some, hE.1 150 x (by omega), hcl.1, hlen, if_neg (fun z => by have := (o3_le (by omega) (by omega)).mp z; omega), e36, e37, gI_o (by omega) (by omega), bd_some, hS, c2]
    obtain ⟨fl, t⟩ := q
    have ho1 : fl ≤ 9 := ho1
    cases t with
    | none =>
      rw [if_neg (show ¬ ((fl, none) : Cl).2.isSome = true from fun z => nomatch z), if_pos (by decide), gI_o (by omega) (by omega), bd_some, hS, c1]
      exact ⟨S, rfl, hE⟩
    | some w =>
      obtain ⟨w1, w2, w3⟩ := ho2 w rfl
      have hmc : mcode (P ++ (fl, some w) :: Q) = mcode P ++ (w ++ mcode Q) := by rw [mcode_a, mcode_c]; rfl
      have hml : (mcode (P ++ (fl, some w) :: Q)).length = (mcode P).length + (w.length + (mcode Q).length) := by rw [hmc, List.length_append, List.length_append]
      rw [hml] at h400
      rw [if_pos (show ((fl, some w) : Cl).2.isSome = true from rfl), if_neg (o3_nn (by omega)), bd_some, e38, gI_o (by omega) (by omega), bd_some, hS, c3]
      obtain ⟨T, t1, t2, t3⟩ := m_reck (S := S) (W := W) (w := w) (k := (mcode P).length) hx (fun v hv => (hE.2 156 v (by omega)).trans (hW v hv)) (fun j hj => by
        have := hcode ((mcode P).length + j) (by rw [hml]; omega)
        rw [hE.1 147 _ (by omega), this, hmc, gd_ar, gd_l hj]) (by omega) w1 w2 w3
      have t1' : f_X11_reckons (o3 x) (o3 (mcode P).length) (o3 ((mcode P).length + (mcl (fl, some w)).length)) S = some (vw W w, T) := t1
      rw [t1', bd_some]
      dsimp only
      have hgl : gl W ((fl, some w) :: Q) = if vw W w = 0 then gl W Q else o3 fl := rfl
      rw [hgl]
      rcases t3 with h0 | h1
      · rw [h0, if_neg (show ¬ (0 : Int64) = 1 by decide), if_pos rfl, o3_s]
        have hM1 : cdM S0 x ((P ++ [(fl, some w)]) ++ Q) := by rw [← hq1]; exact hM0
        have := ih (P ++ [(fl, some w)]) nn T hM1 (hE.tr t2) (by omega)
        rw [ln_app] at this
        exact this
      · rw [h1, if_pos rfl, if_neg (show ¬ (1 : Int64) = 0 by decide), gI_o (by omega) (by omega), bd_some, t2.1 149 _ (by omega), hS, c1]
        exact ⟨T, rfl, hE.tr t2⟩
end MG2
end
