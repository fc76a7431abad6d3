section
/-! the class: a rule's goal -/
def RS (S : fS) (p : Nat) (st : List Int64) : Prop := S.1 p 3 = o3 st.length ∧ ∀ k, k < st.length → S.2 (p + 2) k = st.reverse.getD k 0
def eK (p : Nat) (S T : fS) : Prop := (∀ a k, ¬ (a = p ∧ k = 3) → T.1 a k = S.1 a k) ∧ (∀ a k, a ≠ p + 2 → T.2 a k = S.2 a k)
theorem eK.rf {p : Nat} {S : fS} : eK p S S := ⟨fun _ _ _ => rfl, fun _ _ _ => rfl⟩
theorem eK.tr {p : Nat} {S T U : fS} (h : eK p S T) (g : eK p T U) : eK p S U := ⟨fun a k n => (g.1 a k n).trans (h.1 a k n), fun a k n => (g.2 a k n).trans (h.2 a k n)⟩
theorem pL_row {S : fS} {a k b : Nat} {y : Int64} (h : b ≠ a) {j : Nat} : (pL S a k y).2 b j = S.2 b j := pL_ne (fun q => h q.1)
section CG
variable {p : Nat} {S : fS} {st : List Int64}
theorem ck_push {v : Int64} (hR : RS S p st) (hl : st.length < 60) : ∃ T, f_X4_push p v S = some T ∧ RS T p (v :: st) ∧ eK p S T := by
  obtain ⟨r1, r2⟩ := hR
  unfold f_X4_push
  rw [r1, if_neg (o3_nn (by omega)), if_neg (show ¬ (60 : Int32) ≤ o3 st.length from fun q => by have := (o3_le (a := 60) (by omega) (by omega)).mp q; omega), sL_o hl (by omega), bd_some, bd_some, pL_1, r1, o3_s]
  refine ⟨_, rfl, ⟨?_, fun k hk => ?_⟩, fun a k h => pI_ne h, fun a k h => pL_row h⟩
  · rw [pI_eq]; rfl
  · have hk : k < st.length + 1 := hk
    show (pL S (p + 2) st.length v).2 (p + 2) k = _
    rw [List.reverse_cons]
    by_cases e : k = st.length
    · subst e
      have := gd_r (c := st.reverse) (q := v) (d := 0)
      rw [List.length_reverse] at this
      rw [pL_eq, this]
    · rw [pL_ne (by omega), gd_l (by rw [List.length_reverse]; omega)]
      exact r2 k (by omega)
theorem ck_pop {x : Int64} (hR : RS S p (x :: st)) (hl : st.length < 60) : ∃ T, f_X4_pop p S = some (x, T) ∧ RS T p st ∧ eK p S T := by
  obtain ⟨r1, r2⟩ := hR
  have r1 : S.1 p 3 = o3 (st.length + 1) := r1
  unfold f_X4_pop
  rw [r1, if_neg (show ¬ o3 (st.length + 1) ≤ (0 : Int32) from fun q => by have := (o3_le (b := 0) (by omega) (by omega)).mp q; omega), if_pos (show o3 (st.length + 1) ≤ (60 : Int32) from (o3_le (b := 60) (by omega) (by omega)).mpr (by omega)), bd_some, show (1 : Int32) = o3 1 from rfl, o3_sub (by omega), show st.length + 1 - 1 = st.length by omega, pI_eq, gL_o hl (by omega), bd_some]
  have e : (pI S p 3 (o3 st.length)).2 (p + 2) st.length = x := by
    show S.2 (p + 2) st.length = x
    rw [r2 st.length (by show _ < st.length + 1; omega), List.reverse_cons]
    have := gd_r (c := st.reverse) (q := x) (d := 0)
    rw [List.length_reverse] at this
    exact this
  rw [e]
  refine ⟨_, rfl, ⟨pI_eq, fun k hk => ?_⟩, fun a k h => pI_ne h, fun a k h => rfl⟩
  show S.2 (p + 2) k = _
  rw [r2 k (by show k < st.length + 1; omega), List.reverse_cons, gd_l (by rw [List.length_reverse]; exact hk)]
end CG
section CG2
variable {p t0 c0 : Nat} {th : Int32} {W : Nat → Int64} {K : fS → Option (Int32 × fS)}
theorem ck_step {S : fS} {q : Nat × Nat} {τ τ' : List Bool} {st : List Int64} {k L nn : Nat} (h2 : S.1 p 2 = o3 L) (hL : L ≤ 400) (hk : k < L) (hc : S.1 (p + 1) k = enc q) (hq : okSt q) (ht : tyS q τ = some τ') (hs : tls τ st) (hR : RS S p st) (hd : st.length + nv [q] ≤ 60) (hW : ∀ v, v < 8 → f_X0_wordOf c0 t0 th (o3 v) S = some (W v)) : ∃ T, lp_X4_goalOf_8 p t0 c0 th K (nn + 1) (o3 k) S = lp_X4_goalOf_8 p t0 c0 th K nn (o3 (k + 1)) T ∧ RS T p (exS W q st) ∧ eK p S T ∧ tls τ' (exS W q st) := by
  obtain ⟨hx, hcs⟩ := exS_cs (W := W) ht hs
  rw [lp_X4_goalOf_8.eq_2, h2, if_neg (fun q => by have := (o3_le (by omega) (by omega)).mp q; omega), if_neg (show ¬ (400 : Int32) ≤ o3 k from fun q => by have := (o3_le (a := 400) (by omega) (by omega)).mp q; omega), gI_o (by omega) (by omega), bd_some, bd_some, hc, enc_and hq, enc_shr hq, o3_s]
  have e0 : ∀ j : Nat, j < 2147483648 → ∀ z : Nat, z < 2147483648 → (o3 j = o3 z ↔ j = z) := fun j hj z hz => o3_inj hj hz
  rcases hcs with ⟨h, e⟩ | ⟨h, e⟩ | ⟨h, x, r, rfl, hx2, e⟩ | ⟨h, a, b, r, rfl, hb, e⟩
  · have hn : nv [q] = 1 := by show 0 + _ = 1; rw [if_pos (Or.inl h)]
    rw [h, if_neg (show ¬ o3 2 = (0 : Int32) by decide), if_neg (show ¬ o3 2 = (1 : Int32) by decide), if_pos (show o3 2 = (2 : Int32) from rfl), o6_of3 (by have := hq.2.1; omega)]
    obtain ⟨T, t1, t2, t3⟩ := ck_push (v := o6 q.2) hR (by omega)
    rw [t1, bd_some]
    exact ⟨T, rfl, by rw [e]; exact t2, t3, hx⟩
  · have hn : nv [q] = 1 := by show 0 + _ = 1; rw [if_pos (Or.inr h)]
    rw [h, if_neg (show ¬ o3 3 = (0 : Int32) by decide), if_neg (show ¬ o3 3 = (1 : Int32) by decide), if_neg (show ¬ o3 3 = (2 : Int32) by decide), if_pos (show o3 3 = (3 : Int32) from rfl), hW q.2 (hq.2.2 h), bd_some]
    obtain ⟨T, t1, t2, t3⟩ := ck_push (v := W q.2) hR (by omega)
    rw [t1, bd_some]
    exact ⟨T, rfl, by rw [e]; exact t2, t3, hx⟩
  · have hd : r.length + 1 + nv [q] ≤ 60 := hd
    obtain ⟨T, t1, t2, t3⟩ := ck_pop hR (by omega)
    rw [h, if_neg (show ¬ o3 4 = (0 : Int32) by decide), if_neg (show ¬ o3 4 = (1 : Int32) by decide), if_neg (show ¬ o3 4 = (2 : Int32) by decide), if_neg (show ¬ o3 4 = (3 : Int32) by decide), if_pos (show o3 4 = (4 : Int32) from rfl), t1, bd_some]
    dsimp only
    rw [e]
    rw [e] at hx
    by_cases h0 : x = 0
    · rw [if_pos h0]
      rw [if_pos h0] at hx
      obtain ⟨T2, v1, v2, v3⟩ := ck_push (v := 1) t2 (by omega)
      rw [v1, bd_some, if_pos h0]
      exact ⟨T2, rfl, v2, t3.tr v3, hx⟩
    · rw [if_neg h0]
      rw [if_neg h0] at hx
      obtain ⟨T2, v1, v2, v3⟩ := ck_push (v := 0) t2 (by omega)
      rw [v1, bd_some, if_neg h0]
      exact ⟨T2, rfl, v2, t3.tr v3, hx⟩
  · have hd : r.length + 1 + 1 + nv [q] ≤ 60 := hd
    have hne : ∀ z : Nat, z < 5 → ¬ o3 q.1 = o3 z := fun z hz w => by have := (o3_inj (by omega) (by omega)).mp w; omega
    obtain ⟨T, t1, t2, t3⟩ := ck_pop hR (by show r.length + 1 < 60; omega)
    obtain ⟨T2, v1, v2, v3⟩ := ck_pop t2 (by omega)
    obtain ⟨T3, w1, w2, w3⟩ := ck_push (v := jo q.1 a b) v2 (by omega)
    rw [if_neg (show ¬ o3 q.1 = (0 : Int32) from hne 0 (by omega)), if_neg (show ¬ o3 q.1 = (1 : Int32) from hne 1 (by omega)), if_neg (show ¬ o3 q.1 = (2 : Int32) from hne 2 (by omega)), if_neg (show ¬ o3 q.1 = (3 : Int32) from hne 3 (by omega)), if_neg (show ¬ o3 q.1 = (4 : Int32) from hne 4 (by omega)), t1, bd_some]
    dsimp only
    rw [v1, bd_some]
    dsimp only
    rw [c_joined h, bd_some, w1, bd_some, e]
    rw [e] at hx
    exact ⟨T3, rfl, w2, (t3.tr v3).tr w3, hx⟩
theorem ck_seg {S0 : fS} (hW : ∀ T, eK p S0 T → ∀ v, v < 8 → f_X0_wordOf c0 t0 th (o3 v) T = some (W v)) {L : Nat} (h2 : S0.1 p 2 = o3 L) (hL : L ≤ 400) : ∀ (e : List (Nat × Nat)) (k nn : Nat) (S : fS) (τ τ' : List Bool) (st : List Int64), eK p S0 S → (∀ j, j < e.length → S0.1 (p + 1) (k + j) = enc (e.getD j (0, 0))) → k + e.length ≤ L → (∀ q ∈ e, okSt q) → tyc e τ = some τ' → tls τ st → RS S p st → st.length + nv e ≤ 60 → ∃ T, lp_X4_goalOf_8 p t0 c0 th K (nn + e.length) (o3 k) S = lp_X4_goalOf_8 p t0 c0 th K nn (o3 (k + e.length)) T ∧ RS T p (exc W e st) ∧ eK p S0 T ∧ tls τ' (exc W e st) := by
  intro e
  induction e with
  | nil =>
    intro k nn S τ τ' st hE hc hk ho ht hs hR hd
    obtain rfl := Option.some.inj ht
    exact ⟨S, rfl, hR, hE, hs⟩
  | cons q e ih =>
    intro k nn S τ τ' st hE hc hk ho ht hs hR hd
    have hk : k + (e.length + 1) ≤ L := hk
    have ht : (tyS q τ).bind (tyc e) = some τ' := ht
    cases hq : tyS q τ with
    | none => rw [hq] at ht; exact nomatch ht
    | some σ =>
      rw [hq] at ht
      have ht : tyc e σ = some τ' := ht
      have hn : nv (q :: e) = nv e + nv [q] := by show nv e + _ = nv e + (0 + _); omega
      obtain ⟨T, t1, t2, t3, t4⟩ := ck_step (q := q) (K := K) (nn := nn + e.length) (W := W) (t0 := t0) (c0 := c0) (th := th) (k := k) (L := L) ((hE.1 p 2 (by omega)).trans h2) hL (by omega) ((hE.1 (p + 1) k (by omega)).trans (hc 0 (by show 0 < e.length + 1; omega))) (ho q List.mem_cons_self) hq hs hR (by omega) (hW S hE)
      have hlen : (exS W q st).length + nv e ≤ 60 := by
        have h1 := tls_len _ _ t4
        have h5 := tls_len _ _ hs
        have h3 : σ.length ≤ τ.length + nv [q] := by
          rcases tyS_cs hq with ⟨z, rfl⟩ | ⟨z, r, rfl, rfl⟩ | ⟨z, r, rfl, rfl⟩ | ⟨z, r, rfl, rfl⟩ | ⟨z, r, rfl, rfl⟩
          · show τ.length + 1 ≤ τ.length + (0 + _)
            rw [if_pos z]; omega
          · exact Nat.le_add_right _ _
          · show r.length + 1 ≤ r.length + 1 + 1 + _; omega
          · show r.length + 1 ≤ r.length + 1 + 1 + _; omega
          · show r.length + 1 ≤ r.length + 1 + 1 + _; omega
        omega
      obtain ⟨T2, v1, v2, v3, v4⟩ := ih (k + 1) nn T σ τ' (exS W q st) (hE.tr t3) (fun j hj => by
        have := hc (j + 1) (by show j + 1 < e.length + 1; omega)
        rw [show k + 1 + j = k + (j + 1) by omega]
        exact this) (by omega) (fun z hz => ho z (List.mem_cons_of_mem _ hz)) ht t4 t2 hlen
      refine ⟨T2, ?_, v2, v3, v4⟩
      show lp_X4_goalOf_8 p t0 c0 th K (nn + e.length + 1) (o3 k) S = _
      rw [t1, v1]
      show _ = lp_X4_goalOf_8 p t0 c0 th K nn (o3 (k + (e.length + 1))) T2
      rw [show k + 1 + e.length = k + (e.length + 1) by omega]
/-- the goal that a rule sends to, or -1 -/
def vw (W : Nat → Int64) (w : List (Nat × Nat)) : Int64 := (exc W w []).headD 0
def gl (W : Nat → Int64) : List Cl → Int32
  | [] => -1
  | (q, none) :: _ => o3 q
  | (q, some w) :: L => if vw W w = 0 then gl W L else o3 q
theorem tls_1 {st : List Int64} (h : tls [true] st) : ∃ x, st = [x] ∧ (x = 0 ∨ x = 1) := by
  match st, h with
  | [x], h => exact ⟨x, rfl, h.1 rfl⟩
theorem vw_b {w : List (Nat × Nat)} (h : tls [true] (exc W w [])) : exc W w [] = [vw W w] ∧ (vw W w = 0 ∨ vw W w = 1) := by
  obtain ⟨x, e, hx⟩ := tls_1 h
  unfold vw
  rw [e]
  exact ⟨rfl, hx⟩
theorem ck_goal {S0 : fS} (hW : ∀ T, eK p S0 T → ∀ v, v < 8 → f_X0_wordOf c0 t0 th (o3 v) T = some (W v)) {L : Nat} (h2 : S0.1 p 2 = o3 L) (hL : L ≤ 400) : ∀ (Q : List Cl) (k nn : Nat) (S : fS), eK p S0 S → (∀ j, j < (ccode Q).length → S0.1 (p + 1) (k + j) = enc ((ccode Q).getD j (0, 0))) → k + (ccode Q).length = L → okRu Q → RS S p [] → (ccode Q).length < nn → ∃ T, lp_X4_goalOf_8 p t0 c0 th (fun S52 => some ((-1 : Int32), S52)) nn (o3 k) S = some (gl W Q, T) ∧ eK p S0 T := by
  intro Q
  induction Q with
  | nil =>
    intro k nn S hE hc hk ho hR hnn
    have hk : k + 0 = L := hk
    obtain ⟨nn, rfl⟩ : ∃ z, nn = z + 1 := ⟨nn - 1, by omega⟩
    rw [lp_X4_goalOf_8.eq_2, hE.1 p 2 (by omega), h2, if_pos ((o3_le (by omega) (by omega)).mpr (by omega))]
    exact ⟨S, rfl, hE⟩
  | cons q Q ih =>
    intro k nn S hE hc hk ho hR hnn
    have hcc : ccode (q :: Q) = ccl q ++ ccode Q := by unfold ccode; rw [List.flatMap_cons]
    rw [hcc] at hc hk hnn
    rw [List.length_append] at hk hnn
    obtain ⟨fl, t⟩ := q
    obtain ⟨ho1, ho2⟩ := ho (fl, t) List.mem_cons_self
    have ho1 : fl ≤ 9 := ho1
    have h2S : S.1 p 2 = o3 L := (hE.1 p 2 (by omega)).trans h2
    cases t with
    | none =>
      have hk : k + (1 + (ccode Q).length) = L := hk
      obtain ⟨nn, rfl⟩ : ∃ z, nn = z + 1 := ⟨nn - 1, by omega⟩
      have c0' : S.1 (p + 1) k = enc (0, fl) := (hE.1 (p + 1) k (by omega)).trans (hc 0 (by rw [List.length_append]; show 0 < 1 + _; omega))
      have hok : okSt (0, fl) := ⟨by show 0 ≤ 15; omega, by show fl ≤ 99999; omega, (fun z => nomatch z)⟩
      rw [lp_X4_goalOf_8.eq_2, h2S, if_neg (fun q => by have := (o3_le (by omega) (by omega)).mp q; omega), if_neg (show ¬ (400 : Int32) ≤ o3 k from fun q => by have := (o3_le (a := 400) (by omega) (by omega)).mp q; omega), gI_o (by omega) (by omega), bd_some, bd_some, c0', enc_and hok, if_pos (show o3 0 = (0 : Int32) from rfl), enc_shr hok]
      exact ⟨S, rfl, hE⟩
    | some w =>
      obtain ⟨w1, w2, w3⟩ := ho2 w rfl
      have hlw : (ccl (fl, some w)).length = w.length + 1 := by show (w ++ [(1, fl)]).length = _; rw [ln_app]
      have hcw : ccl (fl, some w) = w ++ [(1, fl)] := rfl
      rw [hlw] at hk hnn
      obtain ⟨nn, rfl⟩ : ∃ z, nn = z + 1 + w.length := ⟨nn - 1 - w.length, by omega⟩
      obtain ⟨T, t1, t2, t3, t4⟩ := ck_seg (K := fun S52 => some ((-1 : Int32), S52)) hW h2 hL w k (nn + 1) S [] [true] [] hE (fun j hj => by
        have := hc j (by rw [List.length_append, hlw]; omega)
        rw [this, hcw, List.append_assoc, gd_l hj]) (by omega) w2 w1 trivial hR (by show 0 + nv w ≤ 60; omega)
      obtain ⟨e1, e2⟩ := vw_b t4
      have hok : okSt (1, fl) := ⟨by show 1 ≤ 15; omega, by show fl ≤ 99999; omega, fun z => absurd z (show ¬ 1 = 3 by decide)⟩
      have c1 : T.1 (p + 1) (k + w.length) = enc (1, fl) := by
        rw [t3.1 (p + 1) (k + w.length) (by omega), hc w.length (by rw [List.length_append, hlw]; omega)]
        rw [hcw, gd_l (by rw [ln_app]; omega), gd_r]
      rw [e1] at t2
      have hgd : ∀ j, (ccl (fl, some w) ++ ccode Q).getD (w.length + 1 + j) (0, 0) = (ccode Q).getD j (0, 0) := fun j => by
        have hg := gd_ar (c := ccl (fl, some w)) (e := ccode Q) (d := (0, 0)) (k := j)
        rw [hlw] at hg
        exact hg
      obtain ⟨T2, v1, v2, v3⟩ := ck_pop t2 (by show 0 < 60; omega)
      rw [t1, lp_X4_goalOf_8.eq_2, t3.1 p 2 (by omega), h2, if_neg (fun q => by have := (o3_le (by omega) (by omega)).mp q; omega), if_neg (show ¬ (400 : Int32) ≤ o3 _ from fun q => by have := (o3_le (a := 400) (by omega) (by omega)).mp q; omega), gI_o (by omega) (by omega), bd_some, bd_some, c1, enc_and hok, if_neg (show ¬ o3 1 = (0 : Int32) by decide), if_pos (show o3 1 = (1 : Int32) from rfl), v1, bd_some, enc_shr hok, o3_s]
      dsimp only
      show ∃ T, _ = some (if vw W w = 0 then gl W Q else o3 fl, T) ∧ _
      by_cases h0 : vw W w = 0
      · rw [if_pos h0, if_pos h0]
        exact ih (k + w.length + 1) nn T2 (t3.tr v3) (fun j hj => by
          have := hc (w.length + 1 + j) (by rw [List.length_append, hlw]; omega)
          rw [show k + w.length + 1 + j = k + (w.length + 1 + j) by omega, this]
          exact congrArg enc (hgd j)) (by omega) (fun z hz => ho z (List.mem_cons_of_mem _ hz)) v2 (by omega)
      · rw [if_neg h0, if_neg h0]
        exact ⟨T2, rfl, t3.tr v3⟩
end CG2
theorem c_goal {S : fS} {p t0 c0 : Nat} {th : Int32} {W : Nat → Int64} {Q : List Cl} (hW : ∀ T, eK p S T → ∀ v, v < 8 → f_X0_wordOf c0 t0 th (o3 v) T = some (W v)) (hC : cdC S p (ccode Q)) (ho : okRu Q) : ∃ T, f_X4_goalOf p t0 c0 th S = some (gl W Q, T) ∧ eK p S T := by
  unfold f_X4_goalOf
  rw [bd_some]
  have hE : eK p S (pI S p 3 0) := ⟨fun a k h => pI_ne h, fun _ _ _ => rfl⟩
  exact ck_goal hW hC.1 hC.2.1 Q 0 FU (pI S p 3 0) hE (fun j hj => by rw [Nat.zero_add]; exact hC.2.2 j hj) (by omega) ho ⟨pI_eq, fun k hk => absurd hk (Nat.not_lt_zero _)⟩ (FU_lt (by have := hC.2.1; omega))
end
