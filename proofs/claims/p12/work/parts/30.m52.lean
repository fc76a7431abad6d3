section
/-! the reference: tested(), isToHere() -/
def mcl (q : Cl) : List (Nat × Nat) := match q.2 with
  | none => []
  | some w => w
def mcode (L : List Cl) : List (Nat × Nat) := L.flatMap mcl
theorem mcode_app {L : List Cl} {q : Cl} : mcode (L ++ [q]) = mcode L ++ mcl q := by
  unfold mcode
  rw [List.flatMap_append]
  simp
/-- a clause that can be: a floor's number; steps of a test that leaves one fact, values as many as the stack holds -/
def okCl (q : Cl) : Prop := q.1 ≤ 9 ∧ ∀ w, q.2 = some w → tyc w [] = some [true] ∧ (∀ z ∈ w, okSt z) ∧ nv w ≤ 60
/-- clauses of text x -/
def clM (S : fS) (x : Nat) (L : List Cl) : Prop := S.1 150 x = o3 L.length ∧ ∀ k, k < L.length → S.1 149 (36 * x + 3 * k) = o3 (L.getD k (0, none)).1 ∧ S.1 149 (36 * x + 3 * k + 1) = (if (L.getD k (0, none)).2.isSome then o3 (mcode (L.take k)).length else -1) ∧ S.1 149 (36 * x + 3 * k + 2) = o3 (mcode (L.take (k + 1))).length
def wM9 (x a k : Nat) : Prop := wMr x a k ∨ (a = 145 ∧ k = 19) ∨ (a = 150 ∧ k = x) ∨ (a = 149 ∧ 36 * x ≤ k ∧ k < 36 * x + 36)
def eM9 (x : Nat) (S T : fS) : Prop := (∀ a k, ¬ wM9 x a k → T.1 a k = S.1 a k) ∧ T.2 = S.2
theorem eM9.rf {x : Nat} {S : fS} : eM9 x S S := ⟨fun _ _ _ => rfl, rfl⟩
theorem eM9.tr {x : Nat} {S T U : fS} (h : eM9 x S T) (g : eM9 x T U) : eM9 x S U := ⟨fun a k n => (g.1 a k n).trans (h.1 a k n), g.2.trans h.2⟩
theorem eM9_pI {x : Nat} {S : fS} {a k : Nat} {y : Int32} (h : wM9 x a k) : eM9 x S (pI S a k y) := ⟨fun b j n => by
  rw [pI_get]
  by_cases q : b = a ∧ j = k
  · exact absurd (q.1 ▸ q.2 ▸ h) n
  · rw [if_neg q], rfl⟩
theorem eM9_of {x : Nat} {S T : fS} (h : eMr x S T) : eM9 x S T := ⟨fun a k n => h.1 a k (fun q => n (Or.inl q)), h.2⟩
theorem eM9_1 {x : Nat} {S T : fS} (h : eM9 x S T) : T.1 145 1 = S.1 145 1 := h.1 145 1 (by unfold wM9 wMr; omega)
theorem eM9_t {x : Nat} {S T : fS} (h : eM9 x S T) : T.1 146 = S.1 146 := funext fun k => h.1 146 k (by unfold wM9 wMr; omega)
theorem clM_eq {S T : fS} {x : Nat} {L : List Cl} (h : clM S x L) (h1 : T.1 150 x = S.1 150 x) (h2 : ∀ k, k < 3 * L.length → T.1 149 (36 * x + k) = S.1 149 (36 * x + k)) : clM T x L := by
  refine ⟨h1.trans h.1, fun k hk => ?_⟩
  obtain ⟨a, b, c⟩ := h.2 k hk
  refine ⟨(h2 (3 * k) (by omega)).trans a, ?_, ?_⟩
  · exact (h2 (3 * k + 1) (by omega)).trans b
  · exact (h2 (3 * k + 2) (by omega)).trans c
theorem clM_app {S T : fS} {x : Nat} {L : List Cl} {q : Cl} (h : clM S x L) (h1 : T.1 150 x = o3 (L.length + 1)) (h2 : ∀ k, k < 3 * L.length → T.1 149 (36 * x + k) = S.1 149 (36 * x + k)) (h3 : T.1 149 (36 * x + 3 * L.length) = o3 q.1) (h4 : T.1 149 (36 * x + 3 * L.length + 1) = if q.2.isSome then o3 (mcode L).length else -1) (h5 : T.1 149 (36 * x + 3 * L.length + 2) = o3 (mcode (L ++ [q])).length) : clM T x (L ++ [q]) := by
  refine ⟨by rw [h1, ln_app], fun k hk => ?_⟩
  rw [ln_app] at hk
  by_cases e : k = L.length
  · subst e
    rw [gd_r, List.take_left, List.take_of_length_le (by rw [ln_app]; omega)]
    exact ⟨h3, h4, h5⟩
  · rw [gd_l (by omega), List.take_append_of_le_length (by omega), List.take_append_of_le_length (by omega)]
    obtain ⟨a, b, c⟩ := h.2 k (by omega)
    refine ⟨(h2 (3 * k) (by omega)).trans a, ?_, ?_⟩
    · exact (h2 (3 * k + 1) (by omega)).trans b
    · exact (h2 (3 * k + 2) (by omega)).trans c
section MTO
variable {t : Nat → Int32} {n x : Nat}
theorem mb_tested (hl : n ≤ 400) (hx : x < 6) (hb : ∀ k, byt (t k)) {i m : Nat} {c : List (Nat × Nat)} {S : fS} {u : Int32} (hn : S.1 145 1 = o3 n) (ht : S.1 146 = t) (hR : RQ S x m c) (hm : m ≤ 60) (hc : c.length ≤ i) (hi : i ≤ n) : ∃ T w' u', f_X11_tested (mS S (o3 i) 0 u) = some (if (run t n (n + 1) (true, false, m, [], [], i)).1 = 0 then (1, mS T (o3 (run t n (n + 1) (true, false, m, [], [], i)).2.1) 0 u') else (0, mS T w' (o3 (run t n (n + 1) (true, false, m, [], [], i)).1) u')) ∧ eMr x S T ∧ ((run t n (n + 1) (true, false, m, [], [], i)).1 = 0 → RQ T x (run t n (n + 1) (true, false, m, [], [], i)).2.2.1 (c ++ (run t n (n + 1) (true, false, m, [], [], i)).2.2.2) ∧ (run t n (n + 1) (true, false, m, [], [], i)).2.1 ≤ n ∧ i < (run t n (n + 1) (true, false, m, [], [], i)).2.1 ∧ (run t n (n + 1) (true, false, m, [], [], i)).2.2.1 ≤ 60 ∧ (c ++ (run t n (n + 1) (true, false, m, [], [], i)).2.2.2).length ≤ (run t n (n + 1) (true, false, m, [], [], i)).2.1 ∧ tyc (run t n (n + 1) (true, false, m, [], [], i)).2.2.2 [] = some [true]) := by
  have e : f_X11_tested (mS S (o3 i) 0 u) = lp_X11_tested_12 tstK FU 1 (mS (pI (pI S 145 21 0) 145 18 0) (o3 i) 0 u) := by
    unfold f_X11_tested
    rw [bd_some, mS_p (by omega), bd_some, mS_p (by omega)]
    rfl
  have hE : eMr x S (pI (pI S 145 21 0) 145 18 0) := (eMr_pI (by unfold wMr; omega)).tr (eMr_pI (by unfold wMr; omega))
  have hR1 : RQ (pI (pI S 145 21 0) 145 18 0) x m c := by
    refine RQ_eq hR ?_ ?_ (fun k => ?_) (fun k => ?_) <;> rw [pI_ne (by omega), pI_ne (by omega)]
  have hH1 : RH (pI (pI S 145 21 0) 145 18 0) [] := ⟨by rw [pI_ne (by omega), pI_eq]; rfl, by rw [pI_eq]; rfl, fun k hk => absurd hk (Nat.not_lt_zero _)⟩
  obtain ⟨T, w', u', a1, a2, a3, a4⟩ := mb_tst hl hx hb (c0 := c) n i m c [] _ u false FU (by omega) (FU_lt (by omega)) ((eMr_1 hE).trans hn) ((eMr_t hE).trans ht) hR1 hH1 (fun y hy => absurd hy List.not_mem_nil) (by decide) hm (by show c.length + 0 ≤ i; omega) hi ⟨[], (List.append_nil c).symm, rfl⟩
  have hr : RUN t n (true, false, m, c, [], i) = pre c (run t n (n + 1) (true, false, m, [], [], i)) := by
    unfold RUN
    have := run_pre (t := t) (n := n) (c0 := c) (n + 1) true false m [] [] i
    rw [List.append_nil] at this
    exact this
  rw [hr] at a1 a3 a4
  rw [e, a1]
  generalize run t n (n + 1) (true, false, m, [], [], i) = r at a1 a3 a4
  unfold pre at a3 a4 ⊢
  by_cases h0 : r.1 = 0
  · simp only [if_pos h0] at a3 a4 ⊢
    refine ⟨T, w', u', rfl, hE.tr a2, fun _ => ?_⟩
    obtain ⟨b1, b2, b3, b4, b5, b6⟩ := a3 h0
    obtain ⟨e', y1, y2⟩ := a4 h0
    have : r.2.2.2 = e' := List.append_cancel_left y1
    exact ⟨b1, b2, b3, b5, b6, by rw [this]; exact y2⟩
  · simp only [if_neg h0] at ⊢
    exact ⟨T, w', u', rfl, hE.tr a2, fun q => absurd q h0⟩
theorem mb_to (hl : n ≤ 400) (hx : x < 6) (hb : ∀ k, byt (t k)) {i m : Nat} {L : List Cl} {S : fS} {u : Int32} (hn : S.1 145 1 = o3 n) (ht : S.1 146 = t) (hR : RQ S x m (mcode L)) (hM : clM S x L) (hm : m ≤ 60) (hk : L.length < 12) (hc : (mcode L).length ≤ i) (hi : i ≤ n) (hw : wat t n (mm_sb.getD 3 []) (sk t n i) = true) : ∃ T w' u', f_X11_isToHere (mS S (o3 (sk t n i)) 0 u) = some (if (rcl t n L.length m i).1 = 0 then (1, mS T (o3 (rcl t n L.length m i).2.1) 0 u') else (0, mS T w' (o3 (rcl t n L.length m i).1) u')) ∧ eM9 x S T ∧ T.1 145 19 = S.1 145 19 ∧ ((rcl t n L.length m i).1 = 0 → RQ T x (rcl t n L.length m i).2.2.1 (mcode (L ++ [(rcl t n L.length m i).2.2.2])) ∧ clM T x (L ++ [(rcl t n L.length m i).2.2.2]) ∧ (rcl t n L.length m i).2.1 ≤ n ∧ i < (rcl t n L.length m i).2.1 ∧ (rcl t n L.length m i).2.2.1 ≤ 60 ∧ (mcode (L ++ [(rcl t n L.length m i).2.2.2])).length ≤ (rcl t n L.length m i).2.1 ∧ okCl (rcl t n L.length m i).2.2.2) := by
  have hj := sk_le (t := t) hi
  have hg := sk_ge (t := t) (n := n) (i := i)
  have hll : ll t n (sk t n i) = 2 := ((wat_ll (t := t) (n := n) _ _ (mw_L 3 (by decide))).mp hw).1
  have h2 := ll_le (t := t) (n := n) _ (sk t n i) rfl hj
  rw [hll] at h2
  unfold f_X11_isToHere rcl
  rw [mt_pass hn hl hj, bd_some, ht, hll, if_pos hw, if_neg (show ¬ 12 ≤ L.length by omega)]
  generalize sk t n i = j at hj hg h2 hw
  obtain ⟨u1, a1⟩ := mt_num (S := S) (u := u) hn hl (lo := 0) (hi := 9) (i := j + 2) h2
  rw [show (0 : Int32).toInt = 0 from rfl, show (9 : Int32).toInt = 9 from rfl, ht] at a1
  rw [a1, bd_some]
  by_cases hF : nmf t n (j + 2) 0 9 = 0
  · rw [if_pos hF, if_pos hF]
    dsimp only
    rw [if_neg (show ¬ (1 : Int32) = 0 by decide)]
    have p1 := nmp_gt hF
    have p2 := nmp_le (t := t) h2
    obtain ⟨v1, v2, v3, v4⟩ := nmf_0 hF
    generalize nmp t n (j + 2) = p at p1 p2
    generalize nmv t n (j + 2) = v at v3 v4
    have hq := sk_le (t := t) p2
    have hqg := sk_ge (t := t) (n := n) (i := p)
    obtain ⟨r1, r2, r3, r4⟩ := hR
    have e36 : ((36 : Int32) * o3 x) + ((3 : Int32) * o3 L.length) = o3 (36 * x + 3 * L.length) := by
      rw [show (36 : Int32) = o3 36 from rfl, show (3 : Int32) = o3 3 from rfl, o3_mul, o3_mul, o3_add]
    have e1 : o3 (36 * x + 3 * L.length) + (1 : Int32) = o3 (36 * x + 3 * L.length + 1) := o3_s
    have e2 : o3 (36 * x + 3 * L.length) + (2 : Int32) = o3 (36 * x + 3 * L.length + 2) := by rw [show (2 : Int32) = o3 2 from rfl, o3_add]
    rw [mS_ne (by omega), r1, gI_o (by omega) (by omega), bd_some, mS_ne (by omega), hM.1, e36, mS_15, sI_o (by omega) (by omega), bd_some, mS_p (by omega), e1, sI_o (by omega) (by omega), bd_some, mS_p (by omega)]
    generalize hX : pI (pI S 149 (36 * x + 3 * L.length) (o3 v)) 149 (36 * x + 3 * L.length + 1) (-1) = X
    have hXo : ∀ a k, ¬ (a = 149 ∧ (k = 36 * x + 3 * L.length ∨ k = 36 * x + 3 * L.length + 1)) → X.1 a k = S.1 a k := fun a k h => by
      rw [← hX, pI_ne (by omega), pI_ne (by omega)]
    have hX0 : X.1 149 (36 * x + 3 * L.length) = o3 v := by rw [← hX, pI_ne (by omega), pI_eq]
    have hX1 : X.1 149 (36 * x + 3 * L.length + 1) = -1 := by rw [← hX, pI_eq]
    have hXE : eM9 x S X := by rw [← hX]; exact (eM9_pI (by unfold wM9; omega)).tr (eM9_pI (by unfold wM9; omega))
    have hXn := (eM9_1 hXE).trans hn
    have hXt := (eM9_t hXE).trans ht
    have hXR : RQ X x m (mcode L) := RQ_eq ⟨r1, r2, r3, r4⟩ (hXo _ _ (by omega)) (hXo _ _ (by omega)) (fun k => hXo _ _ (by omega)) (fun k => hXo _ _ (by omega))
    rw [mt_takes (c := 26982) hXn hl (mw_L 4 (by decide)) (by decide) (by decide) (mw_c 4 (by decide)) p2, bd_some, hXt]
    by_cases hw4 : wat t n (mm_sb.getD 4 []) (sk t n p) = true
    · have hl4 := ((wat_ll (t := t) (n := n) _ _ (mw_L 4 (by decide))).mp hw4).1
      have h4 := ll_le (t := t) (n := n) _ (sk t n p) rfl hq
      rw [hl4, show (mm_sb.getD 4 []).length = 2 from rfl] at h4
      rw [if_pos hw4, if_pos hw4, show (mm_sb.getD 4 []).length = 2 from rfl]
      dsimp only
      rw [if_neg (show ¬ (1 : Int32) = 0 by decide), mS_ne (by omega), hXo 145 16 (by omega), r1, gI_o (by omega) (by omega), bd_some, mS_ne (by omega), hXo 148 x (by omega), r3, sI_o (by omega) (by omega), bd_some, mS_p (by omega)]
      generalize hZ : pI X 149 (36 * x + 3 * L.length + 1) (o3 (mcode L).length) = Z
      have hZo : ∀ a k, ¬ (a = 149 ∧ k = 36 * x + 3 * L.length + 1) → Z.1 a k = X.1 a k := fun a k h => by rw [← hZ, pI_ne h]
      have hZ1 : Z.1 149 (36 * x + 3 * L.length + 1) = o3 (mcode L).length := by rw [← hZ, pI_eq]
      have hZE : eM9 x S Z := by rw [← hZ]; exact hXE.tr (eM9_pI (by unfold wM9; omega))
      have hZR : RQ Z x m (mcode L) := RQ_eq hXR (hZo _ _ (by omega)) (hZo _ _ (by omega)) (fun k => hZo _ _ (by omega)) (fun k => hZo _ _ (by omega))
      have hro := run_ok (t := t) (n := n) (m0 := m) (n + 1) (true, false, m, [], [], sk t n p + 2) ⟨fun y hy => absurd hy List.not_mem_nil, by show 0 ≤ 10; omega, h4⟩ ⟨fun y hy => absurd hy List.not_mem_nil, by show 0 + m ≤ m; omega, hm⟩
      obtain ⟨T, w', u', b1, b2, b3⟩ := mb_tested (u := o3 v) hl hx hb ((eM9_1 hZE).trans hn) ((eM9_t hZE).trans ht) hZR hm (show (mcode L).length ≤ sk t n p + 2 by omega) h4
      rw [b1, bd_some]
      generalize run t n (n + 1) (true, false, m, [], [], sk t n p + 2) = r at b1 b3 hro
      have hTo : ∀ a k, a = 149 ∨ a = 150 ∨ (a = 145 ∧ k = 19) ∨ (a = 145 ∧ k = 16) → T.1 a k = Z.1 a k := fun a k h => b2.1 a k (by unfold wMr; omega)
      by_cases hr : r.1 = 0
      · obtain ⟨c1, c2, c3, c4, c5, c6⟩ := b3 hr
        rw [if_pos hr, if_pos hr]
        dsimp only
        rw [if_neg (show ¬ (1 : Int32) = 0 by decide), mS_ne (by omega), c1.1, gI_o (by omega) (by omega), bd_some, mS_ne (by omega), c1.2.2.1, e2, sI_o (by omega) (by omega), bd_some, mS_p (by omega), mS_ne (by omega), pI_ne (by omega), c1.1, gI_o (by omega) (by omega), bd_some, mS_ne (by omega), pI_ne (by omega), hTo 150 x (by omega), hZo 150 x (by omega), hXo 150 x (by omega), hM.1, o3_s, sI_o (by omega) (by omega), bd_some, mS_p (by omega)]
        refine ⟨_, 0, u', by rw [if_pos rfl], ((hZE.tr (eM9_of b2)).tr (eM9_pI (by unfold wM9; omega))).tr (eM9_pI (by unfold wM9; omega)), ?_, fun _ => ?_⟩
        · rw [pI_ne (by omega), pI_ne (by omega), hTo 145 19 (by omega), hZo _ _ (by omega), hXo _ _ (by omega)]
        · have hcd : mcode (L ++ [(v, some r.2.2.2)]) = mcode L ++ r.2.2.2 := mcode_app
          rw [hcd]
          refine ⟨?_, ?_, c2, by omega, c4, c5, by show v ≤ 9; omega, fun w hw => ?_⟩
          rotate_left 2
          · obtain rfl := Option.some.inj hw
            obtain ⟨y1, y2, y3⟩ := hro hr
            exact ⟨c6, y1, by omega⟩
          · refine RQ_eq c1 ?_ ?_ (fun k => ?_) (fun k => ?_) <;> rw [pI_ne (by omega), pI_ne (by omega)]
          · refine clM_app hM ?_ (fun k hk => ?_) ?_ ?_ ?_
            · rw [pI_eq]
            · rw [pI_ne (by omega), pI_ne (by omega), hTo _ _ (by omega), hZo _ _ (by omega), hXo _ _ (by omega)]
            · rw [pI_ne (by omega), pI_ne (by omega), hTo _ _ (by omega), hZo _ _ (by omega), hX0]
            · rw [pI_ne (by omega), pI_ne (by omega), hTo _ _ (by omega), hZ1]; rfl
            · rw [pI_ne (by omega), pI_eq, hcd]
      · rw [if_neg hr, if_neg hr]
        dsimp only
        rw [if_pos rfl]
        exact ⟨T, w', u', by rw [if_neg hr], hZE.tr (eM9_of b2), by rw [hTo 145 19 (by omega), hZo _ _ (by omega), hXo _ _ (by omega)], fun q => absurd q hr⟩
    · rw [if_neg hw4, if_neg hw4]
      dsimp only
      rw [if_pos rfl, mS_ne (by omega), hXo 145 16 (by omega), r1, gI_o (by omega) (by omega), bd_some, mS_ne (by omega), hXo 148 x (by omega), r3, e2, sI_o (by omega) (by omega), bd_some, mS_p (by omega), mS_ne (by omega), pI_ne (by omega), hXo 145 16 (by omega), r1, gI_o (by omega) (by omega), bd_some, mS_ne (by omega), pI_ne (by omega), hXo 150 x (by omega), hM.1, o3_s, sI_o (by omega) (by omega), bd_some, mS_p (by omega)]
      refine ⟨_, 0, o3 v, by rw [if_pos rfl], (hXE.tr (eM9_pI (by unfold wM9; omega))).tr (eM9_pI (by unfold wM9; omega)), ?_, fun _ => ?_⟩
      · rw [pI_ne (by omega), pI_ne (by omega), hXo _ _ (by omega)]
      · have hcd : mcode (L ++ [(v, none)]) = mcode L := by rw [mcode_app]; exact List.append_nil _
        rw [hcd]
        refine ⟨?_, ?_, hq, by omega, hm, by omega, by show v ≤ 9; omega, fun w hw => nomatch hw⟩
        · refine RQ_eq hXR ?_ ?_ (fun k => ?_) (fun k => ?_) <;> rw [pI_ne (by omega), pI_ne (by omega)]
        · refine clM_app hM ?_ (fun k hk => ?_) ?_ ?_ ?_
          · rw [pI_eq]
          · rw [pI_ne (by omega), pI_ne (by omega), hXo _ _ (by omega)]
          · rw [pI_ne (by omega), pI_ne (by omega), hX0]
          · rw [pI_ne (by omega), pI_ne (by omega), hX1]; rfl
          · rw [pI_ne (by omega), pI_eq, hcd]
  · rw [if_neg hF, if_neg hF]
    dsimp only
    rw [if_pos rfl]
    exact ⟨S, o3 (nmp t n (j + 2)), u1, by rw [if_neg hF], eM9.rf, rfl, fun q => absurd q hF⟩
end MTO
end
