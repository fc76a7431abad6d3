noncomputable section
/-! the reference's rule() -/
section FLB
variable {t : Nat → Int32} {n : Nat}
def okR (n : Nat) (r : TR) : Prop := r.1 ≤ 8 * n + 10 ∧ (r.1 = 0 → r.2.1 ≤ n)
theorem aft_fl {cp : Bool} {m i : Nat} {c : List (Nat × Nat)} {H : List Nat} {r : TR} (he : elH H) (hi : i ≤ n) (h : aft t n cp m c H i = .inl r) : okR n r := by
  have hj := sk_le (t := t) hi
  unfold aft at h
  generalize sk t n i = j at hj h
  by_cases hr : rk t n j = 0
  · rw [if_pos hr] at h
    by_cases hc : cp = true
    · rw [if_pos hc] at h
      obtain ⟨q1, q2, q3, q4, q5⟩ := clo_pr (n := n) (t := t) (brk H + 1) H j he (by omega) hj
      generalize clo t n (brk H + 1) j H = Q at h q1 q2 q3 q4 q5
      have hj2 := sk_le (t := t) q5
      generalize sk t n Q.2.1 = e at h hj2
      by_cases hn : jn t n e = 0
      · rw [if_pos hn] at h
        split at h
        · obtain rfl := Sum.inl.inj h; exact ⟨Nat.zero_le _, fun _ => hj2⟩
        · obtain rfl := Sum.inl.inj h; exact ⟨by show 1 + 8 * e ≤ _; omega, fun q => absurd q (show ¬ 1 + 8 * e = 0 by omega)⟩
      · rw [if_neg hn] at h; exact nomatch h
    · rw [if_neg hc] at h
      by_cases hm : cm t n j = 0
      · rw [if_pos hm] at h; obtain rfl := Sum.inl.inj h; exact ⟨by show 1 + 8 * j ≤ _; omega, fun q => absurd q (show ¬ 1 + 8 * j = 0 by omega)⟩
      · rw [if_neg hm] at h
        by_cases h6 : 60 ≤ m
        · rw [if_pos h6] at h; obtain rfl := Sum.inl.inj h; exact ⟨by show 1 + 8 * j + 3 ≤ _; omega, fun q => absurd q (show ¬ 1 + 8 * j + 3 = 0 by omega)⟩
        · rw [if_neg h6] at h; exact nomatch h
  · rw [if_neg hr] at h; exact nomatch h
theorem tval_fl {cp : Bool} {m i : Nat} {c : List (Nat × Nat)} {H : List Nat} {r : TR} (he : elH H) (hi : i ≤ n) (h : tval t n cp m c H i = .inl r) : okR n r := by
  have hj := sk_le (t := t) hi
  unfold tval at h
  by_cases hv : vlF t n m (sk t n i) = 0
  · rw [if_pos hv] at h
    obtain ⟨v1, v2, v3⟩ := vl_gt hj sk_id hv
    exact aft_fl he v2 h
  · rw [if_neg hv] at h; obtain rfl := Sum.inl.inj h; exact ⟨vl_fl hj, fun q => absurd q hv⟩
theorem stp_fl {x : TS} {r : TR} (hx : jT n x) (h : stp t n x = .inl r) : okR n r := by
  obtain ⟨due, cp, m, c, H, i⟩ := x
  obtain ⟨he, hd, hi⟩ := hx
  dsimp only at he hd hi
  unfold stp at h
  dsimp only at h
  by_cases hu : due = true
  · rw [if_pos hu] at h
    have hp := opn_pr (t := t) (n := n) (11 - dep H) i H hi hd
    have hf := opn_fl (t := t) (n := n) (11 - dep H) i H hi
    generalize opn t n (11 - dep H) i H = Q at h hp hf
    by_cases hq : Q.1 = 0
    · rw [if_pos hq] at h
      obtain ⟨P, p1, p2, p3, p4, p5, p6⟩ := hp hq
      exact tval_fl (H := Q.2.2) (fun z hz => by
        rw [p1] at hz
        rcases List.mem_append.mp hz with hz | hz
        · have := p2 z hz; omega
        · exact he z hz) p5 h
    · rw [if_neg hq] at h; obtain rfl := Sum.inl.inj h; exact ⟨hf, fun q => absurd q hq⟩
  · rw [if_neg hu] at h
    exact tval_fl he hi h
theorem run_fl : ∀ F (x : TS), jT n x → okR n (run t n F x) := by
  intro F
  induction F with
  | zero => intro x _; exact ⟨by show 1 ≤ _; omega, fun q => absurd q (by show ¬ 1 = 0; omega)⟩
  | succ F ih =>
    intro x hx
    rw [run_s]
    cases hs : stp t n x with
    | inl r => exact stp_fl hx hs
    | inr y => exact ih y (stp_J hx hs).1
theorem rcl_ok {k m i : Nat} (hi : i ≤ n) : (rcl t n k m i).1 ≤ 8 * n + 10 ∧ ((rcl t n k m i).1 = 0 → (rcl t n k m i).2.1 ≤ n) := by
  have hj := sk_le (t := t) hi
  unfold rcl
  by_cases hw : wat t n (mm_sb.getD 3 []) (sk t n i) = true
  · have hll : ll t n (sk t n i) = 2 := ((wat_ll (t := t) (n := n) _ _ (mw_L 3 (by decide))).mp hw).1
    have h2 := ll_le (t := t) (n := n) _ (sk t n i) rfl hj
    rw [hll] at h2
    rw [if_pos hw]
    by_cases hk : 12 ≤ k
    · rw [if_pos hk]; exact ⟨by show 1 + 8 * _ + 4 ≤ _; omega, fun q => absurd q (show ¬ 1 + 8 * sk t n i + 4 = 0 by omega)⟩
    rw [if_neg hk]
    have p2 := nmp_le (t := t) h2
    by_cases hF : nmf t n (sk t n i + 2) 0 9 = 0
    · rw [if_pos hF]
      have hq := sk_le (t := t) p2
      by_cases hw4 : wat t n (mm_sb.getD 4 []) (sk t n (nmp t n (sk t n i + 2))) = true
      · have hl4 := ((wat_ll (t := t) (n := n) _ _ (mw_L 4 (by decide))).mp hw4).1
        have h4 := ll_le (t := t) (n := n) _ _ rfl hq
        rw [hl4, show (mm_sb.getD 4 []).length = 2 from rfl] at h4
        have := run_fl (t := t) (n := n) (n + 1) (true, false, m, [], [], sk t n (nmp t n (sk t n i + 2)) + 2) ⟨fun y hy => absurd hy List.not_mem_nil, by show 0 ≤ 10; omega, h4⟩
        rw [if_pos hw4]
        split
        · rename_i q; exact ⟨Nat.zero_le _, fun _ => this.2 q⟩
        · rename_i q; exact ⟨this.1, fun z => absurd z q⟩
      · rw [if_neg hw4]; exact ⟨Nat.zero_le _, fun _ => hq⟩
    · rw [if_neg hF]
      have := nmf_le (t := t) (lo := 0) (hi := 9) h2
      exact ⟨by show nmf t n _ 0 9 ≤ _; omega, fun q => absurd q hF⟩
  · rw [if_neg hw]; exact ⟨by show 1 + 8 * _ ≤ _; omega, fun q => absurd q (show ¬ 1 + 8 * sk t n i = 0 by omega)⟩
theorem rall_fl : ∀ f k m i L, i ≤ n → (rall t n f k m i L).1 ≤ 8 * n + 10 := by
  intro f
  induction f with
  | zero => intro k m i L _; show 1 ≤ _; omega
  | succ f ih =>
    intro k m i L hi
    rw [rall_s]
    by_cases h : (rcl t n k m i).1 = 0
    · rw [if_pos h]
      have hp := (rcl_ok hi).2 h
      have hq := sk_le (t := t) hp
      split
      · split
        · exact ih _ _ _ _ (by omega)
        · show 1 + 8 * _ ≤ _; omega
      · exact Nat.zero_le _
    · rw [if_neg h]; exact (rcl_ok hi).1
end FLB
/-- behind a clause -/
def rl (t : Nat → Int32) (n d k m i : Nat) (L L0 : List Cl) : Nat × List Cl := if sk t n i < n then (if t (sk t n i) = 59 then rall t n d k m (sk t n i + 1) L else (1 + 8 * sk t n i, L0)) else (0, L)
theorem rall_rl {t : Nat → Int32} {n d k m i : Nat} {L : List Cl} : rall t n (d + 1) k m i L = if (rcl t n k m i).1 = 0 then rl t n d (k + 1) (rcl t n k m i).2.2.1 (rcl t n k m i).2.1 (L ++ [(rcl t n k m i).2.2.2]) L else ((rcl t n k m i).1, L) := rfl
section MR8
variable {t : Nat → Int32} {n x : Nat}
theorem mr_clause (hl : n ≤ 400) (hx : x < 6) (hb : ∀ k, byt (t k)) {i m : Nat} {L : List Cl} {S : fS} {u : Int32} (hn : S.1 145 1 = o3 n) (ht : S.1 146 = t) (hR : RQ S x m (mcode L)) (hM : clM S x L) (h19 : S.1 145 19 = o3 L.length) (hm : m ≤ 60) (hk : L.length ≤ 12) (hc : (mcode L).length ≤ i) (hi : i ≤ n) : ∃ T w' u', f_X11_clauseHere (mS S (o3 i) 0 u) = some (if (rcl t n L.length m i).1 = 0 then (1, mS T (o3 (rcl t n L.length m i).2.1) 0 u') else (0, mS T w' (o3 (rcl t n L.length m i).1) u')) ∧ eM9 x S T ∧ ((rcl t n L.length m i).1 = 0 → RQ T x (rcl t n L.length m i).2.2.1 (mcode (L ++ [(rcl t n L.length m i).2.2.2])) ∧ clM T x (L ++ [(rcl t n L.length m i).2.2.2]) ∧ T.1 145 19 = o3 (L.length + 1) ∧ (rcl t n L.length m i).2.1 ≤ n ∧ i < (rcl t n L.length m i).2.1 ∧ (rcl t n L.length m i).2.2.1 ≤ 60 ∧ (mcode (L ++ [(rcl t n L.length m i).2.2.2])).length ≤ (rcl t n L.length m i).2.1 ∧ L.length < 12 ∧ okCl (rcl t n L.length m i).2.2.2) := by
  have hj := sk_le (t := t) hi
  have hid := sk_id (t := t) (n := n) (i := i)
  unfold f_X11_clauseHere
  rw [mt_see hn hl hi, bd_some, ht]
  dsimp only
  rw [mS_ne (by omega), hR.1, if_neg (show ¬ o3 x = (6 : Int32) from fun q => by have := (o3_inj (b := 6) (by omega) (by omega)).mp q; omega), mS_13]
  unfold j_X11_clauseHere_24
  rw [if_pos rfl, mr_word hn hl 29807 3 (by decide) (by decide) hj, bd_some, ht, hid]
  unfold j_X11_clauseHere_74
  dsimp only
  by_cases hw : wat t n (mm_sb.getD 3 []) (sk t n i) = true
  · rw [if_pos hw, if_neg (show ¬ (1 : Int32) = 0 by decide), if_pos rfl]
    unfold j_X11_clauseHere_101
    rw [mS_ne (by omega), h19]
    by_cases h12 : L.length = 12
    · have e : rcl t n L.length m i = (1 + 8 * sk t n i + 4, 0, 0, (0, none)) := by unfold rcl; rw [if_pos hw, if_pos (by omega)]
      rw [if_pos (show o3 L.length = (12 : Int32) by rw [h12]; rfl), mt_fails mS_14, bd_some, mS_wr, show (8 : Int32) = o3 8 from rfl, show (1 : Int32) = o3 1 from rfl, show (4 : Int32) = o3 4 from rfl, o3_mul, o3_add, o3_add, e]
      refine ⟨S, o3 (sk t n i), u, ?_, eM9.rf, fun q => absurd q (show ¬ 1 + 8 * sk t n i + 4 = 0 by omega)⟩
      rw [if_neg (show ¬ 1 + 8 * sk t n i + 4 = 0 by omega)]
      rfl
    · rw [if_neg (show ¬ o3 L.length = (12 : Int32) from fun q => h12 ((o3_inj (b := 12) (by omega) (by omega)).mp q)), bd_some, o3_s, mS_p (by omega), if_pos rfl]
      have hE : eM9 x S (pI S 145 19 (o3 (L.length + 1))) := eM9_pI (by unfold wM9; omega)
      have hR1 : RQ (pI S 145 19 (o3 (L.length + 1))) x m (mcode L) := by
        refine RQ_eq hR ?_ ?_ (fun k => ?_) (fun k => ?_) <;> rw [pI_ne (by omega)]
      have hM1 : clM (pI S 145 19 (o3 (L.length + 1))) x L := clM_eq hM (by rw [pI_ne (by omega)]) (fun k _ => by rw [pI_ne (by omega)])
      obtain ⟨T, w', u', a1, a2, a3, a4⟩ := mb_to (u := u) hl hx hb ((eM9_1 hE).trans hn) ((eM9_t hE).trans ht) hR1 hM1 hm (by omega) hc hi hw
      rw [pI_eq] at a3
      rw [a1, bd_some]
      by_cases hF : (rcl t n L.length m i).1 = 0
      · rw [if_pos hF]
        refine ⟨T, w', u', by rw [if_pos hF]; rfl, hE.tr a2, fun _ => ?_⟩
        obtain ⟨b1, b2, b3, b4, b5, b6, b7⟩ := a4 hF
        exact ⟨b1, b2, a3, b3, b4, b5, b6, by omega, b7⟩
      · rw [if_neg hF]
        exact ⟨T, w', u', by rw [if_neg hF]; rfl, hE.tr a2, fun q => absurd q hF⟩
  · have e : rcl t n L.length m i = (1 + 8 * sk t n i, 0, 0, (0, none)) := by unfold rcl; rw [if_neg hw]
    rw [if_neg hw, if_pos rfl, mt_fails mS_14, bd_some, mS_wr, show (8 : Int32) = o3 8 from rfl, show (1 : Int32) = o3 1 from rfl, show (0 : Int32) = o3 0 from rfl, o3_mul, o3_add, o3_add, e]
    refine ⟨S, o3 (sk t n i), u, ?_, eM9.rf, fun q => absurd q (show ¬ 1 + 8 * sk t n i = 0 by omega)⟩
    rw [if_neg (show ¬ 1 + 8 * sk t n i = 0 by omega)]
    rfl
def okRu (L : List Cl) : Prop := ∀ q ∈ L, okCl q
theorem okRu_app {L : List Cl} {q : Cl} (h : okRu L) (hq : okCl q) : okRu (L ++ [q]) := fun z hz => by
  rcases List.mem_append.mp hz with hz | hz
  · exact h z hz
  · rw [List.mem_singleton] at hz; rw [hz]; exact hq
def rEnd (n x : Nat) (t : Nat → Int32) (r : Nat × List Cl) (g : Int32) (T : fS) (i' w' : Int32) : Prop :=
  (r.1 = 0 ∧ g = 1 ∧ w' = 0 ∧ (∃ j, i' = o3 j ∧ ¬ j < n ∧ j ≤ n) ∧ clM T x r.2 ∧ r.2.length ≤ 12 ∧ okRu r.2 ∧ ∃ m, RQ T x m (mcode r.2) ∧ (mcode r.2).length ≤ n) ∨ (r.1 ≠ 0 ∧ g = 0 ∧ w' = o3 r.1) ∨ (∃ j, r.1 = 1 + 8 * j ∧ g = 1 ∧ w' = 0 ∧ i' = o3 j ∧ j < n ∧ sk t n j = j)
theorem mr_loop (hl : n ≤ 400) (hx : x < 6) (hb : ∀ k, byt (t k)) {K : Int32 → fS → Option (Int32 × fS)} : ∀ d L L0 m nn (S : fS) (i : Nat) (u : Int32), S.1 145 1 = o3 n → S.1 146 = t → RQ S x m (mcode L) → clM S x L → S.1 145 19 = o3 L.length → m ≤ 60 → (mcode L).length ≤ i → i ≤ n → L.length + d = 12 → d + 1 < nn → okRu L → ∃ T u' i' w' g, lp_X11_readsAll_35 K nn 1 (mS S (o3 i) 0 u) = K g (mS T i' w' u') ∧ eM9 x S T ∧ rEnd n x t (rl t n (d + 1) L.length m i L L0) g T i' w' := by
  intro d
  induction d with
  | zero =>
    intro L L0 m nn S i u hn ht hR hM h19 hm hc hi hd hnn hok
    obtain ⟨nn, rfl⟩ : ∃ k, nn = k + 1 := ⟨nn - 1, by omega⟩
    have hj := sk_le (t := t) hi
    have hg := sk_ge (t := t) (n := n) (i := i)
    rw [lp_X11_readsAll_35.eq_2, if_neg (show ¬ (1 : Int32) = 0 by decide), mt_see hn hl hi, bd_some, ht]
    dsimp only
    unfold rl
    by_cases h59 : sk t n i < n ∧ t (sk t n i) = 59
    · rw [if_pos ((seen_eq hb (by decide) (by decide)).mpr h59), bd_some, mS_nx, mS_13, o3_s, if_pos h59.1, if_pos h59.2, rall_rl]
      obtain ⟨T, w', u', a1, a2, a3⟩ := mr_clause (u := u) hl hx hb hn ht hR hM h19 hm (by omega) (show (mcode L).length ≤ sk t n i + 1 by omega) (by omega)
      have hz : ¬ (rcl t n L.length m (sk t n i + 1)).1 = 0 := fun q => by have := (a3 q).2.2.2.2.2.2.2.1; omega
      obtain ⟨nn, rfl⟩ : ∃ k, nn = k + 1 := ⟨nn - 1, by omega⟩
      rw [a1, bd_some, if_neg hz, if_neg hz]
      dsimp only
      rw [lp_X11_readsAll_35.eq_2, if_pos (show (0 : Int32) = 0 from rfl)]
      exact ⟨T, u', w', _, 0, rfl, a2, Or.inr (Or.inl ⟨hz, rfl, rfl⟩)⟩
    · rw [if_neg (fun q => h59 ((seen_eq hb (by decide) (by decide)).mp q))]
      refine ⟨S, u, _, 0, 1, rfl, eM9.rf, ?_⟩
      by_cases h1 : sk t n i < n
      · rw [if_pos h1, if_neg (fun q => h59 ⟨h1, q⟩)]
        exact Or.inr (Or.inr ⟨sk t n i, rfl, rfl, rfl, rfl, h1, sk_id⟩)
      · rw [if_neg h1]
        exact Or.inl ⟨rfl, rfl, rfl, ⟨_, rfl, h1, hj⟩, hM, by show L.length ≤ 12; omega, hok, m, hR, by show (mcode L).length ≤ n; omega⟩
  | succ d ih =>
    intro L L0 m nn S i u hn ht hR hM h19 hm hc hi hd hnn hok
    obtain ⟨nn, rfl⟩ : ∃ k, nn = k + 1 := ⟨nn - 1, by omega⟩
    have hj := sk_le (t := t) hi
    have hg := sk_ge (t := t) (n := n) (i := i)
    rw [lp_X11_readsAll_35.eq_2, if_neg (show ¬ (1 : Int32) = 0 by decide), mt_see hn hl hi, bd_some, ht]
    dsimp only
    rw [show rl t n (d + 1 + 1) L.length m i L L0 = if sk t n i < n then (if t (sk t n i) = 59 then rall t n (d + 1 + 1) L.length m (sk t n i + 1) L else (1 + 8 * sk t n i, L0)) else (0, L) from rfl]
    by_cases h59 : sk t n i < n ∧ t (sk t n i) = 59
    · rw [if_pos ((seen_eq hb (by decide) (by decide)).mpr h59), bd_some, mS_nx, mS_13, o3_s, if_pos h59.1, if_pos h59.2, rall_rl]
      obtain ⟨T, w', u', a1, a2, a3⟩ := mr_clause (u := u) hl hx hb hn ht hR hM h19 hm (by omega) (show (mcode L).length ≤ sk t n i + 1 by omega) (by omega)
      rw [a1, bd_some]
      by_cases hz : (rcl t n L.length m (sk t n i + 1)).1 = 0
      · obtain ⟨b1, b2, b3, b4, b5, b6, b7, b8, b9⟩ := a3 hz
        rw [if_pos hz, if_pos hz]
        dsimp only
        obtain ⟨T2, u2, i2, w2, g2, e2, f2, m2⟩ := ih (L ++ [(rcl t n L.length m (sk t n i + 1)).2.2.2]) L _ nn T _ u' ((eM9_1 a2).trans hn) ((eM9_t a2).trans ht) b1 b2 (by rw [b3, ln_app]) b6 b7 b4 (by rw [ln_app]; omega) (by omega) (okRu_app hok b9)
        rw [ln_app] at m2
        exact ⟨T2, u2, i2, w2, g2, e2, a2.tr f2, m2⟩
      · rw [if_neg hz, if_neg hz]
        dsimp only
        obtain ⟨nn, rfl⟩ : ∃ k, nn = k + 1 := ⟨nn - 1, by omega⟩
        rw [lp_X11_readsAll_35.eq_2, if_pos (show (0 : Int32) = 0 from rfl)]
        exact ⟨T, u', w', _, 0, rfl, a2, Or.inr (Or.inl ⟨hz, rfl, rfl⟩)⟩
    · rw [if_neg (fun q => h59 ((seen_eq hb (by decide) (by decide)).mp q))]
      refine ⟨S, u, _, 0, 1, rfl, eM9.rf, ?_⟩
      by_cases h1 : sk t n i < n
      · rw [if_pos h1, if_neg (fun q => h59 ⟨h1, q⟩)]
        exact Or.inr (Or.inr ⟨sk t n i, rfl, rfl, rfl, rfl, h1, sk_id⟩)
      · rw [if_neg h1]
        exact Or.inl ⟨rfl, rfl, rfl, ⟨_, rfl, h1, hj⟩, hM, by show L.length ≤ 12; omega, hok, m, hR, by show (mcode L).length ≤ n; omega⟩
end MR8
theorem rd_3 {X Y : fS} (e : f_X11_see X = some (-1, Y)) (h16 : Y.1 145 16 ≠ 6) (hw : Y.1 145 14 = 0) : rdK 1 X = some (1, pI Y 145 1 0) := by
  unfold rdK
  rw [if_neg (show ¬ (1 : Int32) = 0 by decide), e, bd_some]
  dsimp only
  rw [if_pos (show (-1 : Int32) = -1 from rfl), if_neg (show ¬ (1 : Int32) = 0 by decide), if_neg h16, bd_some, pI_ne (by omega), if_pos hw]
/-- what rule() may write, text x -/
def wV (x a k : Nat) : Prop := wM9 x a k ∨ (a = 145 ∧ (k = 1 ∨ k = 13 ∨ k = 14 ∨ k = 15))
def eV (x : Nat) (S T : fS) : Prop := (∀ a k, ¬ wV x a k → T.1 a k = S.1 a k) ∧ T.2 = S.2
theorem eV.tr {x : Nat} {S T U : fS} (h : eV x S T) (g : eV x T U) : eV x S U := ⟨fun a k n => (g.1 a k n).trans (h.1 a k n), g.2.trans h.2⟩
theorem eV_of {x : Nat} {S T : fS} (h : eM9 x S T) : eV x S T := ⟨fun a k n => h.1 a k (fun q => n (Or.inl q)), h.2⟩
theorem eV_pI {x : Nat} {S : fS} {a k : Nat} {y : Int32} (h : wV x a k) : eV x S (pI S a k y) := ⟨fun b j n => by
  rw [pI_get]
  by_cases q : b = a ∧ j = k
  · exact absurd (q.1 ▸ q.2 ▸ h) n
  · rw [if_neg q], rfl⟩
theorem eV_mS {x : Nat} {S : fS} {i w u : Int32} : eV x S (mS S i w u) := by
  unfold mS
  exact ((eV_pI (by unfold wV; omega)).tr (eV_pI (by unfold wV; omega))).tr (eV_pI (by unfold wV; omega))
/-- a rule as the reference holds it, text x -/
def cdM (S : fS) (x : Nat) (L : List Cl) : Prop := clM S x L ∧ L.length ≤ 12 ∧ S.1 148 x = o3 (mcode L).length ∧ (mcode L).length ≤ 400 ∧ okRu L ∧ ∀ k, k < (mcode L).length → S.1 147 (400 * x + k) = sgM ((mcode L).getD k (0, 0))
theorem m_rreads {S : fS} {n x : Nat} (hn : S.1 145 1 = o3 n) (hl : n ≤ 400) (hb : ∀ k, byt (S.1 146 k)) (hx : x < 6) (h16 : S.1 145 16 = o3 x) (h150 : S.1 150 x = 0) : ∃ Y, f_X11_readsAll S = some (if (ru0 (S.1 146) n).1 = 0 then 1 else 0, Y) ∧ Y.1 145 1 = 0 ∧ ((ru0 (S.1 146) n).1 = 0 → cdM Y x (ru0 (S.1 146) n).2) ∧ (¬ (ru0 (S.1 146) n).1 = 0 → Y.1 145 14 = o3 (ru0 (S.1 146) n).1) ∧ eV x S Y := by
  rw [rd_eq, h16, sI_o (by omega) (by omega), bd_some, bd_some, bd_some, bd_some, bd_some]
  rw [mS_mk, mS_p (by omega)]
  generalize hX : pI (pI (pI S 148 x 0) 145 19 0) 145 17 0 = X
  generalize hu : (pI (pI S 148 x 0) 145 19 0).1 145 15 = u
  have hD0 : eM9 x S X := by
    rw [← hX]
    exact ((eM9_pI (by unfold wM9 wMr; omega)).tr (eM9_pI (by unfold wM9; omega))).tr (eM9_pI (by unfold wM9 wMr; omega))
  have hXn : X.1 145 1 = o3 n := (eM9_1 hD0).trans hn
  have hXt : X.1 146 = S.1 146 := eM9_t hD0
  have hXR : RQ X x 0 (mcode []) := by
    rw [← hX]
    refine ⟨?_, ?_, ?_, fun k hk => absurd hk (Nat.not_lt_zero _)⟩
    · rw [pI_ne (by omega), pI_ne (by omega), pI_ne (by omega)]; exact h16
    · rw [pI_eq]; rfl
    · rw [pI_ne (by omega), pI_ne (by omega), pI_eq]; rfl
  have hXM : clM X x [] := by
    rw [← hX]
    refine ⟨?_, fun k hk => absurd hk (Nat.not_lt_zero _)⟩
    rw [pI_ne (by omega), pI_ne (by omega), pI_ne (by omega)]; exact h150
  have hX19 : X.1 145 19 = o3 0 := by rw [← hX, pI_ne (by omega), pI_eq]; rfl
  obtain ⟨S1, w1, u1, e1, f1, g1⟩ := mr_clause (u := u) hl hx hb hXn hXt hXR hXM hX19 (by omega) (by show 0 ≤ 12; omega) (by show 0 ≤ 0; omega) (i := 0) (by omega)
  have e1' : f_X11_clauseHere (mS X 0 0 u) = some (if (rcl (S.1 146) n 0 0 0).1 = 0 then (1, mS S1 (o3 (rcl (S.1 146) n 0 0 0).2.1) 0 u1) else (0, mS S1 w1 (o3 (rcl (S.1 146) n 0 0 0).1) u1)) := e1
  rw [e1', bd_some]
  have hru : ru0 (S.1 146) n = if (rcl (S.1 146) n 0 0 0).1 = 0 then rl (S.1 146) n 12 1 (rcl (S.1 146) n 0 0 0).2.2.1 (rcl (S.1 146) n 0 0 0).2.1 ([] ++ [(rcl (S.1 146) n 0 0 0).2.2.2]) [] else ((rcl (S.1 146) n 0 0 0).1, []) := rfl
  have g1 : (rcl (S.1 146) n 0 0 0).1 = 0 → RQ S1 x (rcl (S.1 146) n 0 0 0).2.2.1 (mcode ([] ++ [(rcl (S.1 146) n 0 0 0).2.2.2])) ∧ clM S1 x ([] ++ [(rcl (S.1 146) n 0 0 0).2.2.2]) ∧ S1.1 145 19 = o3 (0 + 1) ∧ (rcl (S.1 146) n 0 0 0).2.1 ≤ n ∧ 0 < (rcl (S.1 146) n 0 0 0).2.1 ∧ (rcl (S.1 146) n 0 0 0).2.2.1 ≤ 60 ∧ (mcode ([] ++ [(rcl (S.1 146) n 0 0 0).2.2.2])).length ≤ (rcl (S.1 146) n 0 0 0).2.1 ∧ 0 < 12 ∧ okCl (rcl (S.1 146) n 0 0 0).2.2.2 := g1
  have bad : ∀ (S2 : fS) (i2 u2 : Int32) (r : Nat), r ≠ 0 → r ≤ 8 * n + 10 → eM9 x S S2 → rdK 0 (mS S2 i2 (o3 r) u2) = some (0, pI (mS S2 i2 (o3 r) u2) 145 1 0) ∧ (pI (mS S2 i2 (o3 r) u2) 145 1 0).1 145 14 = o3 r ∧ eV x S (pI (mS S2 i2 (o3 r) u2) 145 1 0) := by
    intro S2 i2 u2 r h0 hr hD
    refine ⟨?_, ?_, ((eV_of hD).tr eV_mS).tr (eV_pI (by unfold wV; omega))⟩
    · rw [rd_0, mS_14, if_neg (o3_ne0 (by omega) h0)]
    · rw [pI_ne (by omega), mS_14]
  have hzf : (rcl (S.1 146) n 0 0 0).1 ≤ 8 * n + 10 := (rcl_ok (Nat.zero_le _)).1
  by_cases hz : (rcl (S.1 146) n 0 0 0).1 = 0
  · rw [if_pos hz]
    rw [if_pos hz] at hru
    dsimp only
    obtain ⟨b1, b2, b3, b4, b5, b6, b7, b8, b9⟩ := g1 hz
    obtain ⟨S2, u2, i2, w2, g2, e2, f2, m2⟩ := mr_loop hl hx hb (K := rdK) 11 _ [] _ FU S1 _ u1 ((eM9_1 f1).trans hXn) ((eM9_t f1).trans hXt) b1 b2 b3 b6 b7 b4 (by show 1 + 11 = 12; omega) (FU_lt (by omega)) (okRu_app (fun z hz => absurd hz List.not_mem_nil) b9)
    have m2 : rEnd n x (S.1 146) (rl (S.1 146) n 12 1 (rcl (S.1 146) n 0 0 0).2.2.1 (rcl (S.1 146) n 0 0 0).2.1 ([] ++ [(rcl (S.1 146) n 0 0 0).2.2.2]) []) g2 S2 i2 w2 := m2
    rw [e2]
    rw [← hru] at m2
    have hD2 : eM9 x S S2 := hD0.tr (f1.tr f2)
    have hn2 : S2.1 145 1 = o3 n := (eM9_1 hD2).trans hn
    have ht2 : S2.1 146 = S.1 146 := eM9_t hD2
    rcases m2 with ⟨r0, rfl, rfl, ⟨j, rfl, hj1, hj2⟩, hM, h12, hok, mm, hRQ, hmc⟩ | ⟨r0, rfl, rfl⟩ | ⟨j, r0, rfl, rfl, rfl, hj1, hj2⟩
    · have hsee := mt_see (w := 0) (u := u2) hn2 hl (i := j) hj2
      have hsk := sk_ge (t := S2.1 146) (n := n) (i := j)
      rw [(seen_no (by rw [ht2]; exact hb)).mpr (by omega)] at hsee
      rw [rd_3 hsee (by rw [mS_ne (by omega), hRQ.1]; exact fun q => by have := (o3_inj (b := 6) (by omega) (by omega)).mp q; omega) (by rw [mS_14]), if_pos r0]
      refine ⟨_, rfl, by rw [pI_eq], fun _ => ⟨clM_eq hM (by rw [pI_ne (by omega), mS_ne (by omega)]) (fun k _ => by rw [pI_ne (by omega), mS_ne (by omega)]), h12, ?_, by omega, hok, fun k hk => ?_⟩, fun q => absurd r0 q, ((eV_of hD2).tr eV_mS).tr (eV_pI (by unfold wV; omega))⟩
      · rw [pI_ne (by omega), mS_ne (by omega)]; exact hRQ.2.2.1
      · rw [pI_ne (by omega), mS_ne (by omega)]; exact hRQ.2.2.2 k hk
    · have hfl : (ru0 (S.1 146) n).1 ≤ 8 * n + 10 := rall_fl 13 0 0 0 [] (Nat.zero_le _)
      obtain ⟨b1, b2, b3⟩ := bad S2 i2 u2 _ r0 hfl hD2
      rw [b1, if_neg r0]
      exact ⟨_, rfl, by rw [pI_eq], fun q => absurd q r0, fun _ => b2, b3⟩
    · have hsee := mt_see (w := 0) (u := u2) hn2 hl (i := j) (by omega)
      rw [ht2, hj2] at hsee
      have r1 : ¬ (ru0 (S.1 146) n).1 = 0 := by rw [r0]; omega
      have hval : (1 + 8 * o3 j + 0 : Int32) = o3 (1 + 8 * j) := by rw [show (1 : Int32) = o3 1 from rfl, show (8 : Int32) = o3 8 from rfl, show (0 : Int32) = o3 0 from rfl, o3_mul, o3_add, o3_add]; rfl
      rw [rd_1 hsee (fun q => (seen_no hb).mp q hj1) (by rw [mS_14]), mS_13, hval, if_neg (o3_ne0 (by omega) (by omega)), if_neg r1]
      refine ⟨_, rfl, by rw [pI_eq], fun q => absurd q r1, fun _ => ?_, (((eV_of hD2).tr eV_mS).tr (eV_pI (by unfold wV; omega))).tr (eV_pI (by unfold wV; omega))⟩
      rw [pI_ne (by omega), pI_eq, r0]
  · rw [if_neg hz]
    rw [if_neg hz] at hru
    dsimp only
    obtain ⟨mm, hF⟩ := op_FU
    rw [hF, lp_X11_readsAll_35.eq_2, if_pos (show (0 : Int32) = 0 from rfl), hru]
    obtain ⟨b1, b2, b3⟩ := bad S1 w1 u1 _ hz hzf (hD0.tr f1)
    rw [b1, if_neg hz]
    exact ⟨_, rfl, by rw [pI_eq], fun q => absurd q hz, fun _ => b2, b3⟩
theorem m_rule {S : fS} {n r : Nat} (hn : S.1 145 1 = o3 n) (hl : n ≤ 400) (hb : ∀ k, byt (S.1 146 k)) (hr : S.1 145 2 = o3 r) (h6 : r ≤ 6) : ∃ Y, f_X11_rule S = some (if r = 6 then -1 else if (ru0 (S.1 146) n).1 = 0 then o3 r else -2 - o3 (ru0 (S.1 146) n).1, Y) ∧ (r = 6 → Y = S) ∧ (r < 6 → Y.1 145 1 = 0 ∧ (∀ a k, ¬ wV r a k → ¬ (a = 145 ∧ (k = 2 ∨ k = 16)) → Y.1 a k = S.1 a k) ∧ Y.2 = S.2 ∧ (¬ (ru0 (S.1 146) n).1 = 0 → Y.1 145 2 = o3 r) ∧ ((ru0 (S.1 146) n).1 = 0 → Y.1 145 2 = o3 (r + 1) ∧ cdM Y r (ru0 (S.1 146) n).2)) := by
  unfold f_X11_rule
  rw [hr]
  by_cases hr6 : r = 6
  · rw [if_pos (show o3 r = (6 : Int32) by rw [hr6]; rfl), if_pos hr6]
    exact ⟨S, rfl, fun _ => rfl, fun q => by omega⟩
  · rw [if_neg (show ¬ o3 r = (6 : Int32) from fun q => hr6 ((o3_inj (b := 6) (by omega) (by omega)).mp q)), if_neg hr6, bd_some, pI_eq, sI_o (by omega) (by omega), bd_some]
    generalize hX : pI (pI S 145 16 (o3 r)) 150 r 0 = X
    have hXo : ∀ a k, ¬ (a = 145 ∧ k = 16) → ¬ (a = 150 ∧ k = r) → X.1 a k = S.1 a k := fun a k h1 h2 => by rw [← hX, pI_ne h2, pI_ne h1]
    have hX2 : X.2 = S.2 := by rw [← hX]; rfl
    have hXt : X.1 146 = S.1 146 := funext fun k => hXo 146 k (by omega) (by omega)
    obtain ⟨Y, e1, e2, e3, e4, e5⟩ := m_rreads (S := X) (n := n) (x := r) (by rw [hXo _ _ (by omega) (by omega)]; exact hn) hl (by rw [hXt]; exact hb) (by omega) (by rw [← hX, pI_ne (by omega), pI_eq]) (by rw [← hX, pI_eq])
    rw [hXt] at e1 e3 e4
    have hY2 : Y.1 145 2 = o3 r := by rw [e5.1 145 2 (by unfold wV wM9 wMr; omega), hXo _ _ (by omega) (by omega)]; exact hr
    rw [e1, bd_some]
    dsimp only
    by_cases hz : (ru0 (S.1 146) n).1 = 0
    · rw [if_pos hz, if_pos hz, if_neg (show ¬ (1 : Int32) = 0 by decide), bd_some, hY2, o3_s, pI_eq, show (1 : Int32) = o3 1 from rfl, o3_sub (by omega), show r + 1 - 1 = r by omega]
      refine ⟨_, rfl, fun q => absurd q hr6, fun _ => ⟨by rw [pI_ne (by omega)]; exact e2, fun a k h1 h2 => ?_, e5.2.trans hX2, fun q => absurd hz q, fun _ => ⟨pI_eq, ?_⟩⟩⟩
      · rw [pI_ne (by omega), e5.1 a k h1, hXo a k (by omega) (fun q => h1 (by unfold wV wM9; omega))]
      · obtain ⟨d1, d2, d3, d4, d5, d6⟩ := e3 hz
        exact ⟨clM_eq d1 (by rw [pI_ne (by omega)]) (fun k _ => by rw [pI_ne (by omega)]), d2, by rw [pI_ne (by omega)]; exact d3, d4, d5, fun k hk => by rw [pI_ne (by omega)]; exact d6 k hk⟩
    · rw [if_neg hz, if_neg hz, if_pos (show (0 : Int32) = 0 from rfl), e4 hz]
      exact ⟨Y, rfl, fun q => absurd q hr6, fun _ => ⟨e2, fun a k h1 h2 => by rw [e5.1 a k h1, hXo a k (by omega) (fun q => h1 (by unfold wV wM9; omega))], e5.2.trans hX2, fun _ => hY2, fun q => absurd q hz⟩⟩
end
noncomputable section
/-! the worth of a test -/
theorem o3_and {x p : Nat} (hx : x < 2147483648) (hp : p < 31) : o3 x &&& o3 (2 ^ p - 1) = o3 (x % 2 ^ p) := by
  have hpp : 2 ^ p ≤ 2 ^ 30 := Nat.pow_le_pow_right (by omega) (by omega)
  have h0 : 0 < 2 ^ p := Nat.two_pow_pos p
  have hm : x % 2 ^ p < 2 ^ p := Nat.mod_lt _ h0
  apply Int32.toBitVec_inj.mp
  rw [Int32.toBitVec_and]
  apply BitVec.eq_of_toNat_eq
  have e1 : (o3 x).toBitVec = BitVec.ofNat 32 x := rfl
  have e2 : (o3 (2 ^ p - 1)).toBitVec = BitVec.ofNat 32 (2 ^ p - 1) := rfl
  have e3 : (o3 (x % 2 ^ p)).toBitVec = BitVec.ofNat 32 (x % 2 ^ p) := rfl
  rw [e1, e2, e3, BitVec.toNat_and, BitVec.toNat_ofNat, BitVec.toNat_ofNat, BitVec.toNat_ofNat, Nat.mod_eq_of_lt (show x < 2 ^ 32 by omega), Nat.mod_eq_of_lt (show 2 ^ p - 1 < 2 ^ 32 by omega), Nat.mod_eq_of_lt (show x % 2 ^ p < 2 ^ 32 by omega), Nat.and_two_pow_sub_one_eq_mod]
theorem o3_shr {x : Nat} {b : Int32} {p : Nat} (hx : x < 2147483648) (hb : b.toBitVec.smod 32 = BitVec.ofNat 32 p) (hp : p < 32) : o3 x >>> b = o3 (x / 2 ^ p) := by
  have hd : x / 2 ^ p ≤ x := Nat.div_le_self _ _
  rw [ni_eq, o3_int (by omega)]
  have e : (o3 x >>> b).toInt = (((o3 x).toBitVec).sshiftRight p).toInt := by
    show ((o3 x >>> b).toBitVec).toInt = _
    rw [Int32.toBitVec_shiftRight, hb, BitVec.sshiftRight_eq', BitVec.toNat_ofNat, Nat.mod_eq_of_lt (show p < 2 ^ 32 by omega)]
  rw [e, BitVec.toInt_sshiftRight]
  have e1 : ((o3 x).toBitVec).toInt = (x : Int) := o3_int hx
  rw [e1, Int.shiftRight_eq_div_pow]
  rfl
theorem enc_and {q : Nat × Nat} (h : okSt q) : enc q &&& (31 : Int32) = o3 q.1 := by
  have := o3_and (x := q.2 * 32 + q.1) (p := 5) (by have := h.1; have := h.2.1; omega) (by omega)
  have e : (q.2 * 32 + q.1) % 2 ^ 5 = q.1 := by have := h.1; omega
  rw [e] at this
  exact this
theorem enc_shr {q : Nat × Nat} (h : okSt q) : enc q >>> ((5 : Int32) &&& 31) = o3 q.2 := by
  have := o3_shr (x := q.2 * 32 + q.1) (b := (5 : Int32) &&& 31) (p := 5) (by have := h.1; have := h.2.1; omega) (by decide) (by omega)
  have e : (q.2 * 32 + q.1) / 2 ^ 5 = q.2 := by have := h.1; omega
  rw [e] at this
  exact this
theorem mp_lt {s : Nat} : mp s < 16 := by
  unfold mp
  split <;> omega
theorem sgM_and {q : Nat × Nat} (h : okSt q) : sgM q &&& (15 : Int32) = o3 (mp q.1) := by
  have hm := mp_lt (s := q.1)
  have := o3_and (x := mp q.1 + 16 * q.2) (p := 4) (by have := h.2.1; omega) (by omega)
  have e : (mp q.1 + 16 * q.2) % 2 ^ 4 = mp q.1 := by omega
  rw [e] at this
  exact this
theorem sgM_shr {q : Nat × Nat} (h : okSt q) : sgM q >>> ((4 : Int32) &&& 31) = o3 q.2 := by
  have hm := mp_lt (s := q.1)
  have := o3_shr (x := mp q.1 + 16 * q.2) (b := (4 : Int32) &&& 31) (p := 4) (by have := h.2.1; omega) (by decide) (by omega)
  have e : (mp q.1 + 16 * q.2) / 2 ^ 4 = q.2 := by omega
  rw [e] at this
  exact this
def jo (s : Nat) (a b : Int64) : Int64 :=
  if s = 7 then a + b else if s = 8 then a - b else if s = 9 then a * b
  else if s = 10 then (if b = 0 then 0 else a / b)
  else if s = 5 then (if a = 0 then 0 else if b = 0 then 0 else 1)
  else if s = 6 then (if a = 0 then (if b = 0 then 0 else 1) else 1)
  else if s = 11 then (if b ≤ a then 0 else 1)
  else if s = 12 then (if b < a then 0 else 1)
  else if s = 13 then (if a = b then 1 else 0)
  else if s = 14 then (if a < b then 0 else 1)
  else (if a ≤ b then 0 else 1)
def exS (W : Nat → Int64) (q : Nat × Nat) (st : List Int64) : List Int64 :=
  if q.1 = 2 then o6 q.2 :: st
  else if q.1 = 3 then W q.2 :: st
  else if q.1 = 4 then (match st with
    | x :: r => (if x = 0 then 1 else 0) :: r
    | [] => [])
  else (match st with
    | b :: a :: r => jo q.1 a b :: r
    | _ => [])
def exc (W : Nat → Int64) : List (Nat × Nat) → List Int64 → List Int64
  | [], st => st
  | q :: e, st => exc W e (exS W q st)
def tls : List Bool → List Int64 → Prop
  | [], [] => True
  | b :: τ, x :: st => (b = true → x = 0 ∨ x = 1) ∧ tls τ st
  | _, _ => False
theorem tls_len : ∀ (τ : List Bool) (st : List Int64), tls τ st → st.length = τ.length := by
  intro τ
  induction τ with
  | nil => intro st h; cases st with
    | nil => rfl
    | cons x st => exact absurd h id
  | cons b τ ih => intro st h; cases st with
    | nil => exact absurd h id
    | cons x st => show st.length + 1 = τ.length + 1; rw [ih st h.2]
theorem jo_b {s : Nat} {a b : Int64} (h : s = 5 ∨ s = 6 ∨ (11 ≤ s ∧ s ≤ 15)) : jo s a b = 0 ∨ jo s a b = 1 := by
  unfold jo
  rw [if_neg (by omega), if_neg (by omega), if_neg (by omega), if_neg (by omega)]
  by_cases h5 : s = 5
  · rw [if_pos h5]; split
    · exact Or.inl rfl
    · split
      · exact Or.inl rfl
      · exact Or.inr rfl
  rw [if_neg h5]
  by_cases h6 : s = 6
  · rw [if_pos h6]; split
    · split
      · exact Or.inl rfl
      · exact Or.inr rfl
    · exact Or.inr rfl
  rw [if_neg h6]
  split
  · split
    · exact Or.inl rfl
    · exact Or.inr rfl
  · split
    · split
      · exact Or.inl rfl
      · exact Or.inr rfl
    · split
      · split
        · exact Or.inr rfl
        · exact Or.inl rfl
      · split
        · split
          · exact Or.inl rfl
          · exact Or.inr rfl
        · split
          · exact Or.inl rfl
          · exact Or.inr rfl
/-- the shape of a typed step -/
theorem tyS_cs {q : Nat × Nat} {τ τ' : List Bool} (h : tyS q τ = some τ') : ((q.1 = 2 ∨ q.1 = 3) ∧ τ' = false :: τ) ∨ (q.1 = 4 ∧ ∃ r, τ = true :: r ∧ τ' = true :: r) ∨ ((q.1 = 5 ∨ q.1 = 6) ∧ ∃ r, τ = true :: true :: r ∧ τ' = true :: r) ∨ ((7 ≤ q.1 ∧ q.1 ≤ 10) ∧ ∃ r, τ = false :: false :: r ∧ τ' = false :: r) ∨ ((11 ≤ q.1 ∧ q.1 ≤ 15) ∧ ∃ r, τ = false :: false :: r ∧ τ' = true :: r) := by
  unfold tyS at h
  by_cases h1 : q.1 = 2 ∨ q.1 = 3
  · rw [if_pos h1] at h; exact Or.inl ⟨h1, (Option.some.inj h).symm⟩
  rw [if_neg h1] at h
  by_cases h2 : q.1 = 4
  · rw [if_pos h2] at h
    refine Or.inr (Or.inl ⟨h2, ?_⟩)
    split at h
    · exact ⟨_, rfl, (Option.some.inj h).symm⟩
    · exact nomatch h
  rw [if_neg h2] at h
  by_cases h3 : q.1 = 5 ∨ q.1 = 6
  · rw [if_pos h3] at h
    refine Or.inr (Or.inr (Or.inl ⟨h3, ?_⟩))
    split at h
    · exact ⟨_, rfl, (Option.some.inj h).symm⟩
    · exact nomatch h
  rw [if_neg h3] at h
  by_cases h4 : 7 ≤ q.1 ∧ q.1 ≤ 10
  · rw [if_pos h4] at h
    refine Or.inr (Or.inr (Or.inr (Or.inl ⟨h4, ?_⟩)))
    split at h
    · exact ⟨_, rfl, (Option.some.inj h).symm⟩
    · exact nomatch h
  rw [if_neg h4] at h
  by_cases h5 : 11 ≤ q.1 ∧ q.1 ≤ 15
  · rw [if_pos h5] at h
    refine Or.inr (Or.inr (Or.inr (Or.inr ⟨h5, ?_⟩)))
    split at h
    · exact ⟨_, rfl, (Option.some.inj h).symm⟩
    · exact nomatch h
  · rw [if_neg h5] at h; exact nomatch h
/-- the shape of a step over a stack of these kinds -/
theorem exS_cs {W : Nat → Int64} {q : Nat × Nat} {τ τ' : List Bool} {st : List Int64} (h : tyS q τ = some τ') (hs : tls τ st) : tls τ' (exS W q st) ∧ ((q.1 = 2 ∧ exS W q st = o6 q.2 :: st) ∨ (q.1 = 3 ∧ exS W q st = W q.2 :: st) ∨ (q.1 = 4 ∧ ∃ x r, st = x :: r ∧ (x = 0 ∨ x = 1) ∧ exS W q st = (if x = 0 then 1 else 0) :: r) ∨ ((5 ≤ q.1 ∧ q.1 ≤ 15) ∧ ∃ a b r, st = b :: a :: r ∧ (q.1 = 5 ∨ q.1 = 6 → (a = 0 ∨ a = 1) ∧ (b = 0 ∨ b = 1)) ∧ exS W q st = jo q.1 a b :: r)) := by
  unfold exS
  rcases tyS_cs h with ⟨h1, rfl⟩ | ⟨h1, r, rfl, rfl⟩ | ⟨h1, r, rfl, rfl⟩ | ⟨h1, r, rfl, rfl⟩ | ⟨h1, r, rfl, rfl⟩
  · by_cases h2 : q.1 = 2
    · rw [if_pos h2]; exact ⟨⟨(fun z => nomatch z), hs⟩, Or.inl ⟨h2, rfl⟩⟩
    · rw [if_neg h2, if_pos (by omega)]; exact ⟨⟨(fun z => nomatch z), hs⟩, Or.inr (Or.inl ⟨by omega, rfl⟩)⟩
  · rw [if_neg (by omega), if_neg (by omega), if_pos h1]
    match st, hs with
    | x :: st, hs =>
      refine ⟨⟨fun _ => ?_, hs.2⟩, Or.inr (Or.inr (Or.inl ⟨h1, x, st, rfl, hs.1 rfl, rfl⟩))⟩
      split
      · exact Or.inr rfl
      · exact Or.inl rfl
  · rw [if_neg (by omega), if_neg (by omega), if_neg (by omega)]
    match st, hs with
    | b :: a :: st, hs => exact ⟨⟨fun _ => jo_b (by omega), hs.2.2⟩, Or.inr (Or.inr (Or.inr ⟨by omega, a, b, st, rfl, fun _ => ⟨hs.2.1 rfl, hs.1 rfl⟩, rfl⟩))⟩
  · rw [if_neg (by omega), if_neg (by omega), if_neg (by omega)]
    match st, hs with
    | b :: a :: st, hs => exact ⟨⟨(fun z => nomatch z), hs.2.2⟩, Or.inr (Or.inr (Or.inr ⟨by omega, a, b, st, rfl, fun z => by omega, rfl⟩))⟩
  · rw [if_neg (by omega), if_neg (by omega), if_neg (by omega)]
    match st, hs with
    | b :: a :: st, hs => exact ⟨⟨fun _ => jo_b (by omega), hs.2.2⟩, Or.inr (Or.inr (Or.inr ⟨by omega, a, b, st, rfl, fun z => by omega, rfl⟩))⟩
theorem c_joined {s : Nat} (hs : 5 ≤ s ∧ s ≤ 15) {a b : Int64} {S : fS} : f_X4_joined (o3 s) a b S = some (jo s a b) := by
  have : s = 5 ∨ s = 6 ∨ s = 7 ∨ s = 8 ∨ s = 9 ∨ s = 10 ∨ s = 11 ∨ s = 12 ∨ s = 13 ∨ s = 14 ∨ s = 15 := by omega
  rcases this with rfl | rfl | rfl | rfl | rfl | rfl | rfl | rfl | rfl | rfl | rfl
  · show ((if a = 0 then some (0 : Int32) else if b = 0 then some 0 else some 1).bind fun q9 => if q9 = (0 : Int32) then some (0 : Int64) else some 1) = some (if a = 0 then 0 else if b = 0 then 0 else 1)
    split
    · rfl
    · split <;> rfl
  · show ((if a = 0 then (if b = 0 then some (0 : Int32) else some 1) else some 1).bind fun q9 => if q9 = (0 : Int32) then some (0 : Int64) else some 1) = some (if a = 0 then (if b = 0 then 0 else 1) else 1)
    split
    · split <;> rfl
    · rfl
  · rfl
  · rfl
  · rfl
  · show (if b = 0 then some (0 : Int64) else ((dL a b).bind fun a6 => some a6)) = some (if b = 0 then 0 else a / b)
    by_cases h : b = 0
    · rw [if_pos h, if_pos h]
    · rw [if_neg h, if_neg h]; unfold dL; rw [if_neg h]; rfl
  · show ((if b ≤ a then some (0 : Int32) else some 1).bind fun q9 => if q9 = (0 : Int32) then some (0 : Int64) else some 1) = some (if b ≤ a then 0 else 1)
    split <;> rfl
  · show ((if b < a then some (0 : Int32) else some 1).bind fun q9 => if q9 = (0 : Int32) then some (0 : Int64) else some 1) = some (if b < a then 0 else 1)
    split <;> rfl
  · show ((if a = b then some (1 : Int32) else some 0).bind fun q9 => if q9 = (0 : Int32) then some (0 : Int64) else some 1) = some (if a = b then 1 else 0)
    split <;> rfl
  · show ((if a < b then some (0 : Int32) else some 1).bind fun q9 => if q9 = (0 : Int32) then some (0 : Int64) else some 1) = some (if a < b then 0 else 1)
    split <;> rfl
  · show ((if a ≤ b then some (0 : Int32) else some 1).bind fun q9 => if q9 = (0 : Int32) then some (0 : Int64) else some 1) = some (if a ≤ b then 0 else 1)
    split <;> rfl
theorem m_one {s : Nat} (hs : 5 ≤ s ∧ s ≤ 15) {a b : Int64} {S : fS} (hb : s = 5 ∨ s = 6 → (a = 0 ∨ a = 1) ∧ (b = 0 ∨ b = 1)) : f_X11_one (o3 (mp s)) a b S = some (jo s a b) := by
  have : s = 5 ∨ s = 6 ∨ s = 7 ∨ s = 8 ∨ s = 9 ∨ s = 10 ∨ s = 11 ∨ s = 12 ∨ s = 13 ∨ s = 14 ∨ s = 15 := by omega
  rcases this with rfl | rfl | rfl | rfl | rfl | rfl | rfl | rfl | rfl | rfl | rfl
  · obtain ⟨h1, h2⟩ := hb (by omega)
    rcases h1 with rfl | rfl <;> rcases h2 with rfl | rfl <;> rfl
  · obtain ⟨h1, h2⟩ := hb (by omega)
    rcases h1 with rfl | rfl <;> rcases h2 with rfl | rfl <;> rfl
  · rfl
  · rfl
  · rfl
  · show (if b = 0 then some (0 : Int64) else ((dL a b).bind fun a6 => some a6)) = some (if b = 0 then 0 else a / b)
    by_cases h : b = 0
    · rw [if_pos h, if_pos h]
    · rw [if_neg h, if_neg h]; unfold dL; rw [if_neg h]; rfl
  · show (if b ≤ a then some (0 : Int64) else some 1) = some (if b ≤ a then 0 else 1)
    split <;> rfl
  · show (if b < a then some (0 : Int64) else some 1) = some (if b < a then 0 else 1)
    split <;> rfl
  · show (if a = b then some (1 : Int64) else some 0) = some (if a = b then 1 else 0)
    split <;> rfl
  · show (if a < b then some (0 : Int64) else some 1) = some (if a < b then 0 else 1)
    split <;> rfl
  · show (if a ≤ b then some (0 : Int64) else some 1) = some (if a ≤ b then 0 else 1)
    split <;> rfl
theorem gd_ar {α : Type} {c e : List α} {d : α} {k : Nat} : (c ++ e).getD (c.length + k) d = e.getD k d := by
  induction c with
  | nil => rw [List.nil_append, List.length_nil, Nat.zero_add]
  | cons a c ih =>
    rw [List.cons_append, List.length_cons, show c.length + 1 + k = (c.length + k) + 1 by omega]
    exact ih
end
noncomputable section
/-! the class: a rule's goal -/
def RS (S : fS) (p : Nat) (st : List Int64) : Prop := S.1 p 3 = o3 st.length ∧ ∀ k, k < st.length → S.2 (p + 2) k = st.reverse.getD k 0
def eK (p : Nat) (S T : fS) : Prop := (∀ a k, ¬ (a = p ∧ k = 3) → T.1 a k = S.1 a k) ∧ (∀ a k, a ≠ p + 2 → T.2 a k = S.2 a k)
theorem eK.rf {p : Nat} {S : fS} : eK p S S := ⟨fun _ _ _ => rfl, fun _ _ _ => rfl⟩
theorem eK.tr {p : Nat} {S T U : fS} (h : eK p S T) (g : eK p T U) : eK p S U := ⟨fun a k n => (g.1 a k n).trans (h.1 a k n), fun a k n => (g.2 a k n).trans (h.2 a k n)⟩
theorem pL_row {S : fS} {a k b : Nat} {y : Int64} (h : b ≠ a) {j : Nat} : (pL S a k y).2 b j = S.2 b j := pL_ne (fun q => h q.1)
section CG
variable {p : Nat} {S : fS} {st : List Int64}
theorem ck_push {v : Int64} (hR : RS S p st) (hl : st.length < 60) : ∃ T, f_X4_push p v S = some T ∧ RS T p (v :: st) ∧ eK p S T := by
  obtain ⟨r1, r2⟩ := hR
  unfold f_X4_push
  rw [r1, if_neg (o3_nn (by omega)), if_neg (show ¬ (60 : Int32) ≤ o3 st.length from fun q => by have := (o3_le (a := 60) (by omega) (by omega)).mp q; omega), sL_o hl (by omega), bd_some, bd_some, pL_1, r1, o3_s]
  refine ⟨_, rfl, ⟨?_, fun k hk => ?_⟩, fun a k h => pI_ne h, fun a k h => pL_row h⟩
  · rw [pI_eq]; rfl
  · have hk : k < st.length + 1 := hk
    show (pL S (p + 2) st.length v).2 (p + 2) k = _
    rw [List.reverse_cons]
    by_cases e : k = st.length
    · subst e
      have := gd_r (c := st.reverse) (q := v) (d := 0)
      rw [List.length_reverse] at this
      rw [pL_eq, this]
    · rw [pL_ne (by omega), gd_l (by rw [List.length_reverse]; omega)]
      exact r2 k (by omega)
theorem ck_pop {x : Int64} (hR : RS S p (x :: st)) (hl : st.length < 60) : ∃ T, f_X4_pop p S = some (x, T) ∧ RS T p st ∧ eK p S T := by
  obtain ⟨r1, r2⟩ := hR
  have r1 : S.1 p 3 = o3 (st.length + 1) := r1
  unfold f_X4_pop
  rw [r1, if_neg (show ¬ o3 (st.length + 1) ≤ (0 : Int32) from fun q => by have := (o3_le (b := 0) (by omega) (by omega)).mp q; omega), if_pos (show o3 (st.length + 1) ≤ (60 : Int32) from (o3_le (b := 60) (by omega) (by omega)).mpr (by omega)), bd_some, show (1 : Int32) = o3 1 from rfl, o3_sub (by omega), show st.length + 1 - 1 = st.length by omega, pI_eq, gL_o hl (by omega), bd_some]
  have e : (pI S p 3 (o3 st.length)).2 (p + 2) st.length = x := by
    show S.2 (p + 2) st.length = x
    rw [r2 st.length (by show _ < st.length + 1; omega), List.reverse_cons]
    have := gd_r (c := st.reverse) (q := x) (d := 0)
    rw [List.length_reverse] at this
    exact this
  rw [e]
  refine ⟨_, rfl, ⟨pI_eq, fun k hk => ?_⟩, fun a k h => pI_ne h, fun a k h => rfl⟩
  show S.2 (p + 2) k = _
  rw [r2 k (by show k < st.length + 1; omega), List.reverse_cons, gd_l (by rw [List.length_reverse]; exact hk)]
end CG
section CG2
variable {p t0 c0 : Nat} {th : Int32} {W : Nat → Int64} {K : fS → Option (Int32 × fS)}
theorem ck_step {S : fS} {q : Nat × Nat} {τ τ' : List Bool} {st : List Int64} {k L nn : Nat} (h2 : S.1 p 2 = o3 L) (hL : L ≤ 400) (hk : k < L) (hc : S.1 (p + 1) k = enc q) (hq : okSt q) (ht : tyS q τ = some τ') (hs : tls τ st) (hR : RS S p st) (hd : st.length + nv [q] ≤ 60) (hW : ∀ v, v < 8 → f_X0_wordOf c0 t0 th (o3 v) S = some (W v)) : ∃ T, lp_X4_goalOf_8 p t0 c0 th K (nn + 1) (o3 k) S = lp_X4_goalOf_8 p t0 c0 th K nn (o3 (k + 1)) T ∧ RS T p (exS W q st) ∧ eK p S T ∧ tls τ' (exS W q st) := by
  obtain ⟨hx, hcs⟩ := exS_cs (W := W) ht hs
  rw [lp_X4_goalOf_8.eq_2, h2, if_neg (fun q => by have := (o3_le (by omega) (by omega)).mp q; omega), if_neg (show ¬ (400 : Int32) ≤ o3 k from fun q => by have := (o3_le (a := 400) (by omega) (by omega)).mp q; omega), gI_o (by omega) (by omega), bd_some, bd_some, hc, enc_and hq, enc_shr hq, o3_s]
  have e0 : ∀ j : Nat, j < 2147483648 → ∀ z : Nat, z < 2147483648 → (o3 j = o3 z ↔ j = z) := fun j hj z hz => o3_inj hj hz
  rcases hcs with ⟨h, e⟩ | ⟨h, e⟩ | ⟨h, x, r, rfl, hx2, e⟩ | ⟨h, a, b, r, rfl, hb, e⟩
  · have hn : nv [q] = 1 := by show 0 + _ = 1; rw [if_pos (Or.inl h)]
    rw [h, if_neg (show ¬ o3 2 = (0 : Int32) by decide), if_neg (show ¬ o3 2 = (1 : Int32) by decide), if_pos (show o3 2 = (2 : Int32) from rfl), o6_of3 (by have := hq.2.1; omega)]
    obtain ⟨T, t1, t2, t3⟩ := ck_push (v := o6 q.2) hR (by omega)
    rw [t1, bd_some]
    exact ⟨T, rfl, by rw [e]; exact t2, t3, hx⟩
  · have hn : nv [q] = 1 := by show 0 + _ = 1; rw [if_pos (Or.inr h)]
    rw [h, if_neg (show ¬ o3 3 = (0 : Int32) by decide), if_neg (show ¬ o3 3 = (1 : Int32) by decide), if_neg (show ¬ o3 3 = (2 : Int32) by decide), if_pos (show o3 3 = (3 : Int32) from rfl), hW q.2 (hq.2.2 h), bd_some]
    obtain ⟨T, t1, t2, t3⟩ := ck_push (v := W q.2) hR (by omega)
    rw [t1, bd_some]
    exact ⟨T, rfl, by rw [e]; exact t2, t3, hx⟩
  · have hd : r.length + 1 + nv [q] ≤ 60 := hd
    obtain ⟨T, t1, t2, t3⟩ := ck_pop hR (by omega)
    rw [h, if_neg (show ¬ o3 4 = (0 : Int32) by decide), if_neg (show ¬ o3 4 = (1 : Int32) by decide), if_neg (show ¬ o3 4 = (2 : Int32) by decide), if_neg (show ¬ o3 4 = (3 : Int32) by decide), if_pos (show o3 4 = (4 : Int32) from rfl), t1, bd_some]
    dsimp only
    rw [e]
    rw [e] at hx
    by_cases h0 : x = 0
    · rw [if_pos h0]
      rw [if_pos h0] at hx
      obtain ⟨T2, v1, v2, v3⟩ := ck_push (v := 1) t2 (by omega)
      rw [v1, bd_some, if_pos h0]
      exact ⟨T2, rfl, v2, t3.tr v3, hx⟩
    · rw [if_neg h0]
      rw [if_neg h0] at hx
      obtain ⟨T2, v1, v2, v3⟩ := ck_push (v := 0) t2 (by omega)
      rw [v1, bd_some, if_neg h0]
      exact ⟨T2, rfl, v2, t3.tr v3, hx⟩
  · have hd : r.length + 1 + 1 + nv [q] ≤ 60 := hd
    have hne : ∀ z : Nat, z < 5 → ¬ o3 q.1 = o3 z := fun z hz w => by have := (o3_inj (by omega) (by omega)).mp w; omega
    obtain ⟨T, t1, t2, t3⟩ := ck_pop hR (by show r.length + 1 < 60; omega)
    obtain ⟨T2, v1, v2, v3⟩ := ck_pop t2 (by omega)
    obtain ⟨T3, w1, w2, w3⟩ := ck_push (v := jo q.1 a b) v2 (by omega)
    rw [if_neg (show ¬ o3 q.1 = (0 : Int32) from hne 0 (by omega)), if_neg (show ¬ o3 q.1 = (1 : Int32) from hne 1 (by omega)), if_neg (show ¬ o3 q.1 = (2 : Int32) from hne 2 (by omega)), if_neg (show ¬ o3 q.1 = (3 : Int32) from hne 3 (by omega)), if_neg (show ¬ o3 q.1 = (4 : Int32) from hne 4 (by omega)), t1, bd_some]
    dsimp only
    rw [v1, bd_some]
    dsimp only
    rw [c_joined h, bd_some, w1, bd_some, e]
    rw [e] at hx
    exact ⟨T3, rfl, w2, (t3.tr v3).tr w3, hx⟩
theorem ck_seg {S0 : fS} (hW : ∀ T, eK p S0 T → ∀ v, v < 8 → f_X0_wordOf c0 t0 th (o3 v) T = some (W v)) {L : Nat} (h2 : S0.1 p 2 = o3 L) (hL : L ≤ 400) : ∀ (e : List (Nat × Nat)) (k nn : Nat) (S : fS) (τ τ' : List Bool) (st : List Int64), eK p S0 S → (∀ j, j < e.length → S0.1 (p + 1) (k + j) = enc (e.getD j (0, 0))) → k + e.length ≤ L → (∀ q ∈ e, okSt q) → tyc e τ = some τ' → tls τ st → RS S p st → st.length + nv e ≤ 60 → ∃ T, lp_X4_goalOf_8 p t0 c0 th K (nn + e.length) (o3 k) S = lp_X4_goalOf_8 p t0 c0 th K nn (o3 (k + e.length)) T ∧ RS T p (exc W e st) ∧ eK p S0 T ∧ tls τ' (exc W e st) := by
  intro e
  induction e with
  | nil =>
    intro k nn S τ τ' st hE hc hk ho ht hs hR hd
    obtain rfl := Option.some.inj ht
    exact ⟨S, rfl, hR, hE, hs⟩
  | cons q e ih =>
    intro k nn S τ τ' st hE hc hk ho ht hs hR hd
    have hk : k + (e.length + 1) ≤ L := hk
    have ht : (tyS q τ).bind (tyc e) = some τ' := ht
    cases hq : tyS q τ with
    | none => rw [hq] at ht; exact nomatch ht
    | some σ =>
      rw [hq] at ht
      have ht : tyc e σ = some τ' := ht
      have hn : nv (q :: e) = nv e + nv [q] := by show nv e + _ = nv e + (0 + _); omega
      obtain ⟨T, t1, t2, t3, t4⟩ := ck_step (q := q) (K := K) (nn := nn + e.length) (W := W) (t0 := t0) (c0 := c0) (th := th) (k := k) (L := L) ((hE.1 p 2 (by omega)).trans h2) hL (by omega) ((hE.1 (p + 1) k (by omega)).trans (hc 0 (by show 0 < e.length + 1; omega))) (ho q List.mem_cons_self) hq hs hR (by omega) (hW S hE)
      have hlen : (exS W q st).length + nv e ≤ 60 := by
        have h1 := tls_len _ _ t4
        have h5 := tls_len _ _ hs
        have h3 : σ.length ≤ τ.length + nv [q] := by
          rcases tyS_cs hq with ⟨z, rfl⟩ | ⟨z, r, rfl, rfl⟩ | ⟨z, r, rfl, rfl⟩ | ⟨z, r, rfl, rfl⟩ | ⟨z, r, rfl, rfl⟩
          · show τ.length + 1 ≤ τ.length + (0 + _)
            rw [if_pos z]; omega
          · exact Nat.le_add_right _ _
          · show r.length + 1 ≤ r.length + 1 + 1 + _; omega
          · show r.length + 1 ≤ r.length + 1 + 1 + _; omega
          · show r.length + 1 ≤ r.length + 1 + 1 + _; omega
        omega
      obtain ⟨T2, v1, v2, v3, v4⟩ := ih (k + 1) nn T σ τ' (exS W q st) (hE.tr t3) (fun j hj => by
        have := hc (j + 1) (by show j + 1 < e.length + 1; omega)
        rw [show k + 1 + j = k + (j + 1) by omega]
        exact this) (by omega) (fun z hz => ho z (List.mem_cons_of_mem _ hz)) ht t4 t2 hlen
      refine ⟨T2, ?_, v2, v3, v4⟩
      show lp_X4_goalOf_8 p t0 c0 th K (nn + e.length + 1) (o3 k) S = _
      rw [t1, v1]
      show _ = lp_X4_goalOf_8 p t0 c0 th K nn (o3 (k + (e.length + 1))) T2
      rw [show k + 1 + e.length = k + (e.length + 1) by omega]
/-- the goal that a rule sends to, or -1 -/
def vw (W : Nat → Int64) (w : List (Nat × Nat)) : Int64 := (exc W w []).headD 0
def gl (W : Nat → Int64) : List Cl → Int32
  | [] => -1
  | (q, none) :: _ => o3 q
  | (q, some w) :: L => if vw W w = 0 then gl W L else o3 q
theorem tls_1 {st : List Int64} (h : tls [true] st) : ∃ x, st = [x] ∧ (x = 0 ∨ x = 1) := by
  match st, h with
  | [x], h => exact ⟨x, rfl, h.1 rfl⟩
theorem vw_b {w : List (Nat × Nat)} (h : tls [true] (exc W w [])) : exc W w [] = [vw W w] ∧ (vw W w = 0 ∨ vw W w = 1) := by
  obtain ⟨x, e, hx⟩ := tls_1 h
  unfold vw
  rw [e]
  exact ⟨rfl, hx⟩
theorem ck_goal {S0 : fS} (hW : ∀ T, eK p S0 T → ∀ v, v < 8 → f_X0_wordOf c0 t0 th (o3 v) T = some (W v)) {L : Nat} (h2 : S0.1 p 2 = o3 L) (hL : L ≤ 400) : ∀ (Q : List Cl) (k nn : Nat) (S : fS), eK p S0 S → (∀ j, j < (ccode Q).length → S0.1 (p + 1) (k + j) = enc ((ccode Q).getD j (0, 0))) → k + (ccode Q).length = L → okRu Q → RS S p [] → (ccode Q).length < nn → ∃ T, lp_X4_goalOf_8 p t0 c0 th (fun S52 => some ((-1 : Int32), S52)) nn (o3 k) S = some (gl W Q, T) ∧ eK p S0 T := by
  intro Q
  induction Q with
  | nil =>
    intro k nn S hE hc hk ho hR hnn
    have hk : k + 0 = L := hk
    obtain ⟨nn, rfl⟩ : ∃ z, nn = z + 1 := ⟨nn - 1, by omega⟩
    rw [lp_X4_goalOf_8.eq_2, hE.1 p 2 (by omega), h2, if_pos ((o3_le (by omega) (by omega)).mpr (by omega))]
    exact ⟨S, rfl, hE⟩
  | cons q Q ih =>
    intro k nn S hE hc hk ho hR hnn
    have hcc : ccode (q :: Q) = ccl q ++ ccode Q := by unfold ccode; rw [List.flatMap_cons]
    rw [hcc] at hc hk hnn
    rw [List.length_append] at hk hnn
    obtain ⟨fl, t⟩ := q
    obtain ⟨ho1, ho2⟩ := ho (fl, t) List.mem_cons_self
    have ho1 : fl ≤ 9 := ho1
    have h2S : S.1 p 2 = o3 L := (hE.1 p 2 (by omega)).trans h2
    cases t with
    | none =>
      have hk : k + (1 + (ccode Q).length) = L := hk
      obtain ⟨nn, rfl⟩ : ∃ z, nn = z + 1 := ⟨nn - 1, by omega⟩
      have c0' : S.1 (p + 1) k = enc (0, fl) := (hE.1 (p + 1) k (by omega)).trans (hc 0 (by rw [List.length_append]; show 0 < 1 + _; omega))
      have hok : okSt (0, fl) := ⟨by show 0 ≤ 15; omega, by show fl ≤ 99999; omega, (fun z => nomatch z)⟩
      rw [lp_X4_goalOf_8.eq_2, h2S, if_neg (fun q => by have := (o3_le (by omega) (by omega)).mp q; omega), if_neg (show ¬ (400 : Int32) ≤ o3 k from fun q => by have := (o3_le (a := 400) (by omega) (by omega)).mp q; omega), gI_o (by omega) (by omega), bd_some, bd_some, c0', enc_and hok, if_pos (show o3 0 = (0 : Int32) from rfl), enc_shr hok]
      exact ⟨S, rfl, hE⟩
    | some w =>
      obtain ⟨w1, w2, w3⟩ := ho2 w rfl
      have hlw : (ccl (fl, some w)).length = w.length + 1 := by show (w ++ [(1, fl)]).length = _; rw [ln_app]
      have hcw : ccl (fl, some w) = w ++ [(1, fl)] := rfl
      rw [hlw] at hk hnn
      obtain ⟨nn, rfl⟩ : ∃ z, nn = z + 1 + w.length := ⟨nn - 1 - w.length, by omega⟩
      obtain ⟨T, t1, t2, t3, t4⟩ := ck_seg (K := fun S52 => some ((-1 : Int32), S52)) hW h2 hL w k (nn + 1) S [] [true] [] hE (fun j hj => by
        have := hc j (by rw [List.length_append, hlw]; omega)
        rw [this, hcw, List.append_assoc, gd_l hj]) (by omega) w2 w1 trivial hR (by show 0 + nv w ≤ 60; omega)
      obtain ⟨e1, e2⟩ := vw_b t4
      have hok : okSt (1, fl) := ⟨by show 1 ≤ 15; omega, by show fl ≤ 99999; omega, fun z => absurd z (show ¬ 1 = 3 by decide)⟩
      have c1 : T.1 (p + 1) (k + w.length) = enc (1, fl) := by
        rw [t3.1 (p + 1) (k + w.length) (by omega), hc w.length (by rw [List.length_append, hlw]; omega)]
        rw [hcw, gd_l (by rw [ln_app]; omega), gd_r]
      rw [e1] at t2
      have hgd : ∀ j, (ccl (fl, some w) ++ ccode Q).getD (w.length + 1 + j) (0, 0) = (ccode Q).getD j (0, 0) := fun j => by
        have hg := gd_ar (c := ccl (fl, some w)) (e := ccode Q) (d := (0, 0)) (k := j)
        rw [hlw] at hg
        exact hg
      obtain ⟨T2, v1, v2, v3⟩ := ck_pop t2 (by show 0 < 60; omega)
      rw [t1, lp_X4_goalOf_8.eq_2, t3.1 p 2 (by omega), h2, if_neg (fun q => by have := (o3_le (by omega) (by omega)).mp q; omega), if_neg (show ¬ (400 : Int32) ≤ o3 _ from fun q => by have := (o3_le (a := 400) (by omega) (by omega)).mp q; omega), gI_o (by omega) (by omega), bd_some, bd_some, c1, enc_and hok, if_neg (show ¬ o3 1 = (0 : Int32) by decide), if_pos (show o3 1 = (1 : Int32) from rfl), v1, bd_some, enc_shr hok, o3_s]
      dsimp only
      show ∃ T, _ = some (if vw W w = 0 then gl W Q else o3 fl, T) ∧ _
      by_cases h0 : vw W w = 0
      · rw [if_pos h0, if_pos h0]
        exact ih (k + w.length + 1) nn T2 (t3.tr v3) (fun j hj => by
          have := hc (w.length + 1 + j) (by rw [List.length_append, hlw]; omega)
          rw [show k + w.length + 1 + j = k + (w.length + 1 + j) by omega, this]
          exact congrArg enc (hgd j)) (by omega) (fun z hz => ho z (List.mem_cons_of_mem _ hz)) v2 (by omega)
      · rw [if_neg h0, if_neg h0]
        exact ⟨T2, rfl, t3.tr v3⟩
end CG2
theorem c_goal {S : fS} {p t0 c0 : Nat} {th : Int32} {W : Nat → Int64} {Q : List Cl} (hW : ∀ T, eK p S T → ∀ v, v < 8 → f_X0_wordOf c0 t0 th (o3 v) T = some (W v)) (hC : cdC S p (ccode Q)) (ho : okRu Q) : ∃ T, f_X4_goalOf p t0 c0 th S = some (gl W Q, T) ∧ eK p S T := by
  unfold f_X4_goalOf
  rw [bd_some]
  have hE : eK p S (pI S p 3 0) := ⟨fun a k h => pI_ne h, fun _ _ _ => rfl⟩
  exact ck_goal hW hC.1 hC.2.1 Q 0 FU (pI S p 3 0) hE (fun j hj => by rw [Nat.zero_add]; exact hC.2.2 j hj) (by omega) ho ⟨pI_eq, fun k hk => absurd hk (Nat.not_lt_zero _)⟩ (FU_lt (by have := hC.2.1; omega))
end
noncomputable section
/-! the reference: a rule's goal -/
def RT (S : fS) (st : List Int64) : Prop := S.1 145 23 = o3 st.length ∧ ∀ k, k < st.length → S.2 155 k = st.reverse.getD k 0
def eJ (S T : fS) : Prop := (∀ a k, ¬ (a = 145 ∧ k = 23) → T.1 a k = S.1 a k) ∧ (∀ a k, a ≠ 155 → T.2 a k = S.2 a k)
theorem eJ.rf {S : fS} : eJ S S := ⟨fun _ _ _ => rfl, fun _ _ _ => rfl⟩
theorem eJ.tr {S T U : fS} (h : eJ S T) (g : eJ T U) : eJ S U := ⟨fun a k n => (g.1 a k n).trans (h.1 a k n), fun a k n => (g.2 a k n).trans (h.2 a k n)⟩
section MG
variable {S : fS} {st : List Int64}
theorem mk_push {v : Int64} (hR : RT S st) (hl : st.length < 64) : ∃ T, f_X11_push v S = some T ∧ RT T (v :: st) ∧ eJ S T := by
  obtain ⟨r1, r2⟩ := hR
  unfold f_X11_push
  rw [r1, sL_o hl (by omega), bd_some, bd_some, pL_1, r1, o3_s]
  refine ⟨_, rfl, ⟨?_, fun k hk => ?_⟩, fun a k h => pI_ne h, fun a k h => pL_row h⟩
  · rw [pI_eq]; rfl
  · have hk : k < st.length + 1 := hk
    show (pL S 155 st.length v).2 155 k = _
    rw [List.reverse_cons]
    by_cases e : k = st.length
    · subst e
      have := gd_r (c := st.reverse) (q := v) (d := 0)
      rw [List.length_reverse] at this
      rw [pL_eq, this]
    · rw [pL_ne (by omega), gd_l (by rw [List.length_reverse]; omega)]
      exact r2 k (by omega)
theorem mk_pop {x : Int64} (hR : RT S (x :: st)) (hl : st.length < 64) : ∃ T, f_X11_pop S = some (x, T) ∧ RT T st ∧ eJ S T := by
  obtain ⟨r1, r2⟩ := hR
  have r1 : S.1 145 23 = o3 (st.length + 1) := r1
  unfold f_X11_pop
  rw [r1, bd_some, show (1 : Int32) = o3 1 from rfl, o3_sub (by omega), show st.length + 1 - 1 = st.length by omega, pI_eq, gL_o hl (by omega), bd_some]
  have e : (pI S 145 23 (o3 st.length)).2 155 st.length = x := by
    show S.2 155 st.length = x
    rw [r2 st.length (by show _ < st.length + 1; omega), List.reverse_cons]
    have := gd_r (c := st.reverse) (q := x) (d := 0)
    rw [List.length_reverse] at this
    exact this
  rw [e]
  refine ⟨_, rfl, ⟨pI_eq, fun k hk => ?_⟩, fun a k h => pI_ne h, fun a k h => rfl⟩
  show S.2 155 k = _
  rw [r2 k (by show k < st.length + 1; omega), List.reverse_cons, gd_l (by rw [List.length_reverse]; exact hk)]
end MG
section MG2
variable {x : Nat} {W : Nat → Int64} {K : fS → Option (Int64 × fS)}
theorem mk_step {S : fS} {q : Nat × Nat} {τ τ' : List Bool} {st : List Int64} {k L nn : Nat} (hx : x < 6) (hL : L ≤ 400) (hk : k < L) (hc : S.1 147 (400 * x + k) = sgM q) (hq : okSt q) (ht : tyS q τ = some τ') (hs : tls τ st) (hR : RT S st) (hd : st.length + nv [q] ≤ 60) (hW : ∀ v, v < 8 → S.2 156 v = W v) : ∃ T, lp_X11_reckons_8 (o3 x) (o3 L) K (nn + 1) (o3 k) S = lp_X11_reckons_8 (o3 x) (o3 L) K nn (o3 (k + 1)) T ∧ RT T (exS W q st) ∧ eJ S T ∧ tls τ' (exS W q st) := by
  obtain ⟨hx', hcs⟩ := exS_cs (W := W) ht hs
  rw [lp_X11_reckons_8.eq_2, if_neg (fun q => by have := (o3_le (by omega) (by omega)).mp q; omega), show (400 : Int32) = o3 400 from rfl, o3_mul, o3_add, gI_o (by omega) (by omega), bd_some, bd_some, hc, sgM_and hq, sgM_shr hq, o3_s]
  rcases hcs with ⟨h, e⟩ | ⟨h, e⟩ | ⟨h, y, r, rfl, hx2, e⟩ | ⟨h, a, b, r, rfl, hb, e⟩
  · have hn : nv [q] = 1 := by show 0 + _ = 1; rw [if_pos (Or.inl h)]
    rw [h, if_pos (show o3 (mp 2) = (0 : Int32) from rfl), o6_of3 (by have := hq.2.1; omega)]
    obtain ⟨T, t1, t2, t3⟩ := mk_push (v := o6 q.2) hR (by omega)
    rw [t1, bd_some]
    exact ⟨T, rfl, by rw [e]; exact t2, t3, hx'⟩
  · have hn : nv [q] = 1 := by show 0 + _ = 1; rw [if_pos (Or.inr h)]
    have h8 := hq.2.2 h
    rw [h, if_neg (show ¬ o3 (mp 3) = (0 : Int32) by decide), if_pos (show o3 (mp 3) = (1 : Int32) from rfl), gL_o h8 (by omega), bd_some, hW q.2 h8]
    obtain ⟨T, t1, t2, t3⟩ := mk_push (v := W q.2) hR (by omega)
    rw [t1, bd_some]
    exact ⟨T, rfl, by rw [e]; exact t2, t3, hx'⟩
  · have hd : r.length + 1 + nv [q] ≤ 60 := hd
    obtain ⟨T, t1, t2, t3⟩ := mk_pop hR (by omega)
    rw [h, if_neg (show ¬ o3 (mp 4) = (0 : Int32) by decide), if_neg (show ¬ o3 (mp 4) = (1 : Int32) by decide), if_pos (show o3 (mp 4) = (11 : Int32) from rfl), t1, bd_some]
    dsimp only
    have e2 : (1 : Int64) - y = if y = 0 then 1 else 0 := by
      rcases hx2 with rfl | rfl
      · rfl
      · rfl
    rw [e, e2]
    rw [e] at hx'
    obtain ⟨T2, v1, v2, v3⟩ := mk_push (v := if y = 0 then 1 else 0) t2 (by omega)
    rw [v1, bd_some]
    exact ⟨T2, rfl, v2, t3.tr v3, hx'⟩
  · have hd : r.length + 1 + 1 + nv [q] ≤ 60 := hd
    have hmp : ¬ mp q.1 = 0 ∧ ¬ mp q.1 = 1 ∧ ¬ mp q.1 = 11 := by
      have : q.1 = 5 ∨ q.1 = 6 ∨ q.1 = 7 ∨ q.1 = 8 ∨ q.1 = 9 ∨ q.1 = 10 ∨ q.1 = 11 ∨ q.1 = 12 ∨ q.1 = 13 ∨ q.1 = 14 ∨ q.1 = 15 := by omega
      rcases this with z | z | z | z | z | z | z | z | z | z | z <;> rw [z] <;> decide
    have hml := mp_lt (s := q.1)
    obtain ⟨T, t1, t2, t3⟩ := mk_pop hR (by show r.length + 1 < 64; omega)
    obtain ⟨T2, v1, v2, v3⟩ := mk_pop t2 (by omega)
    obtain ⟨T3, w1, w2, w3⟩ := mk_push (v := jo q.1 a b) v2 (by omega)
    rw [if_neg (show ¬ o3 (mp q.1) = (0 : Int32) from fun z => hmp.1 ((o3_inj (b := 0) (by omega) (by omega)).mp z)), if_neg (show ¬ o3 (mp q.1) = (1 : Int32) from fun z => hmp.2.1 ((o3_inj (b := 1) (by omega) (by omega)).mp z)), if_neg (show ¬ o3 (mp q.1) = (11 : Int32) from fun z => hmp.2.2 ((o3_inj (b := 11) (by omega) (by omega)).mp z)), t1, bd_some]
    dsimp only
    rw [v1, bd_some]
    dsimp only
    rw [m_one h hb, bd_some, w1, bd_some, e]
    rw [e] at hx'
    exact ⟨T3, rfl, w2, (t3.tr v3).tr w3, hx'⟩
theorem mk_seg {S0 : fS} (hx : x < 6) (hW : ∀ v, v < 8 → S0.2 156 v = W v) {L : Nat} (hL : L ≤ 400) : ∀ (e : List (Nat × Nat)) (k nn : Nat) (S : fS) (τ τ' : List Bool) (st : List Int64), eJ S0 S → (∀ j, j < e.length → S0.1 147 (400 * x + (k + j)) = sgM (e.getD j (0, 0))) → k + e.length ≤ L → (∀ q ∈ e, okSt q) → tyc e τ = some τ' → tls τ st → RT S st → st.length + nv e ≤ 60 → ∃ T, lp_X11_reckons_8 (o3 x) (o3 L) K (nn + e.length) (o3 k) S = lp_X11_reckons_8 (o3 x) (o3 L) K nn (o3 (k + e.length)) T ∧ RT T (exc W e st) ∧ eJ S0 T ∧ tls τ' (exc W e st) := by
  intro e
  induction e with
  | nil =>
    intro k nn S τ τ' st hE hc hk ho ht hs hR hd
    obtain rfl := Option.some.inj ht
    exact ⟨S, rfl, hR, hE, hs⟩
  | cons q e ih =>
    intro k nn S τ τ' st hE hc hk ho ht hs hR hd
    have hk : k + (e.length + 1) ≤ L := hk
    have ht : (tyS q τ).bind (tyc e) = some τ' := ht
    cases hq : tyS q τ with
    | none => rw [hq] at ht; exact nomatch ht
    | some σ =>
      rw [hq] at ht
      have ht : tyc e σ = some τ' := ht
      have hn : nv (q :: e) = nv e + nv [q] := by show nv e + _ = nv e + (0 + _); omega
      obtain ⟨T, t1, t2, t3, t4⟩ := mk_step (q := q) (K := K) (nn := nn + e.length) (W := W) (k := k) (L := L) (S := S) hx hL (by omega) ((hE.1 147 (400 * x + k) (by omega)).trans (hc 0 (by show 0 < e.length + 1; omega))) (ho q List.mem_cons_self) hq hs hR (by omega) (fun v hv => (hE.2 156 v (by omega)).trans (hW v hv))
      have hlen : (exS W q st).length + nv e ≤ 60 := by
        have h1 := tls_len _ _ t4
        have h5 := tls_len _ _ hs
        have h3 : σ.length ≤ τ.length + nv [q] := by
          rcases tyS_cs hq with ⟨z, rfl⟩ | ⟨z, r, rfl, rfl⟩ | ⟨z, r, rfl, rfl⟩ | ⟨z, r, rfl, rfl⟩ | ⟨z, r, rfl, rfl⟩
          · show τ.length + 1 ≤ τ.length + (0 + _)
            rw [if_pos z]; omega
          · exact Nat.le_add_right _ _
          · show r.length + 1 ≤ r.length + 1 + 1 + _; omega
          · show r.length + 1 ≤ r.length + 1 + 1 + _; omega
          · show r.length + 1 ≤ r.length + 1 + 1 + _; omega
        omega
      obtain ⟨T2, v1, v2, v3, v4⟩ := ih (k + 1) nn T σ τ' (exS W q st) (hE.tr t3) (fun j hj => by
        have := hc (j + 1) (by show j + 1 < e.length + 1; omega)
        rw [show k + 1 + j = k + (j + 1) by omega]
        exact this) (by omega) (fun z hz => ho z (List.mem_cons_of_mem _ hz)) ht t4 t2 hlen
      refine ⟨T2, ?_, v2, v3, v4⟩
      show lp_X11_reckons_8 (o3 x) (o3 L) K (nn + e.length + 1) (o3 k) S = _
      rw [t1, v1]
      show _ = lp_X11_reckons_8 (o3 x) (o3 L) K nn (o3 (k + (e.length + 1))) T2
      rw [show k + 1 + e.length = k + (e.length + 1) by omega]
theorem m_reck {S : fS} (hx : x < 6) (hW : ∀ v, v < 8 → S.2 156 v = W v) {w : List (Nat × Nat)} {k : Nat} (hc : ∀ j, j < w.length → S.1 147 (400 * x + (k + j)) = sgM (w.getD j (0, 0))) (hk : k + w.length ≤ 400) (h1 : tyc w [] = some [true]) (h2 : ∀ z ∈ w, okSt z) (h3 : nv w ≤ 60) : ∃ T, f_X11_reckons (o3 x) (o3 k) (o3 (k + w.length)) S = some (vw W w, T) ∧ eJ S T ∧ (vw W w = 0 ∨ vw W w = 1) := by
  have hE : eJ S (pI S 145 23 0) := ⟨fun a k h => pI_ne h, fun _ _ _ => rfl⟩
  have e0 : f_X11_reckons (o3 x) (o3 k) (o3 (k + w.length)) S = lp_X11_reckons_8 (o3 x) (o3 (k + w.length)) (fun S41 => (f_X11_pop S41).bind fun q43 => some (q43.1, q43.2)) FU (o3 k) (pI S 145 23 0) := by
    unfold f_X11_reckons
    rw [bd_some]
  obtain ⟨fu, hfu⟩ : ∃ z, FU = z + 1 + w.length := ⟨FU - 1 - w.length, by have := FU_lt (d := w.length) (by omega); omega⟩
  obtain ⟨T, t1, t2, t3, t4⟩ := mk_seg (K := fun S41 => (f_X11_pop S41).bind fun q43 => some (q43.1, q43.2)) hx hW hk w k (fu + 1) (pI S 145 23 0) [] [true] [] hE hc (Nat.le_refl _) h2 h1 trivial ⟨pI_eq, fun k hk => absurd hk (Nat.not_lt_zero _)⟩ (by show 0 + nv w ≤ 60; omega)
  obtain ⟨e1, e2⟩ := vw_b t4
  rw [e1] at t2
  obtain ⟨T2, v1, v2, v3⟩ := mk_pop t2 (by show 0 < 64; omega)
  rw [e0, hfu, t1, lp_X11_reckons_8.eq_2, if_pos ((o3_le (by omega) (by omega)).mpr (Nat.le_refl _)), v1, bd_some]
  exact ⟨T2, rfl, t3.tr v3, e2⟩
theorem mcode_c {q : Cl} {Q : List Cl} : mcode (q :: Q) = mcl q ++ mcode Q := by unfold mcode; rw [List.flatMap_cons]
theorem mcode_a {P Q : List Cl} : mcode (P ++ Q) = mcode P ++ mcode Q := by unfold mcode; rw [List.flatMap_append]
theorem mk_sent {S0 : fS} (hx : x < 6) (hW : ∀ v, v < 8 → S0.2 156 v = W v) : ∀ (Q P : List Cl) (nn : Nat) (S : fS), cdM S0 x (P ++ Q) → eJ S0 S → Q.length < nn → ∃ T, lp_X11_sent_7 (o3 x) (fun S28 => some ((-1 : Int32), S28)) nn (o3 P.length) S = some (gl W Q, T) ∧ eJ S0 T := by
  intro Q
  induction Q with
  | nil =>
    intro P nn S hM hE hnn
    have hnn : 0 < nn := hnn
    obtain ⟨nn, rfl⟩ : ∃ z, nn = z + 1 := ⟨nn - 1, by omega⟩
    rw [List.append_nil] at hM
    have h12 := hM.2.1
    rw [lp_X11_sent_7.eq_2, gI_o (by omega) (by omega), bd_some, hE.1 150 x (by omega), hM.1.1, if_pos ((o3_le (by omega) (by omega)).mpr (Nat.le_refl _))]
    exact ⟨S, rfl, hE⟩
  | cons q Q ih =>
    intro P nn S hM hE hnn
    have hnn : Q.length + 1 < nn := hnn
    obtain ⟨nn, rfl⟩ : ∃ z, nn = z + 1 := ⟨nn - 1, by omega⟩
    have hM0 := hM
    obtain ⟨hcl, h12, h148, h400, hok, hcode⟩ := hM
    have hlen : (P ++ q :: Q).length = P.length + (Q.length + 1) := List.length_append
    rw [hlen] at h12
    obtain ⟨ho1, ho2⟩ := hok q (List.mem_append.mpr (Or.inr List.mem_cons_self))
    obtain ⟨c1, c2, c3⟩ := hcl.2 P.length (by omega)
    have hg0 : (P ++ q :: Q).getD P.length (0, none) = q := by
      have := gd_ar (c := P) (e := q :: Q) (d := (0, none)) (k := 0)
      exact this
    have hq1 : P ++ q :: Q = (P ++ [q]) ++ Q := by simp only [List.append_assoc]; rfl
    have ht1 : (P ++ q :: Q).take P.length = P := by rw [List.take_left]
    have ht2 : (P ++ q :: Q).take (P.length + 1) = P ++ [q] := by
      rw [hq1, show P.length + 1 = (P ++ [q]).length by rw [ln_app], List.take_left]
    rw [hg0] at c1 c2
    rw [ht1] at c2
    rw [ht2, mcode_app, List.length_append] at c3
    have e36 : ((36 : Int32) * o3 x) + ((3 : Int32) * o3 P.length) = o3 (36 * x + 3 * P.length) := by
      rw [show (36 : Int32) = o3 36 from rfl, show (3 : Int32) = o3 3 from rfl, o3_mul, o3_mul, o3_add]
    have e37 : o3 (36 * x + 3 * P.length) + (1 : Int32) = o3 (36 * x + 3 * P.length + 1) := o3_s
    have e38 : o3 (36 * x + 3 * P.length) + (2 : Int32) = o3 (36 * x + 3 * P.length + 2) := by rw [show (2 : Int32) = o3 2 from rfl, o3_add]
    have hS : ∀ k, S.1 149 k = S0.1 149 k := fun k => hE.1 149 k (by omega)
    rw [lp_X11_sent_7.eq_2, gI_o (by omega) (by omega), bd_some, hE.1 150 x (by omega), hcl.1, hlen, if_neg (fun z => by have := (o3_le (by omega) (by omega)).mp z; omega), e36, e37, gI_o (by omega) (by omega), bd_some, hS, c2]
    obtain ⟨fl, t⟩ := q
    have ho1 : fl ≤ 9 := ho1
    cases t with
    | none =>
      rw [if_neg (show ¬ ((fl, none) : Cl).2.isSome = true from fun z => nomatch z), if_pos (by decide), gI_o (by omega) (by omega), bd_some, hS, c1]
      exact ⟨S, rfl, hE⟩
    | some w =>
      obtain ⟨w1, w2, w3⟩ := ho2 w rfl
      have hmc : mcode (P ++ (fl, some w) :: Q) = mcode P ++ (w ++ mcode Q) := by rw [mcode_a, mcode_c]; rfl
      have hml : (mcode (P ++ (fl, some w) :: Q)).length = (mcode P).length + (w.length + (mcode Q).length) := by rw [hmc, List.length_append, List.length_append]
      rw [hml] at h400
      rw [if_pos (show ((fl, some w) : Cl).2.isSome = true from rfl), if_neg (o3_nn (by omega)), bd_some, e38, gI_o (by omega) (by omega), bd_some, hS, c3]
      obtain ⟨T, t1, t2, t3⟩ := m_reck (S := S) (W := W) (w := w) (k := (mcode P).length) hx (fun v hv => (hE.2 156 v (by omega)).trans (hW v hv)) (fun j hj => by
        have := hcode ((mcode P).length + j) (by rw [hml]; omega)
        rw [hE.1 147 _ (by omega), this, hmc, gd_ar, gd_l hj]) (by omega) w1 w2 w3
      have t1' : f_X11_reckons (o3 x) (o3 (mcode P).length) (o3 ((mcode P).length + (mcl (fl, some w)).length)) S = some (vw W w, T) := t1
      rw [t1', bd_some]
      dsimp only
      have hgl : gl W ((fl, some w) :: Q) = if vw W w = 0 then gl W Q else o3 fl := rfl
      rw [hgl]
      rcases t3 with h0 | h1
      · rw [h0, if_neg (show ¬ (0 : Int64) = 1 by decide), if_pos rfl, o3_s]
        have hM1 : cdM S0 x ((P ++ [(fl, some w)]) ++ Q) := by rw [← hq1]; exact hM0
        have := ih (P ++ [(fl, some w)]) nn T hM1 (hE.tr t2) (by omega)
        rw [ln_app] at this
        exact this
      · rw [h1, if_pos rfl, if_neg (show ¬ (1 : Int64) = 0 by decide), gI_o (by omega) (by omega), bd_some, t2.1 149 _ (by omega), hS, c1]
        exact ⟨T, rfl, hE.tr t2⟩
end MG2
end
noncomputable section
/-! the words of a rule, of a crowd C on floors F -/
def stn (p : Nat → Int32) (f : Int32) : Nat → Nat
  | 0 => 0
  | k + 1 => stn p f k + (if p k = f then 1 else 0)
theorem stn_le {p : Nat → Int32} {f : Int32} : ∀ k, stn p f k ≤ k := by
  intro k
  induction k with
  | zero => exact Nat.le_refl _
  | succ k ih =>
    show stn p f k + _ ≤ k + 1
    split <;> omega
def wd (F : List (Nat × Nat)) (C : Cw) (th v : Nat) : Int64 :=
  if v = 0 then o6 C.2.1 else if v = 1 then o6 th
  else if v = 2 then Int32.toInt64 (C.2.2.1 th)
  else if v = 3 then C.2.2.2.2.2.2 th / 232792560
  else if v = 4 then o6 (stn C.2.2.1 (C.2.2.1 th) C.1)
  else if v = 5 then o6 (1000 * (F.getD (C.2.2.1 th).toNatClampNeg (0, 0)).1 / (F.getD (C.2.2.1 th).toNatClampNeg (0, 0)).2)
  else if v = 6 then (if ∀ k, k < C.1 → C.2.2.2.2.2.2 k ≤ C.2.2.2.2.2.2 th then 1 else 0)
  else (if ∀ k, k < C.1 → C.2.2.2.2.2.2 th ≤ C.2.2.2.2.2.2 k then 1 else 0)
theorem nl_nle {a b : Int64} : ¬ a ≤ b ↔ b < a := by rw [nl_le, nl_lt]; omega
theorem nl_lt_le {a b : Int64} (h : a < b) : a ≤ b := by rw [nl_lt] at h; rw [nl_le]; omega
theorem nl_le_tr {a b c : Int64} (h : a ≤ b) (g : b ≤ c) : a ≤ c := by rw [nl_le] at h g ⊢; omega
theorem nl_le_rf {a : Int64} : a ≤ a := by rw [nl_le]; omega
theorem nl_anti {a b : Int64} (h : a ≤ b) (g : b ≤ a) : a = b := by rw [nl_le] at h g; rw [nl_eq]; omega
section CW
variable {S : fS} {c : Nat} {C : Cw}
theorem cw_standing (hC : cwC S c C) (h8 : C.1 ≤ 8) {f : Int32} : f_X0_standingOn c f S = some (o3 (stn C.2.2.1 f C.1)) := by
  have key : ∀ d k nn, k + d = C.1 → d < nn → lp_X0_standingOn_4 c f S (fun u6 => some u6) nn (o3 (stn C.2.2.1 f k)) (o3 k) = some (o3 (stn C.2.2.1 f C.1)) := by
    intro d
    induction d with
    | zero =>
      intro k nn hk hnn
      obtain ⟨nn, rfl⟩ : ∃ z, nn = z + 1 := ⟨nn - 1, by omega⟩
      rw [lp_X0_standingOn_4.eq_2, hC.1, if_pos ((o3_le (by omega) (by omega)).mpr (by omega)), show k = C.1 by omega]
    | succ d ih =>
      intro k nn hk hnn
      obtain ⟨nn, rfl⟩ : ∃ z, nn = z + 1 := ⟨nn - 1, by omega⟩
      have hs : stn C.2.2.1 f (k + 1) = stn C.2.2.1 f k + (if C.2.2.1 k = f then 1 else 0) := rfl
      rw [lp_X0_standingOn_4.eq_2, hC.1, if_neg (fun q => by have := (o3_le (by omega) (by omega)).mp q; omega), gI_o (by omega) (by omega), bd_some, (hC.2.2 k (by omega)).1]
      by_cases h : C.2.2.1 k = f
      · rw [if_pos h] at hs
        rw [if_pos h, o3_s, o3_s, ← hs]
        exact ih (k + 1) nn (by omega) (by omega)
      · rw [if_neg h] at hs
        rw [if_neg h, show (0 : Int32) = o3 0 from rfl, o3_add, o3_s, ← hs]
        exact ih (k + 1) nn (by omega) (by omega)
  exact key C.1 0 FU (by omega) (FU_lt (by omega))
theorem cw_eldest (hC : cwC S c C) (h8 : C.1 ≤ 8) (h1 : 0 < C.1) : ∃ i, i < C.1 ∧ f_X0_eldest c S = some (o3 i) ∧ ∀ k, k < C.1 → C.2.2.2.2.2.2 k ≤ C.2.2.2.2.2.2 i := by
  have key : ∀ d k nn i, k + d = C.1 → d < nn → i < C.1 → (∀ j, j < k → C.2.2.2.2.2.2 j ≤ C.2.2.2.2.2.2 i) → ∃ i', i' < C.1 ∧ lp_X0_eldest_4 c S (fun u9 => some u9) nn (o3 i) (o3 k) = some (o3 i') ∧ ∀ j, j < C.1 → C.2.2.2.2.2.2 j ≤ C.2.2.2.2.2.2 i' := by
    intro d
    induction d with
    | zero =>
      intro k nn i hk hnn hi hm
      obtain ⟨nn, rfl⟩ : ∃ z, nn = z + 1 := ⟨nn - 1, by omega⟩
      rw [lp_X0_eldest_4.eq_2, hC.1, if_pos ((o3_le (by omega) (by omega)).mpr (by omega))]
      exact ⟨i, hi, rfl, fun j hj => hm j (by omega)⟩
    | succ d ih =>
      intro k nn i hk hnn hi hm
      obtain ⟨nn, rfl⟩ : ∃ z, nn = z + 1 := ⟨nn - 1, by omega⟩
      rw [lp_X0_eldest_4.eq_2, hC.1, if_neg (fun q => by have := (o3_le (by omega) (by omega)).mp q; omega), gL_o (by omega) (by omega), bd_some, gL_o (by omega) (by omega), bd_some, (hC.2.2 k (by omega)).2.2.2.2, (hC.2.2 i hi).2.2.2.2, o3_s]
      by_cases h : C.2.2.2.2.2.2 k ≤ C.2.2.2.2.2.2 i
      · rw [if_pos h]
        exact ih (k + 1) nn i (by omega) (by omega) hi (fun j hj => by
          by_cases e : j = k
          · rw [e]; exact h
          · exact hm j (by omega))
      · rw [if_neg h]
        exact ih (k + 1) nn k (by omega) (by omega) (by omega) (fun j hj => by
          by_cases e : j = k
          · rw [e]; exact nl_le_rf
          · exact nl_le_tr (hm j (by omega)) (nl_lt_le (nl_nle.mp h)))
  obtain ⟨i, a, b, e⟩ := key (C.1 - 1) 1 FU 0 (by omega) (FU_lt (by omega)) h1 (fun j hj => by rw [show j = 0 by omega]; exact nl_le_rf)
  exact ⟨i, a, b, e⟩
theorem cw_youngest (hC : cwC S c C) (h8 : C.1 ≤ 8) (h1 : 0 < C.1) : ∃ i, i < C.1 ∧ f_X0_youngest c S = some (o3 i) ∧ ∀ k, k < C.1 → C.2.2.2.2.2.2 i ≤ C.2.2.2.2.2.2 k := by
  have key : ∀ d k nn i, k + d = C.1 → d < nn → i < C.1 → (∀ j, j < k → C.2.2.2.2.2.2 i ≤ C.2.2.2.2.2.2 j) → ∃ i', i' < C.1 ∧ lp_X0_youngest_4 c S (fun u9 => some u9) nn (o3 i) (o3 k) = some (o3 i') ∧ ∀ j, j < C.1 → C.2.2.2.2.2.2 i' ≤ C.2.2.2.2.2.2 j := by
    intro d
    induction d with
    | zero =>
      intro k nn i hk hnn hi hm
      obtain ⟨nn, rfl⟩ : ∃ z, nn = z + 1 := ⟨nn - 1, by omega⟩
      rw [lp_X0_youngest_4.eq_2, hC.1, if_pos ((o3_le (by omega) (by omega)).mpr (by omega))]
      exact ⟨i, hi, rfl, fun j hj => hm j (by omega)⟩
    | succ d ih =>
      intro k nn i hk hnn hi hm
      obtain ⟨nn, rfl⟩ : ∃ z, nn = z + 1 := ⟨nn - 1, by omega⟩
      rw [lp_X0_youngest_4.eq_2, hC.1, if_neg (fun q => by have := (o3_le (by omega) (by omega)).mp q; omega), gL_o (by omega) (by omega), bd_some, gL_o (by omega) (by omega), bd_some, (hC.2.2 k (by omega)).2.2.2.2, (hC.2.2 i hi).2.2.2.2, o3_s]
      by_cases h : C.2.2.2.2.2.2 i ≤ C.2.2.2.2.2.2 k
      · rw [if_pos h]
        exact ih (k + 1) nn i (by omega) (by omega) hi (fun j hj => by
          by_cases e : j = k
          · rw [e]; exact h
          · exact hm j (by omega))
      · rw [if_neg h]
        exact ih (k + 1) nn k (by omega) (by omega) (by omega) (fun j hj => by
          by_cases e : j = k
          · rw [e]; exact nl_le_rf
          · exact nl_le_tr (nl_lt_le (nl_nle.mp h)) (hm j (by omega)))
  obtain ⟨i, a, b, e⟩ := key (C.1 - 1) 1 FU 0 (by omega) (FU_lt (by omega)) h1 (fun j hj => by rw [show j = 0 by omega]; exact nl_le_rf)
  exact ⟨i, a, b, e⟩
theorem pc_1000 {q : Nat × Nat} (h : okF q) : dL ((1000 : Int64) * pc q) (232792560 : Int64) = some (o6 (1000 * q.1 / q.2)) := by
  obtain ⟨h1, h2, h3, h4⟩ := h
  have hd : 232792560 / q.2 * q.2 = 232792560 := by
    have : q.2 = 1 ∨ q.2 = 2 ∨ q.2 = 3 ∨ q.2 = 4 ∨ q.2 = 5 ∨ q.2 = 6 ∨ q.2 = 7 ∨ q.2 = 8 ∨ q.2 = 9 ∨ q.2 = 10 ∨ q.2 = 11 ∨ q.2 = 12 ∨ q.2 = 13 ∨ q.2 = 14 ∨ q.2 = 15 ∨ q.2 = 16 ∨ q.2 = 17 ∨ q.2 = 18 ∨ q.2 = 19 ∨ q.2 = 20 := by omega
    rcases this with e | e | e | e | e | e | e | e | e | e | e | e | e | e | e | e | e | e | e | e <;> rw [e]
  have hp : q.1 * (232792560 / q.2) ≤ 20 * 232792560 := Nat.mul_le_mul h2 (Nat.div_le_self _ _)
  unfold pc
  rw [show (1000 : Int64) = o6 1000 from rfl, show (232792560 : Int64) = o6 232792560 from rfl, o6_mul, o6_dL (by omega) (by omega) (by omega)]
  congr 2
  have e : 1000 * (q.1 * (232792560 / q.2)) = (1000 * q.1) * (232792560 / q.2) := by rw [Nat.mul_assoc]
  rw [e]
  have hz : 0 < 232792560 / q.2 := Nat.div_pos (by omega) (by omega)
  generalize 232792560 / q.2 = z at hd hz
  rw [show 232792560 = q.2 * z by rw [Nat.mul_comm]; exact hd.symm]
  exact Nat.mul_div_mul_right _ _ hz
theorem c_word {F : List (Nat × Nat)} {E : List (Nat × Nat × Nat × Nat × Nat)} {t th : Nat} (hC : cwC S c C) (hT : twC S t F E) (hF : ∀ q ∈ F, okF q) (h8 : C.1 ≤ 8) (h9 : C.2.1 ≤ 10199) (h10 : F.length ≤ 10) (hth : th < C.1) {f : Nat} (hf : f < F.length) (hp : C.2.2.1 th = o3 f) {v : Nat} (hv : v < 8) : f_X0_wordOf c t (o3 th) (o3 v) S = some (wd F C th v) := by
  obtain ⟨k1, k2, k3, k4, k5⟩ := hC.2.2 th hth
  have hfo : okF (F.getD f (0, 0)) := hF _ (gd_mem hf)
  unfold f_X0_wordOf wd
  have : v = 0 ∨ v = 1 ∨ v = 2 ∨ v = 3 ∨ v = 4 ∨ v = 5 ∨ v = 6 ∨ v = 7 := by omega
  rcases this with rfl | rfl | rfl | rfl | rfl | rfl | rfl | rfl
  · rw [if_pos (show o3 0 = (0 : Int32) from rfl), if_pos rfl, hC.2.1, o6_of3 (by omega)]
  · rw [if_neg (show ¬ o3 1 = (0 : Int32) by decide), if_pos (show o3 1 = (1 : Int32) from rfl), if_neg (by decide), if_pos rfl, o6_of3 (by omega)]
  · rw [if_neg (show ¬ o3 2 = (0 : Int32) by decide), if_neg (show ¬ o3 2 = (1 : Int32) by decide), if_pos (show o3 2 = (2 : Int32) from rfl), if_neg (by decide), if_neg (by decide), if_pos rfl, gI_o (by omega) (by omega), bd_some, k1]
  · rw [if_neg (show ¬ o3 3 = (0 : Int32) by decide), if_neg (show ¬ o3 3 = (1 : Int32) by decide), if_neg (show ¬ o3 3 = (2 : Int32) by decide), if_pos (show o3 3 = (3 : Int32) from rfl), if_neg (by decide), if_neg (by decide), if_neg (by decide), if_pos rfl, gL_o (by omega) (by omega), bd_some, k5]
    rfl
  · rw [if_neg (show ¬ o3 4 = (0 : Int32) by decide), if_neg (show ¬ o3 4 = (1 : Int32) by decide), if_neg (show ¬ o3 4 = (2 : Int32) by decide), if_neg (show ¬ o3 4 = (3 : Int32) by decide), if_pos (show o3 4 = (4 : Int32) from rfl), if_neg (by decide), if_neg (by decide), if_neg (by decide), if_neg (by decide), if_pos rfl, gI_o (by omega) (by omega), bd_some, k1, cw_standing hC h8, bd_some, o6_of3 (by have := stn_le (p := C.2.2.1) (f := C.2.2.1 th) C.1; omega)]
  · rw [if_neg (show ¬ o3 5 = (0 : Int32) by decide), if_neg (show ¬ o3 5 = (1 : Int32) by decide), if_neg (show ¬ o3 5 = (2 : Int32) by decide), if_neg (show ¬ o3 5 = (3 : Int32) by decide), if_neg (show ¬ o3 5 = (4 : Int32) by decide), if_pos (show o3 5 = (5 : Int32) from rfl), if_neg (by decide), if_neg (by decide), if_neg (by decide), if_neg (by decide), if_neg (by decide), if_pos rfl, gI_o (by omega) (by omega), bd_some, k1, hp, gL_o (by omega) (by omega), bd_some, hT.2.2.1 f hf, pc_1000 hfo, bd_some, o3_nat (by omega)]
  · rw [if_neg (show ¬ o3 6 = (0 : Int32) by decide), if_neg (show ¬ o3 6 = (1 : Int32) by decide), if_neg (show ¬ o3 6 = (2 : Int32) by decide), if_neg (show ¬ o3 6 = (3 : Int32) by decide), if_neg (show ¬ o3 6 = (4 : Int32) by decide), if_neg (show ¬ o3 6 = (5 : Int32) by decide), if_pos (show o3 6 = (6 : Int32) from rfl), if_neg (by decide), if_neg (by decide), if_neg (by decide), if_neg (by decide), if_neg (by decide), if_neg (by decide), if_pos rfl, gL_o (by omega) (by omega), bd_some, k5]
    obtain ⟨i, i1, i2, i3⟩ := cw_eldest hC h8 (by omega)
    rw [i2, bd_some, gL_o (by omega) (by omega), bd_some, (hC.2.2 i i1).2.2.2.2]
    by_cases h : ∀ k, k < C.1 → C.2.2.2.2.2.2 k ≤ C.2.2.2.2.2.2 th
    · rw [if_pos h, if_pos (nl_anti (i3 th hth) (h i i1))]
    · rw [if_neg h, if_neg (fun q => h (fun k hk => by rw [q]; exact i3 k hk))]
  · rw [if_neg (show ¬ o3 7 = (0 : Int32) by decide), if_neg (show ¬ o3 7 = (1 : Int32) by decide), if_neg (show ¬ o3 7 = (2 : Int32) by decide), if_neg (show ¬ o3 7 = (3 : Int32) by decide), if_neg (show ¬ o3 7 = (4 : Int32) by decide), if_neg (show ¬ o3 7 = (5 : Int32) by decide), if_neg (show ¬ o3 7 = (6 : Int32) by decide), if_neg (by decide), if_neg (by decide), if_neg (by decide), if_neg (by decide), if_neg (by decide), if_neg (by decide), if_neg (by decide), gL_o (by omega) (by omega), bd_some, k5]
    obtain ⟨i, i1, i2, i3⟩ := cw_youngest hC h8 (by omega)
    rw [i2, bd_some, gL_o (by omega) (by omega), bd_some, (hC.2.2 i i1).2.2.2.2]
    by_cases h : ∀ k, k < C.1 → C.2.2.2.2.2.2 th ≤ C.2.2.2.2.2.2 k
    · rw [if_pos h, if_pos (nl_anti (h i i1) (i3 th hth))]
    · rw [if_neg h, if_neg (fun q => h (fun k hk => by rw [q]; exact i3 k hk))]
end CW
end
noncomputable section
/-! the reference's words -/
def mxk (A : Nat → Int64) (th k : Nat) : Int64 := if ∀ j, j < k → A j ≤ A th then 1 else 0
def mnk (A : Nat → Int64) (th k : Nat) : Int64 := if ∀ j, j < k → A th ≤ A j then 1 else 0
theorem mxk_s {A : Nat → Int64} {th k : Nat} : mxk A th (k + 1) = if A k ≤ A th then mxk A th k else 0 := by
  unfold mxk
  by_cases h : A k ≤ A th
  · rw [if_pos h]
    by_cases g : ∀ j, j < k → A j ≤ A th
    · rw [if_pos g, if_pos (fun j hj => by
        by_cases e : j = k
        · rw [e]; exact h
        · exact g j (by omega))]
    · rw [if_neg g, if_neg (fun q => g (fun j hj => q j (by omega)))]
  · rw [if_neg h, if_neg (fun q => h (q k (by omega)))]
theorem mnk_s {A : Nat → Int64} {th k : Nat} : mnk A th (k + 1) = if A th ≤ A k then mnk A th k else 0 := by
  unfold mnk
  by_cases h : A th ≤ A k
  · rw [if_pos h]
    by_cases g : ∀ j, j < k → A th ≤ A j
    · rw [if_pos g, if_pos (fun j hj => by
        by_cases e : j = k
        · rw [e]; exact h
        · exact g j (by omega))]
    · rw [if_neg g, if_neg (fun q => g (fun j hj => q j (by omega)))]
  · rw [if_neg h, if_neg (fun q => h (q k (by omega)))]
def eW (S T : fS) : Prop := T.1 = S.1 ∧ ∀ a k, a ≠ 156 → T.2 a k = S.2 a k
section MWD
variable {C : Cw} {th : Nat}
theorem mw_118 (h8 : C.1 ≤ 8) (hth : th < C.1) {K : fS → Option fS} : ∀ d k nn (S : fS), k + d = C.1 → d < nn → S.1 157 2 = o3 C.1 → (∀ j, j < C.1 → S.2 158 j = C.2.2.2.2.2.2 j) → S.2 156 6 = mxk C.2.2.2.2.2.2 th k → S.2 156 7 = mnk C.2.2.2.2.2.2 th k → ∃ T, lp_X11_words_118 (o3 th) K nn (o3 k) S = K T ∧ T.1 = S.1 ∧ (∀ a j, ¬ (a = 156 ∧ (j = 6 ∨ j = 7)) → T.2 a j = S.2 a j) ∧ T.2 156 6 = mxk C.2.2.2.2.2.2 th C.1 ∧ T.2 156 7 = mnk C.2.2.2.2.2.2 th C.1 := by
  intro d
  induction d with
  | zero =>
    intro k nn S hk hnn h2 hA h6 h7
    obtain ⟨nn, rfl⟩ : ∃ z, nn = z + 1 := ⟨nn - 1, by omega⟩
    rw [lp_X11_words_118.eq_2, show (2 : Int32) = o3 2 from rfl, gI_o (by omega) (by omega), bd_some, h2, if_pos ((o3_le (by omega) (by omega)).mpr (by omega))]
    rw [show k = C.1 by omega] at h6 h7
    exact ⟨S, rfl, rfl, fun _ _ _ => rfl, h6, h7⟩
  | succ d ih =>
    intro k nn S hk hnn h2 hA h6 h7
    obtain ⟨nn, rfl⟩ : ∃ z, nn = z + 1 := ⟨nn - 1, by omega⟩
    rw [lp_X11_words_118.eq_2, show (2 : Int32) = o3 2 from rfl, gI_o (by omega) (by omega), bd_some, h2, if_neg (fun q => by have := (o3_le (by omega) (by omega)).mp q; omega), gL_o (by omega) (by omega), bd_some, gL_o (by omega) (by omega), bd_some, hA k (by omega), hA th hth, o3_s]
    by_cases h : C.2.2.2.2.2.2 k ≤ C.2.2.2.2.2.2 th
    · rw [if_pos h, bd_some, bd_some]
      by_cases g : C.2.2.2.2.2.2 th ≤ C.2.2.2.2.2.2 k
      · rw [if_pos g]
        exact ih (k + 1) nn S (by omega) (by omega) h2 hA (by rw [mxk_s, if_pos h]; exact h6) (by rw [mnk_s, if_pos g]; exact h7)
      · rw [if_neg g, show (7 : Int32) = o3 7 from rfl, sL_o (by omega) (by omega), bd_some]
        obtain ⟨T, t1, t2, t3, t4⟩ := ih (k + 1) nn (pL S 156 7 0) (by omega) (by omega) h2 (fun j hj => by rw [pL_ne (by omega)]; exact hA j hj) (by rw [mxk_s, if_pos h, pL_ne (by omega)]; exact h6) (by rw [mnk_s, if_neg g, pL_eq])
        exact ⟨T, t1, t2, fun a j hj => by rw [t3 a j hj, pL_ne (by omega)], t4⟩
    · have g : C.2.2.2.2.2.2 th ≤ C.2.2.2.2.2.2 k := nl_lt_le (nl_nle.mp h)
      rw [if_neg h, show (6 : Int32) = o3 6 from rfl, sL_o (by omega) (by omega), bd_some, gL_o (by omega) (by omega), bd_some, gL_o (by omega) (by omega), bd_some, pL_ne (by omega), pL_ne (by omega), hA k (by omega), hA th hth, if_pos g]
      obtain ⟨T, t1, t2, t3, t4⟩ := ih (k + 1) nn (pL S 156 6 0) (by omega) (by omega) h2 (fun j hj => by rw [pL_ne (by omega)]; exact hA j hj) (by rw [mxk_s, if_neg h, pL_eq]) (by rw [mnk_s, if_pos g, pL_ne (by omega)]; exact h7)
      exact ⟨T, t1, t2, fun a j hj => by rw [t3 a j hj, pL_ne (by omega)], t4⟩
theorem mw_thing {S : fS} {a : Nat} (hth : th < 8) (ha : a < 4) : f_X11_thingOf (o3 th) (o3 a) S = some (S.1 157 (90 + 4 * th + a)) := by
  unfold f_X11_thingOf
  rw [show (90 : Int32) = o3 90 from rfl, show (4 : Int32) = o3 4 from rfl, o3_mul, o3_add, o3_add, gI_o (by omega) (by omega), bd_some]
theorem mw_standing {S : fS} {A : Nat → Int64} (hC : cwM (S.1 157) A C) (h8 : C.1 ≤ 8) {f : Int32} : f_X11_standing f S = some (o3 (stn C.2.2.1 f C.1)) := by
  have key : ∀ d k nn, k + d = C.1 → d < nn → lp_X11_standing_4 f S (fun u9 => some u9) nn (o3 (stn C.2.2.1 f k)) (o3 k) = some (o3 (stn C.2.2.1 f C.1)) := by
    intro d
    induction d with
    | zero =>
      intro k nn hk hnn
      obtain ⟨nn, rfl⟩ : ∃ z, nn = z + 1 := ⟨nn - 1, by omega⟩
      rw [lp_X11_standing_4.eq_2, show (2 : Int32) = o3 2 from rfl, gI_o (by omega) (by omega), bd_some, hC.1, if_pos ((o3_le (by omega) (by omega)).mpr (by omega)), show k = C.1 by omega]
    | succ d ih =>
      intro k nn hk hnn
      obtain ⟨nn, rfl⟩ : ∃ z, nn = z + 1 := ⟨nn - 1, by omega⟩
      have hs : stn C.2.2.1 f (k + 1) = stn C.2.2.1 f k + (if C.2.2.1 k = f then 1 else 0) := rfl
      rw [lp_X11_standing_4.eq_2, show (2 : Int32) = o3 2 from rfl, gI_o (by omega) (by omega), bd_some, hC.1, if_neg (fun q => by have := (o3_le (by omega) (by omega)).mp q; omega), show (0 : Int32) = o3 0 from rfl, mw_thing (by omega) (by omega), bd_some, show 90 + 4 * k + 0 = 90 + 4 * k by omega, (hC.2.2 k (by omega)).1]
      by_cases h : C.2.2.1 k = f
      · rw [if_pos h] at hs
        rw [if_pos h, o3_s, o3_s, ← hs]
        exact ih (k + 1) nn (by omega) (by omega)
      · rw [if_neg h] at hs
        rw [if_neg h, o3_add, o3_s, ← hs]
        exact ih (k + 1) nn (by omega) (by omega)
  exact key C.1 0 FU (by omega) (FU_lt (by omega))
theorem m_words {S : fS} {F : List (Nat × Nat)} {E : List (Nat × Nat × Nat × Nat × Nat)} (hC : cwM (S.1 157) (S.2 158) C) (hT : twM (S.1 157) F E) (hF : ∀ q ∈ F, okF q) (h8 : C.1 ≤ 8) (h9 : C.2.1 ≤ 10199) (h10 : F.length ≤ 10) (hth : th < C.1) {f : Nat} (hf : f < F.length) (hp : C.2.2.1 th = o3 f) : ∃ T, f_X11_words (o3 th) S = some T ∧ eW S T ∧ ∀ v, v < 8 → T.2 156 v = wd F C th v := by
  obtain ⟨k1, k2, k3, k4, k5⟩ := hC.2.2 th hth
  have hfo : okF (F.getD f (0, 0)) := hF _ (gd_mem hf)
  obtain ⟨o1, o2, o3', o4⟩ := hfo
  obtain ⟨f1, f2⟩ := hT.2.2.1 f hf
  have hst := stn_le (p := C.2.2.1) (f := C.2.2.1 th) C.1
  have hdv : 1000 * (F.getD f (0, 0)).1 / (F.getD f (0, 0)).2 ≤ 1000 * (F.getD f (0, 0)).1 := Nat.div_le_self _ _
  unfold f_X11_words
  rw [show (0 : Int32) = o3 0 from rfl, mw_thing (by omega) (by omega), bd_some, show 90 + 4 * th + 0 = 90 + 4 * th by omega, k1, show (3 : Int32) = o3 3 from rfl, gI_o (by omega) (by omega), bd_some, sL_o (by omega) (by omega), bd_some, show (1 : Int32) = o3 1 from rfl, sL_o (by omega) (by omega), bd_some, show (2 : Int32) = o3 2 from rfl, sL_o (by omega) (by omega), bd_some, gL_o (by omega) (by omega), bd_some, pL_ne (by omega), pL_ne (by omega), pL_ne (by omega), k5]
  have e3 : dL (C.2.2.2.2.2.2 th) 232792560 = some (C.2.2.2.2.2.2 th / 232792560) := rfl
  rw [e3, bd_some, sL_o (by omega) (by omega), bd_some]
  rw [mw_standing (C := C) (A := S.2 158) (by exact hC) h8, bd_some, show (4 : Int32) = o3 4 from rfl, sL_o (by omega) (by omega), bd_some, hp, show (10 : Int32) = o3 10 from rfl, o3_mul, o3_add, gI_o (by omega) (by omega), bd_some, o3_add, gI_o (by omega) (by omega), bd_some]
  simp only [pL_1]
  rw [f1, f2, show (1000 : Int32) = o3 1000 from rfl, o3_mul, o3_dI (by omega) (by omega) (by omega), bd_some, show (5 : Int32) = o3 5 from rfl, sL_o (by omega) (by omega), bd_some, show (6 : Int32) = o3 6 from rfl, sL_o (by omega) (by omega), bd_some, show (7 : Int32) = o3 7 from rfl, sL_o (by omega) (by omega), bd_some]
  obtain ⟨T, t1, t2, t3, t4, t5⟩ := mw_118 (C := C) (th := th) h8 hth (K := fun S83 => some S83) C.1 0 FU _ (by omega) (FU_lt (by omega)) (show (pL (pL (pL (pL (pL (pL (pL (pL S 156 0 (S.1 157 3).toInt64) 156 1 (o3 th).toInt64) 156 2 (o3 f).toInt64) 156 3 (C.2.2.2.2.2.2 th / 232792560)) 156 4 (o3 (stn C.2.2.1 (o3 f) C.1)).toInt64) 156 5 (o3 (1000 * (F.getD f (0, 0)).1 / (F.getD f (0, 0)).2)).toInt64) 156 6 1) 156 7 1).1 157 2 = o3 C.1 from hC.1) (fun j hj => by
    rw [pL_ne (by omega), pL_ne (by omega), pL_ne (by omega), pL_ne (by omega), pL_ne (by omega), pL_ne (by omega), pL_ne (by omega), pL_ne (by omega)]
    exact (hC.2.2 j hj).2.2.2.2) (by
    rw [pL_ne (by omega), pL_eq]
    unfold mxk
    rw [if_pos (fun j hj => absurd hj (Nat.not_lt_zero _))]) (by
    rw [pL_eq]
    unfold mnk
    rw [if_pos (fun j hj => absurd hj (Nat.not_lt_zero _))])
  refine ⟨T, t1, ⟨t2, fun a k h => ?_⟩, fun v hv => ?_⟩
  · rw [t3 a k (by omega), pL_ne (by omega), pL_ne (by omega), pL_ne (by omega), pL_ne (by omega), pL_ne (by omega), pL_ne (by omega), pL_ne (by omega), pL_ne (by omega)]
  · unfold wd
    rw [hp] at hst
    have : v = 0 ∨ v = 1 ∨ v = 2 ∨ v = 3 ∨ v = 4 ∨ v = 5 ∨ v = 6 ∨ v = 7 := by omega
    rcases this with rfl | rfl | rfl | rfl | rfl | rfl | rfl | rfl
    · rw [if_pos rfl, t3 _ _ (by omega), pL_ne (by omega), pL_ne (by omega), pL_ne (by omega), pL_ne (by omega), pL_ne (by omega), pL_ne (by omega), pL_ne (by omega), pL_eq, hC.2.1, o6_of3 (by omega)]
    · rw [if_neg (by decide), if_pos rfl, t3 _ _ (by omega), pL_ne (by omega), pL_ne (by omega), pL_ne (by omega), pL_ne (by omega), pL_ne (by omega), pL_ne (by omega), pL_eq, o6_of3 (by omega)]
    · rw [if_neg (by decide), if_neg (by decide), if_pos rfl, t3 _ _ (by omega), pL_ne (by omega), pL_ne (by omega), pL_ne (by omega), pL_ne (by omega), pL_ne (by omega), pL_eq, hp]
    · rw [if_neg (by decide), if_neg (by decide), if_neg (by decide), if_pos rfl, t3 _ _ (by omega), pL_ne (by omega), pL_ne (by omega), pL_ne (by omega), pL_ne (by omega), pL_eq]
    · rw [if_neg (by decide), if_neg (by decide), if_neg (by decide), if_neg (by decide), if_pos rfl, t3 _ _ (by omega), pL_ne (by omega), pL_ne (by omega), pL_ne (by omega), pL_eq, hp, o6_of3 (by omega)]
    · rw [if_neg (by decide), if_neg (by decide), if_neg (by decide), if_neg (by decide), if_neg (by decide), if_pos rfl, t3 _ _ (by omega), pL_ne (by omega), pL_ne (by omega), pL_eq, hp, o3_nat (by omega), o6_of3 (by omega)]
    · rw [if_neg (by decide), if_neg (by decide), if_neg (by decide), if_neg (by decide), if_neg (by decide), if_neg (by decide), if_pos rfl, t4]; rfl
    · rw [if_neg (by decide), if_neg (by decide), if_neg (by decide), if_neg (by decide), if_neg (by decide), if_neg (by decide), if_neg (by decide), t5]; rfl
end MWD
end
noncomputable section
/-! a first stair; an hour, of a crowd C on floors F with stairs E by a rule Q -/
abbrev St5 : Type := Nat × Nat × Nat × Nat × Nat
def oeI (q : St5) (a : Nat) : Int32 := if q.1 = a then o3 q.2.1 else if q.2.1 = a then o3 q.1 else -1
abbrev hk (q : St5) (D : Mx) (a b : Nat) : Prop := (q.1 = a ∧ D q.2.1 b < 99999 ∧ q.2.2.1 + D q.2.1 b = D a b) ∨ (q.1 ≠ a ∧ q.2.1 = a ∧ D q.1 b < 99999 ∧ q.2.2.1 + D q.1 b = D a b)
def fsf (E : List St5) (D : Mx) (a b : Nat) : Nat → Nat → Option Nat
  | 0, _ => none
  | d + 1, k => if hk (E.getD k d5) D a b then some k else fsf E D a b d (k + 1)
def fS1 (E : List St5) (a b : Nat) : Option Nat := if a = b ∨ dst E a b = 99999 then none else fsf E (dst E) a b E.length 0
theorem fsf_pr {E : List St5} {D : Mx} {a b : Nat} : ∀ d k j, fsf E D a b d k = some j → k ≤ j ∧ j < k + d ∧ hk (E.getD j d5) D a b := by
  intro d
  induction d with
  | zero => intro k j h; exact nomatch h
  | succ d ih =>
    intro k j h
    rw [show fsf E D a b (d + 1) k = if hk (E.getD k d5) D a b then some k else fsf E D a b d (k + 1) from rfl] at h
    by_cases hh : hk (E.getD k d5) D a b
    · rw [if_pos hh] at h
      obtain rfl := Option.some.inj h
      exact ⟨Nat.le_refl _, by omega, hh⟩
    · rw [if_neg hh] at h
      obtain ⟨x, y, z⟩ := ih (k + 1) j h
      exact ⟨by omega, by omega, z⟩
theorem fsf_ex {E : List St5} {D : Mx} {a b : Nat} : ∀ d k, (∃ j, k ≤ j ∧ j < k + d ∧ hk (E.getD j d5) D a b) → ∃ j, fsf E D a b d k = some j := by
  intro d
  induction d with
  | zero => intro k ⟨j, h1, h2, _⟩; omega
  | succ d ih =>
    intro k ⟨j, h1, h2, h3⟩
    rw [show fsf E D a b (d + 1) k = if hk (E.getD k d5) D a b then some k else fsf E D a b d (k + 1) from rfl]
    by_cases hh : hk (E.getD k d5) D a b
    · rw [if_pos hh]; exact ⟨k, rfl⟩
    · rw [if_neg hh]
      have : j ≠ k := fun e => hh (e ▸ h3)
      exact ih (k + 1) ⟨j, by omega, by omega, h3⟩
theorem gd_of_mem {α : Type} {d : α} : ∀ (l : List α) (x : α), x ∈ l → ∃ k, k < l.length ∧ l.getD k d = x := by
  intro l x h
  obtain ⟨k, hk, e⟩ := List.getElem_of_mem h
  exact ⟨k, hk, by rw [List.getD_eq_getElem?_getD, List.getElem?_eq_getElem hk]; exact e⟩
theorem hk_ex {E : List St5} {m a b : Nat} (hE : ∀ q ∈ E, okS m q) (hm : m ≤ 10) (hab : a ≠ b) (h : dst E a b < 99999) : ∃ j, j < E.length ∧ hk (E.getD j d5) (dst E) a b := by
  obtain ⟨q, hq, hh⟩ := dst_fst (E := E) hab h
  obtain ⟨s1, s2, s3, s4⟩ := hE q hq
  have hst := dst_st hq
  obtain ⟨k, k1, k2⟩ := gd_of_mem (d := d5) E q hq
  refine ⟨k, k1, ?_⟩
  rw [k2]
  rcases hh with ⟨e, hh⟩ | ⟨e, hh⟩
  · have ht := dst_tri (E := E) (p := q.2.1) (by omega) a b
    rw [← e] at ht hh h ⊢
    exact Or.inl ⟨rfl, by omega, by omega⟩
  · have ht := dst_tri (E := E) (p := q.1) (by omega) a b
    rw [← e] at ht hh h ⊢
    exact Or.inr ⟨s3, rfl, by omega, by omega⟩
theorem dst_pos {E : List St5} {m a b : Nat} (hE : ∀ q ∈ E, okS m q) (hm : m ≤ 10) (hab : a ≠ b) (h : dst E a b < 99999) : 0 < dst E a b := by
  obtain ⟨j, j1, j2⟩ := hk_ex hE hm hab h
  obtain ⟨_, _, _, s4, _⟩ := hE _ (gd_mem (d := d5) j1)
  rcases j2 with ⟨_, _, e⟩ | ⟨_, _, _, e⟩ <;> omega
theorem fS1_ex {E : List St5} {m a b : Nat} (hE : ∀ q ∈ E, okS m q) (hm : m ≤ 10) (hab : a ≠ b) (h : dst E a b < 99999) : ∃ j, fS1 E a b = some j ∧ fsf E (dst E) a b E.length 0 = some j ∧ j < E.length ∧ hk (E.getD j d5) (dst E) a b := by
  obtain ⟨j0, j1, j2⟩ := hk_ex hE hm hab h
  obtain ⟨j, hj⟩ := fsf_ex (E := E) (D := dst E) (a := a) (b := b) E.length 0 ⟨j0, by omega, by omega, j2⟩
  obtain ⟨x, y, z⟩ := fsf_pr _ _ _ hj
  refine ⟨j, ?_, hj, by omega, z⟩
  unfold fS1
  rw [if_neg (by omega), hj]
def udN {α : Type} (f : Nat → α) (k : Nat) (x : α) : Nat → α := fun j => if j = k then x else f j
theorem udN_eq {α : Type} {f : Nat → α} {k : Nat} {x : α} : udN f k x k = x := if_pos rfl
theorem udN_ne {α : Type} {f : Nat → α} {k j : Nat} {x : α} (h : j ≠ k) : udN f k x j = f j := if_neg h
def cOff (C : Cw) (th s : Nat) (o : Int32) : Cw := (C.1, C.2.1, udN C.2.2.1 th (-1), udN C.2.2.2.1 th (o3 s), udN C.2.2.2.2.1 th 0, udN C.2.2.2.2.2.1 th o, C.2.2.2.2.2.2)
def cOb1 (F : List (Nat × Nat)) (E : List St5) (Q : List Cl) (C : Cw) (th : Nat) : Cw :=
  if C.2.2.1 th < 0 then C
  else if 0 ≤ (gl (wd F C th) Q).toInt ∧ (gl (wd F C th) Q).toInt < F.length then
    (match fS1 E (C.2.2.1 th).toNatClampNeg (gl (wd F C th) Q).toNatClampNeg with
      | some k => cOff C th k (oeI (E.getD k d5) (C.2.2.1 th).toNatClampNeg)
      | none => C)
  else C
def cOb (F : List (Nat × Nat)) (E : List St5) (Q : List Cl) (C : Cw) : Nat → Cw
  | 0 => C
  | k + 1 => cOb1 F E Q (cOb F E Q C k) k
theorem cOff_ok {m : Nat} {E : List St5} {C : Cw} {th s f : Nat} {D : Mx} {b : Nat} (hC : okD m E C) (hE : ∀ q ∈ E, okS m q) (hs : s < E.length) (hh : hk (E.getD s d5) D f b) : okD m E (cOff C th s (oeI (E.getD s d5) f)) := by
  obtain ⟨c1, c2, c3⟩ := hC
  refine ⟨c1, c2, fun k hk' => ?_⟩
  obtain ⟨d1, d2, d3⟩ := c3 k hk'
  refine ⟨?_, d2, d3⟩
  by_cases e : k = th
  · subst e
    obtain ⟨_, _, _, s4, _⟩ := hE _ (gd_mem (d := d5) hs)
    show okT m E (udN _ k _ k) (udN _ k _ k) (udN _ k _ k) (udN _ k _ k)
    rw [udN_eq, udN_eq, udN_eq, udN_eq]
    rcases hh with ⟨h1, _⟩ | ⟨h1, h2, _⟩
    · refine Or.inr ⟨s, 0, (E.getD s d5).2.1, hs, rfl, rfl, rfl, by omega, ?_, Or.inr rfl⟩
      unfold oeI
      rw [if_pos h1]
    · refine Or.inr ⟨s, 0, (E.getD s d5).1, hs, rfl, rfl, rfl, by omega, ?_, Or.inl rfl⟩
      unfold oeI
      rw [if_neg h1, if_pos h2]
  · show okT m E (udN _ th _ k) (udN _ th _ k) (udN _ th _ k) (udN _ th _ k)
    rw [udN_ne e, udN_ne e, udN_ne e, udN_ne e]
    exact d1
theorem okT_nn {m : Nat} {E : List St5} {p w g e : Int32} (h : okT m E p w g e) (hm : m ≤ 10) (hp : ¬ p < 0) : ∃ f, f < m ∧ p = o3 f := by
  rcases h with ⟨f, h1, h2, _⟩ | ⟨s, j, f, _, h2, _⟩
  · exact ⟨f, h1, h2⟩
  · rw [h2] at hp; exact absurd (by decide) hp
theorem gl_cs {W : Nat → Int64} : ∀ Q, okRu Q → gl W Q = -1 ∨ ∃ g, g ≤ 9 ∧ gl W Q = o3 g := by
  intro Q
  induction Q with
  | nil => intro _; exact Or.inl rfl
  | cons q Q ih =>
    intro h
    obtain ⟨q1, t⟩ := q
    have h1 : q1 ≤ 9 := (h (q1, t) List.mem_cons_self).1
    cases t with
    | none => exact Or.inr ⟨q1, h1, rfl⟩
    | some w =>
      show (if vw W w = 0 then gl W Q else o3 q1) = -1 ∨ ∃ g, g ≤ 9 ∧ (if vw W w = 0 then gl W Q else o3 q1) = o3 g
      split
      · exact ih (fun z hz => h z (List.mem_cons_of_mem _ hz))
      · exact Or.inr ⟨q1, h1, rfl⟩
theorem cOb1_ok {F : List (Nat × Nat)} {E : List St5} {Q : List Cl} {C : Cw} {th : Nat} (hC : okD F.length E C) (hE : ∀ q ∈ E, okS F.length q) (hm : F.length ≤ 10) (hth : th < C.1) : okD F.length E (cOb1 F E Q C th) ∧ (cOb1 F E Q C th).1 = C.1 ∧ (cOb1 F E Q C th).2.1 = C.2.1 := by
  unfold cOb1
  by_cases h0 : C.2.2.1 th < 0
  · rw [if_pos h0]; exact ⟨hC, rfl, rfl⟩
  rw [if_neg h0]
  by_cases h1 : 0 ≤ (gl (wd F C th) Q).toInt ∧ (gl (wd F C th) Q).toInt < F.length
  · rw [if_pos h1]
    cases hf : fS1 E (C.2.2.1 th).toNatClampNeg (gl (wd F C th) Q).toNatClampNeg with
    | none => exact ⟨hC, rfl, rfl⟩
    | some k =>
      unfold fS1 at hf
      split at hf
      · exact nomatch hf
      · obtain ⟨x, y, z⟩ := fsf_pr _ _ _ hf
        exact ⟨cOff_ok hC hE (by omega) z, rfl, rfl⟩
  · rw [if_neg h1]; exact ⟨hC, rfl, rfl⟩
theorem cOb_ok {F : List (Nat × Nat)} {E : List St5} {Q : List Cl} {C : Cw} (hC : okD F.length E C) (hE : ∀ q ∈ E, okS F.length q) (hm : F.length ≤ 10) : ∀ k, k ≤ C.1 → okD F.length E (cOb F E Q C k) ∧ (cOb F E Q C k).1 = C.1 ∧ (cOb F E Q C k).2.1 = C.2.1 := by
  intro k
  induction k with
  | zero => intro _; exact ⟨hC, rfl, rfl⟩
  | succ k ih =>
    intro hk
    obtain ⟨a, b, c⟩ := ih (by omega)
    obtain ⟨x, y, z⟩ := cOb1_ok (Q := Q) (th := k) a hE hm (by omega)
    exact ⟨x, y.trans b, z.trans c⟩
/-- an hour passes -/
abbrev stays (E : List St5) (C : Cw) (k : Nat) : Prop := C.2.2.2.2.1 k + 1 < o3 (E.getD (C.2.2.2.1 k).toNatClampNeg d5).2.2.1
def cPs (F : List (Nat × Nat)) (E : List St5) (C : Cw) : Cw := (C.1, C.2.1 + 1,
  fun k => if C.2.2.1 k < 0 then (if stays E C k then C.2.2.1 k else C.2.2.2.2.2.1 k) else C.2.2.1 k,
  fun k => if C.2.2.1 k < 0 then (if stays E C k then C.2.2.2.1 k else -1) else C.2.2.2.1 k,
  fun k => if C.2.2.1 k < 0 then (if stays E C k then C.2.2.2.2.1 k + 1 else 0) else C.2.2.2.2.1 k,
  fun k => if C.2.2.1 k < 0 then (if stays E C k then C.2.2.2.2.2.1 k else -1) else C.2.2.2.2.2.1 k,
  fun k => if C.2.2.1 k < 0 then C.2.2.2.2.2.2 k + pc (E.getD (C.2.2.2.1 k).toNatClampNeg d5).2.2.2 else C.2.2.2.2.2.2 k + pc (F.getD (C.2.2.1 k).toNatClampNeg (0, 0)))
theorem pc_le {q : Nat × Nat} (h : okF q) : 0 ≤ (pc q).toInt ∧ (pc q).toInt ≤ 4655851200 := by
  obtain ⟨h1, h2, h3, h4⟩ := h
  have hp : q.1 * (232792560 / q.2) ≤ 20 * 232792560 := Nat.mul_le_mul h2 (Nat.div_le_self _ _)
  unfold pc
  rw [o6_int (by omega)]
  omega
theorem cPs_ok {F : List (Nat × Nat)} {E : List St5} {C : Cw} (hC : okD F.length E C) (hF : ∀ q ∈ F, okF q) (hE : ∀ q ∈ E, okS F.length q) (hm : F.length ≤ 10) (hl : E.length ≤ 12) (h9 : C.2.1 < 10199) : okD F.length E (cPs F E C) := by
  obtain ⟨c1, c2, c3⟩ := hC
  refine ⟨c1, by show C.2.1 + 1 ≤ 10199; omega, fun k hk' => ?_⟩
  obtain ⟨d1, d2, d3⟩ := c3 k hk'
  have c1' : k < 8 := by have : k < C.1 := hk'; omega
  have hage : ∀ x : Int64, 0 ≤ x.toInt → x.toInt ≤ 4655851200 → 0 ≤ (C.2.2.2.2.2.2 k + x).toInt ∧ (C.2.2.2.2.2.2 k + x).toInt ≤ 4655851200 * ((C.2.1 + 1 : Nat) : Int) := fun x h1 h2 => by
    rw [nl_add (by omega) (by omega)]
    omega
  show okT _ _ (if C.2.2.1 k < 0 then _ else _) (if C.2.2.1 k < 0 then _ else _) (if C.2.2.1 k < 0 then _ else _) (if C.2.2.1 k < 0 then _ else _) ∧ 0 ≤ (if C.2.2.1 k < 0 then _ else _ : Int64).toInt ∧ (if C.2.2.1 k < 0 then _ else _ : Int64).toInt ≤ _
  rcases d1 with ⟨f, e1, e2, e3, e4, e5⟩ | ⟨s, j, f, e1, e2, e3, e4, e5, e6, e7⟩
  · have hn : ¬ C.2.2.1 k < 0 := by rw [e2]; exact o3_nn (by omega)
    rw [if_neg hn, if_neg hn, if_neg hn, if_neg hn, if_neg hn, e2, o3_nat (by omega)]
    have := pc_le (hF _ (gd_mem (d := (0, 0)) e1))
    exact ⟨Or.inl ⟨f, e1, rfl, e3, e4, e5⟩, hage _ this.1 this.2⟩
  · have hn : C.2.2.1 k < 0 := by rw [e2]; decide
    obtain ⟨s1, s2, s3, s4, s5, s6⟩ := hE _ (gd_mem (d := d5) e1)
    rw [if_pos hn, if_pos hn, if_pos hn, if_pos hn, if_pos hn]
    have := pc_le s6
    have hst : stays E C k ↔ j + 1 < (E.getD s d5).2.2.1 := by
      unfold stays
      rw [e3, e4, o3_s, o3_nat (by omega), o3_lt (by omega) (by omega)]
    refine ⟨?_, ?_⟩
    · by_cases hs : stays E C k
      · rw [if_pos hs, if_pos hs, if_pos hs, if_pos hs, e2, e3, e4, o3_s]
        exact Or.inr ⟨s, j + 1, f, e1, rfl, rfl, rfl, hst.mp hs, e6, e7⟩
      · rw [if_neg hs, if_neg hs, if_neg hs, if_neg hs, e6]
        exact Or.inl ⟨f, by rcases e7 with e | e <;> omega, rfl, rfl, rfl, rfl⟩
    · rw [e3, o3_nat (by omega)]
      exact hage _ this.1 this.2
/-- an hour by a rule, or by none -/
def cHr (F : List (Nat × Nat)) (E : List St5) (Q : Option (List Cl)) (C : Cw) : Cw := match Q with
  | none => cPs F E C
  | some L => cPs F E (cOb F E L C C.1)
def cHrs (F : List (Nat × Nat)) (E : List St5) (Q : Option (List Cl)) : Nat → Cw → Cw
  | 0, C => C
  | k + 1, C => cHrs F E Q k (cHr F E Q C)
theorem cHr_ok {F : List (Nat × Nat)} {E : List St5} {Q : Option (List Cl)} {C : Cw} (hC : okD F.length E C) (hF : ∀ q ∈ F, okF q) (hE : ∀ q ∈ E, okS F.length q) (hm : F.length ≤ 10) (hl : E.length ≤ 12) (h9 : C.2.1 < 10199) : okD F.length E (cHr F E Q C) ∧ (cHr F E Q C).1 = C.1 ∧ (cHr F E Q C).2.1 = C.2.1 + 1 := by
  cases Q with
  | none => exact ⟨cPs_ok hC hF hE hm hl h9, rfl, rfl⟩
  | some L =>
    obtain ⟨a, b, c⟩ := cOb_ok (Q := L) hC hE hm C.1 (Nat.le_refl _)
    exact ⟨cPs_ok a hF hE hm hl (by omega), b, by show (cOb F E L C C.1).2.1 + 1 = _; rw [c]⟩
end
noncomputable section
/-! the class: an hour -/
section CH
variable {S : fS} {t c : Nat} {F : List (Nat × Nat)} {E : List St5} {C : Cw}
theorem oe_or {q : St5} {a m : Nat} (hq : okS m q) (hm : m ≤ 10) : (∃ o, o < m ∧ oeI q a = o3 o ∧ ((q.1 = a ∧ o = q.2.1) ∨ (q.1 ≠ a ∧ q.2.1 = a ∧ o = q.1))) ∨ (oeI q a = -1 ∧ q.1 ≠ a ∧ q.2.1 ≠ a) := by
  obtain ⟨s1, s2, _⟩ := hq
  unfold oeI
  by_cases h : q.1 = a
  · rw [if_pos h]; exact Or.inl ⟨q.2.1, s2, rfl, Or.inl ⟨h, rfl⟩⟩
  · rw [if_neg h]
    by_cases g : q.2.1 = a
    · rw [if_pos g]; exact Or.inl ⟨q.1, s1, rfl, Or.inr ⟨h, g, rfl⟩⟩
    · rw [if_neg g]; exact Or.inr ⟨rfl, h, g⟩
theorem ch_other (hT : twC S t F E) (hE : ∀ q ∈ E, okS F.length q) (hm : F.length ≤ 10) (hl : E.length ≤ 12) {k a : Nat} (hk : k < E.length) (ha : a < 2147483648) : f_X8_otherEnd t (o3 k) (o3 a) S = some (oeI (E.getD k d5) a) := by
  obtain ⟨s1, s2, _⟩ := hE _ (gd_mem (d := d5) hk)
  obtain ⟨e1, e2, _⟩ := hT.2.2.2 k hk
  unfold f_X8_otherEnd oeI
  rw [gI_o (by omega) (by omega), bd_some, e1]
  by_cases h : (E.getD k d5).1 = a
  · rw [if_pos ((o3_inj (by omega) ha).mpr h), if_pos h, gI_o (by omega) (by omega), bd_some, e2]
  · rw [if_neg (fun q => h ((o3_inj (by omega) ha).mp q)), if_neg h, gI_o (by omega) (by omega), bd_some, e2]
    by_cases g : (E.getD k d5).2.1 = a
    · rw [if_pos ((o3_inj (by omega) ha).mpr g), if_pos g, bd_some]
    · rw [if_neg (fun q => g ((o3_inj (by omega) ha).mp q)), if_neg g]
theorem ch_btw {m : Nat} (hW : rWm S (t + 6) m (dst E)) (hm : m ≤ 10) {a b : Nat} (ha : a < m) (hb : b < m) : f_X8_hoursBetween t (o3 a) (o3 b) S = some (cwv (dst E a b)) := by
  unfold f_X8_hoursBetween
  rw [show (10 : Int32) = o3 10 from rfl, o3_mul, o3_add, gI_o (by omega) (by omega), bd_some, show a * 10 + b = 10 * a + b by omega, hW a b ha hb]
theorem cwv_cs {E : List St5} {a b : Nat} : (dst E a b = 99999 ∧ cwv (dst E a b) = -1) ∨ (dst E a b < 99999 ∧ cwv (dst E a b) = o3 (dst E a b)) := by
  have h9 := dst_9 (E := E) a b
  unfold cwv
  by_cases h : dst E a b = 99999
  · rw [if_pos h]; exact Or.inl ⟨h, rfl⟩
  · rw [if_neg h]; exact Or.inr ⟨by omega, rfl⟩
def fsI (E : List St5) (a b : Nat) : Int32 := match fS1 E a b with
  | some k => o3 k
  | none => -1
theorem ch_first (hT : twC S t F E) (hW : rWm S (t + 6) F.length (dst E)) (hE : ∀ q ∈ E, okS F.length q) (hm : F.length ≤ 10) (hl : E.length ≤ 12) {a b : Nat} (ha : a < F.length) (hb : b < F.length) : f_X8_firstStair t (o3 a) (o3 b) S = some (fsI E a b) := by
  unfold f_X8_firstStair
  rw [ch_btw hW hm ha hb, bd_some]
  unfold fsI fS1
  have hK : ∀ nn p3 k, 0 < nn → p3 ≤ (0 : Int32) → lp_X8_firstStair_10 t (o3 a) (o3 b) p3 S (fun _ => some (-1)) nn (o3 k) = some (-1) := fun nn p3 k hn hp => by
    obtain ⟨nn, rfl⟩ : ∃ z, nn = z + 1 := ⟨nn - 1, by omega⟩
    rw [lp_X8_firstStair_10.eq_2]
    by_cases hz : S.1 t 7 ≤ o3 k
    · rw [if_pos hz]
    · rw [if_neg hz, if_pos hp]
  rcases cwv_cs (E := E) (a := a) (b := b) with ⟨h, e⟩ | ⟨h, e⟩
  · rw [e, if_pos (Or.inr h)]
    exact hK FU _ 0 (FU_lt (by omega)) (by decide)
  · rw [e]
    by_cases hab : a = b
    · rw [if_pos (Or.inl hab)]
      have : dst E a b = 0 := by rw [hab]; exact dst_z b
      rw [this]
      exact hK FU _ 0 (FU_lt (by omega)) (by decide)
    · have hp := dst_pos hE hm hab h
      rw [if_neg (by omega)]
      have key : ∀ d k nn, k + d = E.length → d < nn → lp_X8_firstStair_10 t (o3 a) (o3 b) (o3 (dst E a b)) S (fun _ => some (-1)) nn (o3 k) = some (match fsf E (dst E) a b d k with
          | some k => o3 k
          | none => -1) := by
        intro d
        induction d with
        | zero =>
          intro k nn hk hnn
          obtain ⟨nn, rfl⟩ : ∃ z, nn = z + 1 := ⟨nn - 1, by omega⟩
          rw [lp_X8_firstStair_10.eq_2, hT.2.1, if_pos ((o3_le (by omega) (by omega)).mpr (by omega))]
          rfl
        | succ d ih =>
          intro k nn hk' hnn
          obtain ⟨nn, rfl⟩ : ∃ z, nn = z + 1 := ⟨nn - 1, by omega⟩
          have hkl : k < E.length := by omega
          have hq := hE _ (gd_mem (d := d5) hkl)
          rw [show fsf E (dst E) a b (d + 1) k = if hk (E.getD k d5) (dst E) a b then some k else fsf E (dst E) a b d (k + 1) from rfl]
          rw [lp_X8_firstStair_10.eq_2, hT.2.1, if_neg (fun q => by have := (o3_le (by omega) (by omega)).mp q; omega), if_neg (show ¬ o3 (dst E a b) ≤ (0 : Int32) from fun q => by have := (o3_le (b := 0) (by omega) (by omega)).mp q; omega), ch_other hT hE hm hl hkl (by omega), bd_some, o3_s]
          have hh := (hT.2.2.2 k hkl).2.2.1
          rcases oe_or (a := a) hq hm with ⟨o, o1, o2, o3'⟩ | ⟨o2, n1, n2⟩
          · rw [o2, if_pos (o3_0le (by omega)), ch_btw hW hm o1 hb, bd_some]
            have h9 := hq.2.2.2.2.1
            rcases cwv_cs (E := E) (a := o) (b := b) with ⟨g, e⟩ | ⟨g, e⟩
            · rw [e, if_pos (show (-1 : Int32) < 0 by decide), if_neg (fun q => by
                rcases q with ⟨q1, q2, _⟩ | ⟨q1, q2, q3, _⟩
                · rcases o3' with ⟨_, w⟩ | ⟨w, _⟩
                  · rw [← w] at q2; omega
                  · exact w q1
                · rcases o3' with ⟨w, _⟩ | ⟨_, _, w⟩
                  · exact q1 w
                  · rw [← w] at q3; omega)]
              exact ih (k + 1) nn (by omega) (by omega)
            · rw [e, if_neg (o3_nn (by omega)), gI_o (by omega) (by omega), bd_some, hh, o3_add]
              have heq : o3 ((E.getD k d5).2.2.1 + dst E o b) = o3 (dst E a b) ↔ hk (E.getD k d5) (dst E) a b := by
                rw [o3_inj (by omega) (by omega)]
                constructor
                · intro z
                  rcases o3' with ⟨w1, w2⟩ | ⟨w1, w2, w3⟩
                  · exact Or.inl ⟨w1, by rw [← w2]; exact g, by rw [← w2]; exact z⟩
                  · exact Or.inr ⟨w1, w2, by rw [← w3]; exact g, by rw [← w3]; exact z⟩
                · intro z
                  rcases z with ⟨q1, _, q2⟩ | ⟨q1, q2, _, q3⟩
                  · rcases o3' with ⟨_, w⟩ | ⟨w, _⟩
                    · rw [w]; exact q2
                    · exact absurd q1 w
                  · rcases o3' with ⟨w, _⟩ | ⟨_, _, w⟩
                    · exact absurd w q1
                    · rw [w]; exact q3
              by_cases hx : hk (E.getD k d5) (dst E) a b
              · rw [if_pos (heq.mpr hx), if_pos hx]
              · rw [if_neg (fun q => hx (heq.mp q)), if_neg hx]
                exact ih (k + 1) nn (by omega) (by omega)
          · rw [o2, if_neg (show ¬ (0 : Int32) ≤ -1 by decide), if_pos (show (-1 : Int32) < 0 by decide), if_neg (fun q => by
              rcases q with ⟨q1, _⟩ | ⟨_, q2, _⟩
              · exact n1 q1
              · exact n2 q2)]
            exact ih (k + 1) nn (by omega) (by omega)
      exact key E.length 0 FU (by omega) (FU_lt (by omega))
/-- what a crowd at c, going by a rule at p, may write -/
def eG (c p : Nat) (S T : fS) : Prop := (∀ a k, ¬ (c + 1 ≤ a ∧ a ≤ c + 4) → ¬ (a = c ∧ k = 6) → ¬ (a = p ∧ k = 3) → T.1 a k = S.1 a k) ∧ (∀ a k, a ≠ c + 5 → a ≠ p + 2 → T.2 a k = S.2 a k)
theorem eG.rf {c p : Nat} {S : fS} : eG c p S S := ⟨fun _ _ _ _ _ => rfl, fun _ _ _ _ => rfl⟩
theorem eG.tr {c p : Nat} {S T U : fS} (h : eG c p S T) (g : eG c p T U) : eG c p S U := ⟨fun a k x y z => (g.1 a k x y z).trans (h.1 a k x y z), fun a k x y => (g.2 a k x y).trans (h.2 a k x y)⟩
theorem eG_K {c p : Nat} {S T : fS} (h : eK p S T) : eG c p S T := ⟨fun a k _ _ z => h.1 a k z, fun a k _ y => h.2 a k y⟩
theorem twC_eq {S T : fS} {t : Nat} {F : List (Nat × Nat)} {E : List St5} (h : twC S t F E) (h1 : ∀ a k, t ≤ a → a ≤ t + 6 → T.1 a k = S.1 a k) (h2 : ∀ a k, t ≤ a → a ≤ t + 6 → T.2 a k = S.2 a k) : twC T t F E := by
  obtain ⟨a, b, c, d⟩ := h
  refine ⟨(h1 _ _ (by omega) (by omega)).trans a, (h1 _ _ (by omega) (by omega)).trans b, fun k hk => (h2 _ _ (by omega) (by omega)).trans (c k hk), fun k hk => ?_⟩
  obtain ⟨e1, e2, e3, e4⟩ := d k hk
  exact ⟨(h1 _ _ (by omega) (by omega)).trans e1, (h1 _ _ (by omega) (by omega)).trans e2, (h1 _ _ (by omega) (by omega)).trans e3, (h2 _ _ (by omega) (by omega)).trans e4⟩
theorem rWm_eq {S T : fS} {r m : Nat} {w : Mx} (h : rWm S r m w) (h1 : ∀ k, T.1 r k = S.1 r k) : rWm T r m w := fun a b ha hb => (h1 _).trans (h a b ha hb)
theorem cdC_eq {S T : fS} {p : Nat} {q : List (Nat × Nat)} (h : cdC S p q) (h1 : T.1 p 2 = S.1 p 2) (h2 : ∀ k, T.1 (p + 1) k = S.1 (p + 1) k) : cdC T p q := ⟨h1.trans h.1, h.2.1, fun k hk => (h2 k).trans (h.2.2 k hk)⟩
theorem cwC_eq {S T : fS} {c : Nat} {C : Cw} (h : cwC S c C) (h1 : ∀ a k, c ≤ a → a ≤ c + 4 → T.1 a k = S.1 a k) (h2 : ∀ k, T.2 (c + 5) k = S.2 (c + 5) k) : cwC T c C := by
  obtain ⟨a, b, d⟩ := h
  refine ⟨(h1 _ _ (by omega) (by omega)).trans a, (h1 _ _ (by omega) (by omega)).trans b, fun k hk => ?_⟩
  obtain ⟨e1, e2, e3, e4, e5⟩ := d k hk
  exact ⟨(h1 _ _ (by omega) (by omega)).trans e1, (h1 _ _ (by omega) (by omega)).trans e2, (h1 _ _ (by omega) (by omega)).trans e3, (h1 _ _ (by omega) (by omega)).trans e4, (h2 _).trans e5⟩
theorem ch_off (hC : cwC S c C) (h8 : C.1 ≤ 8) (hT : twC S t F E) (hE : ∀ q ∈ E, okS F.length q) (hm : F.length ≤ 10) (hl : E.length ≤ 12) {th k a : Nat} (hth : th < C.1) (hk : k < E.length) (ha : a < F.length) (hp : C.2.2.1 th = o3 a) : ∃ T, f_X0_setOff c t (o3 th) (o3 k) S = some (if oeI (E.getD k d5) a = -1 then (0, S) else (1, T)) ∧ cwC T c (cOff C th k (oeI (E.getD k d5) a)) ∧ (∀ p, eG c p S T) := by
  obtain ⟨k1, k2, k3, k4, k5⟩ := hC.2.2 th hth
  unfold f_X0_setOff
  rw [if_pos (o3_0le (by omega)), gI_o (by omega) (by omega), bd_some, k1, hp, ch_other hT hE hm hl hk (by omega), bd_some]
  refine ⟨pI (pI (pI (pI S (c + 1) th (-1)) (c + 2) th (o3 k)) (c + 3) th 0) (c + 4) th (oeI (E.getD k d5) a), ?_, ?_, fun p => ?_⟩
  · rcases oe_or (a := a) (hE _ (gd_mem (d := d5) hk)) hm with ⟨o, o1, o2, _⟩ | ⟨o2, _⟩
    · rw [o2, if_pos (o3_0le (by omega)), if_neg (o3_m1 (by omega)), sI_o (by omega) (by omega), bd_some, sI_o (by omega) (by omega), bd_some, sI_o (by omega) (by omega), bd_some, sI_o (by omega) (by omega), bd_some]
    · rw [o2, if_neg (by decide), if_pos rfl]
  · refine ⟨?_, ?_, fun j hj => ?_⟩
    · rw [pI_ne (by omega), pI_ne (by omega), pI_ne (by omega), pI_ne (by omega)]; exact hC.1
    · rw [pI_ne (by omega), pI_ne (by omega), pI_ne (by omega), pI_ne (by omega)]; exact hC.2.1
    · obtain ⟨j1, j2, j3, j4, j5⟩ := hC.2.2 j hj
      show _ = udN _ th _ j ∧ _ = udN _ th _ j ∧ _ = udN _ th _ j ∧ _ = udN _ th _ j ∧ _
      by_cases e : j = th
      · subst e
        rw [udN_eq, udN_eq, udN_eq, udN_eq]
        refine ⟨?_, ?_, ?_, ?_, j5⟩
        · rw [pI_ne (by omega), pI_ne (by omega), pI_ne (by omega), pI_eq]
        · rw [pI_ne (by omega), pI_ne (by omega), pI_eq]
        · rw [pI_ne (by omega), pI_eq]
        · rw [pI_eq]
      · rw [udN_ne e, udN_ne e, udN_ne e, udN_ne e]
        refine ⟨?_, ?_, ?_, ?_, j5⟩
        · rw [pI_ne (by omega), pI_ne (by omega), pI_ne (by omega), pI_ne (by omega)]; exact j1
        · rw [pI_ne (by omega), pI_ne (by omega), pI_ne (by omega), pI_ne (by omega)]; exact j2
        · rw [pI_ne (by omega), pI_ne (by omega), pI_ne (by omega), pI_ne (by omega)]; exact j3
        · rw [pI_ne (by omega), pI_ne (by omega), pI_ne (by omega), pI_ne (by omega)]; exact j4
  · refine ⟨fun b j x _ _ => ?_, fun _ _ _ _ => rfl⟩
    rw [pI_ne (by omega), pI_ne (by omega), pI_ne (by omega), pI_ne (by omega)]
theorem oe_hk {D : Mx} {q : St5} {a b m : Nat} (hq : okS m q) (hm : m ≤ 10) (h : hk q D a b) : oeI q a ≠ -1 := by
  rcases oe_or (a := a) hq hm with ⟨o, o1, o2, _⟩ | ⟨_, n1, n2⟩
  · rw [o2]; exact o3_m1 (by omega)
  · rcases h with ⟨h, _⟩ | ⟨_, h, _⟩
    · exact absurd h n1
    · exact absurd h n2
theorem from_o {v : Int32} {m : Nat} {S : fS} (hm : m < 2147483648) : f_X10_isFrom v 0 (o3 m - 1) S = some (if 0 ≤ v.toInt ∧ v.toInt < m then 1 else 0) := by
  have e : (o3 m - 1 : Int32).toInt = (m : Int) - 1 := by
    rw [ni_sub (by rw [o3_int hm, show (1 : Int32).toInt = 1 from rfl]; omega) (by rw [o3_int hm, show (1 : Int32).toInt = 1 from rfl]; omega), o3_int hm]
    rfl
  rcases op_isFrom01 (v := v) (a := 0) (b := o3 m - 1) (S := S) with ⟨h, g⟩ | ⟨h, g1, g2⟩
  · rw [h, if_neg (by rw [e, ni_0] at g; omega)]
  · rw [h, if_pos (by rw [e] at g2; rw [ni_0] at g1; omega)]
theorem ch_obey {p : Nat} {Q : List Cl} (htc : t + 6 < c) (hcp : c + 5 < p) (hF : ∀ q ∈ F, okF q) (hE : ∀ q ∈ E, okS F.length q) (hm : F.length ≤ 10) (hl : E.length ≤ 12) (hQ : okRu Q) {K : fS → Option fS} : ∀ d k nn (S : fS), k + d = C.1 → d < nn → okD F.length E C → cwC S c (cOb F E Q C k) → twC S t F E → rWm S (t + 6) F.length (dst E) → cdC S p (ccode Q) → ∃ T, lp_X0_obey_2 c t p K nn (o3 k) S = K T ∧ cwC T c (cOb F E Q C C.1) ∧ eG c p S T := by
  intro d
  induction d with
  | zero =>
    intro k nn S hk hnn hC hS hT hW hD
    obtain ⟨nn, rfl⟩ : ∃ z, nn = z + 1 := ⟨nn - 1, by omega⟩
    obtain ⟨o1, o2, o3'⟩ := cOb_ok (Q := Q) hC hE hm k (by omega)
    have h8 := hC.1
    rw [lp_X0_obey_2.eq_2, hS.1, o2, if_pos ((o3_le (by omega) (by omega)).mpr (by omega))]
    rw [show k = C.1 by omega] at hS
    exact ⟨S, rfl, hS, eG.rf⟩
  | succ d ih =>
    intro k nn S hk hnn hC hS hT hW hD
    obtain ⟨nn, rfl⟩ : ∃ z, nn = z + 1 := ⟨nn - 1, by omega⟩
    obtain ⟨o1, o2, o4⟩ := cOb_ok (Q := Q) hC hE hm k (by omega)
    have h8 := hC.1
    have h9 := hC.2.1
    have hs : cOb F E Q C (k + 1) = cOb1 F E Q (cOb F E Q C k) k := rfl
    generalize hCk : cOb F E Q C k = Ck at hS o1 o2 o4 hs
    obtain ⟨k1, k2, k3, k4, k5⟩ := hS.2.2 k (by omega)
    rw [lp_X0_obey_2.eq_2, hS.1, o2, if_neg (fun q => by have := (o3_le (by omega) (by omega)).mp q; omega), o3_s]
    unfold f_X0_isStanding
    rw [gI_o (by omega) (by omega), bd_some, k1]
    unfold cOb1 at hs
    by_cases h0 : Ck.2.2.1 k < 0
    · rw [if_pos h0] at hs ⊢
      rw [bd_some, if_pos rfl]
      exact ih (k + 1) nn S (by omega) (by omega) hC (by rw [hs]; exact hS) hT hW hD
    · rw [if_neg h0] at hs ⊢
      obtain ⟨f, f1, f2⟩ := okT_nn (o1.2.2 k (by omega)).1 hm h0
      rw [bd_some, if_neg (show ¬ (1 : Int32) = 0 by decide)]
      obtain ⟨T1, t1, t2⟩ := c_goal (S := S) (p := p) (t0 := t) (c0 := c) (th := o3 k) (W := wd F Ck k) (Q := Q) (fun U hU v hv => c_word (cwC_eq hS (fun a j x y => hU.1 a j (by omega)) (fun j => hU.2 _ j (by omega))) (twC_eq hT (fun a j x y => hU.1 a j (by omega)) (fun a j x y => hU.2 a j (by omega))) hF (by omega) (by omega) hm (by omega) f1 f2 hv) hD hQ
      have hS1 : cwC T1 c Ck := cwC_eq hS (fun a j x y => t2.1 a j (by omega)) (fun j => t2.2 _ j (by omega))
      have hT1 : twC T1 t F E := twC_eq hT (fun a j x y => t2.1 a j (by omega)) (fun a j x y => t2.2 a j (by omega))
      have hW1 : rWm T1 (t + 6) F.length (dst E) := rWm_eq hW (fun j => t2.1 _ j (by omega))
      have hD1 : cdC T1 p (ccode Q) := cdC_eq hD (t2.1 _ _ (by omega)) (fun j => t2.1 _ j (by omega))
      rw [t1, bd_some]
      dsimp only
      rw [hT1.1, from_o (by omega), bd_some]
      by_cases hg : 0 ≤ (gl (wd F Ck k) Q).toInt ∧ (gl (wd F Ck k) Q).toInt < F.length
      · rw [if_pos hg] at hs
        rw [if_pos hg, if_neg (show ¬ (1 : Int32) = 0 by decide), gI_o (by omega) (by omega), bd_some, (hS1.2.2 k (by omega)).1, f2]
        rw [f2, o3_nat (by omega)] at hs
        obtain ⟨g, g1, g2⟩ := o3_ex hg.1
        rw [g1, ch_first hT1 hW1 hE hm hl f1 (by omega), bd_some]
        rw [g1, o3_nat (by omega)] at hs
        unfold fsI
        cases hfs : fS1 E f g with
        | none =>
          rw [hfs] at hs
          have hso : f_X0_setOff c t (o3 k) (-1) T1 = some (0, T1) := by
            unfold f_X0_setOff
            rw [if_neg (by decide), if_neg (by decide)]
          dsimp only at hs ⊢
          rw [hso, bd_some]
          obtain ⟨T, a1, a2, a3⟩ := ih (k + 1) nn T1 (by omega) (by omega) hC (by rw [hs]; exact hS1) hT1 hW1 hD1
          exact ⟨T, a1, a2, (eG_K t2).tr a3⟩
        | some s =>
          rw [hfs] at hs
          dsimp only at hs ⊢
          unfold fS1 at hfs
          split at hfs
          · exact nomatch hfs
          · obtain ⟨x, y, z⟩ := fsf_pr _ _ _ hfs
            have hsl : s < E.length := by omega
            obtain ⟨T2, b1, b2, b3⟩ := ch_off hS1 (by omega) hT1 hE hm hl (th := k) (k := s) (a := f) (by omega) hsl f1 f2
            rw [b1, bd_some, if_neg (oe_hk (hE _ (gd_mem (d := d5) hsl)) hm z)]
            have b3 := b3 p
            obtain ⟨T, a1, a2, a3⟩ := ih (k + 1) nn T2 (by omega) (by omega) hC (by rw [hs]; exact b2) (twC_eq hT1 (fun a j x y => b3.1 a j (by omega) (by omega) (by omega)) (fun a j x y => b3.2 a j (by omega) (by omega))) (rWm_eq hW1 (fun j => b3.1 _ j (by omega) (by omega) (by omega))) (cdC_eq hD1 (b3.1 _ _ (by omega) (by omega) (by omega)) (fun j => b3.1 _ j (by omega) (by omega) (by omega)))
            exact ⟨T, a1, a2, ((eG_K t2).tr b3).tr a3⟩
      · rw [if_neg hg] at hs
        rw [if_neg hg, if_pos rfl]
        obtain ⟨T, a1, a2, a3⟩ := ih (k + 1) nn T1 (by omega) (by omega) hC (by rw [hs]; exact hS1) hT1 hW1 hD1
        exact ⟨T, a1, a2, (eG_K t2).tr a3⟩
end CH
end
noncomputable section
/-! the class: an hour passes; hours lived -/
def rowC (S : fS) (c : Nat) (C : Cw) (k : Nat) : Prop := S.1 (c + 1) k = C.2.2.1 k ∧ S.1 (c + 2) k = C.2.2.2.1 k ∧ S.1 (c + 3) k = C.2.2.2.2.1 k ∧ S.1 (c + 4) k = C.2.2.2.2.2.1 k ∧ S.2 (c + 5) k = C.2.2.2.2.2.2 k
section CP
variable {t c : Nat} {F : List (Nat × Nat)} {E : List St5} {C : Cw}
theorem cp_loop (htc : t + 6 < c) (hF : ∀ q ∈ F, okF q) (hE : ∀ q ∈ E, okS F.length q) (hm : F.length ≤ 10) (hl : E.length ≤ 12) (hC : okD F.length E C) {K : fS → Option fS} : ∀ d k nn (S : fS), k + d = C.1 → d < nn → S.1 c 5 = o3 C.1 → (∀ j, j < k → rowC S c (cPs F E C) j) → (∀ j, k ≤ j → j < C.1 → rowC S c C j) → twC S t F E → ∃ T, lp_X0_passHour_2 c t K nn (o3 k) S = K T ∧ (∀ j, j < C.1 → rowC T c (cPs F E C) j) ∧ (∀ a j, ¬ (c + 1 ≤ a ∧ a ≤ c + 4) → T.1 a j = S.1 a j) ∧ (∀ a j, a ≠ c + 5 → T.2 a j = S.2 a j) := by
  intro d
  induction d with
  | zero =>
    intro k nn S hk hnn h5 hn ho hT
    obtain ⟨nn, rfl⟩ : ∃ z, nn = z + 1 := ⟨nn - 1, by omega⟩
    have h8 := hC.1
    rw [lp_X0_passHour_2.eq_2, h5, if_pos ((o3_le (by omega) (by omega)).mpr (by omega))]
    exact ⟨S, rfl, fun j hj => hn j (by omega), fun _ _ _ => rfl, fun _ _ _ => rfl⟩
  | succ d ih =>
    intro k nn S hk hnn h5 hn ho hT
    obtain ⟨nn, rfl⟩ : ∃ z, nn = z + 1 := ⟨nn - 1, by omega⟩
    have h8 := hC.1
    obtain ⟨k1, k2, k3, k4, k5⟩ := ho k (Nat.le_refl _) (by omega)
    obtain ⟨d1, d2, d3⟩ := hC.2.2 k (by omega)
    rw [lp_X0_passHour_2.eq_2, h5, if_neg (fun q => by have := (o3_le (by omega) (by omega)).mp q; omega), o3_s]
    unfold f_X0_isStanding
    rw [gI_o (by omega) (by omega), bd_some, k1]
    have nxt : ∀ S1 : fS, rowC S1 c (cPs F E C) k → (∀ a j, ¬ (c + 1 ≤ a ∧ a ≤ c + 4 ∧ j = k) → S1.1 a j = S.1 a j) → (∀ a j, ¬ (a = c + 5 ∧ j = k) → S1.2 a j = S.2 a j) → ∃ T, lp_X0_passHour_2 c t K nn (o3 (k + 1)) S1 = K T ∧ (∀ j, j < C.1 → rowC T c (cPs F E C) j) ∧ (∀ a j, ¬ (c + 1 ≤ a ∧ a ≤ c + 4) → T.1 a j = S.1 a j) ∧ (∀ a j, a ≠ c + 5 → T.2 a j = S.2 a j) := by
      intro S1 hr f1 f2
      have hrow : ∀ C' j, j ≠ k → rowC S c C' j → rowC S1 c C' j := fun C' j hj ⟨r1, r2, r3, r4, r5⟩ => ⟨(f1 _ _ (by omega)).trans r1, (f1 _ _ (by omega)).trans r2, (f1 _ _ (by omega)).trans r3, (f1 _ _ (by omega)).trans r4, (f2 _ _ (by omega)).trans r5⟩
      obtain ⟨T, t1, t2, t3, t4⟩ := ih (k + 1) nn S1 (by omega) (by omega) ((f1 c 5 (by omega)).trans h5) (fun j hj => by
        by_cases e : j = k
        · rw [e]; exact hr
        · exact hrow _ j e (hn j (by omega))) (fun j hj hj2 => hrow _ j (by omega) (ho j (by omega) hj2)) (twC_eq hT (fun a j x y => f1 a j (by omega)) (fun a j x y => f2 a j (by omega)))
      exact ⟨T, t1, t2, fun a j h => (t3 a j h).trans (f1 a j (by omega)), fun a j h => (t4 a j h).trans (f2 a j (by omega))⟩
    rcases d1 with ⟨f, e1, e2, e3, e4, e5⟩ | ⟨s, j, f, e1, e2, e3, e4, e5, e6, e7⟩
    · have h0 : ¬ C.2.2.1 k < 0 := by rw [e2]; exact o3_nn (by omega)
      rw [if_neg h0, bd_some, if_neg (show ¬ (1 : Int32) = 0 by decide), gL_o (by omega) (by omega), bd_some, bd_some, e2, gL_o (by omega) (by omega), bd_some, hT.2.2.1 f e1, k5, sL_o (by omega) (by omega), bd_some]
      refine nxt _ ?_ (fun _ _ _ => rfl) (fun a j h => pL_ne h)
      unfold rowC cPs
      dsimp only
      rw [if_neg h0, if_neg h0, if_neg h0, if_neg h0, if_neg h0, pL_eq, e2, o3_nat (by omega)]
      exact ⟨k1.trans e2, k2, k3, k4, rfl⟩
    · have h0 : C.2.2.1 k < 0 := by rw [e2]; decide
      obtain ⟨s1, s2, s3, s4, s5, s6⟩ := hE _ (gd_mem (d := d5) e1)
      obtain ⟨w1, w2, w3, w4⟩ := hT.2.2.2 s e1
      have hst : stays E C k ↔ j + 1 < (E.getD s d5).2.2.1 := by
        unfold stays
        rw [e3, e4, o3_s, o3_nat (by omega), o3_lt (by omega) (by omega)]
      rw [if_pos h0, bd_some, if_pos rfl, gI_o (by omega) (by omega), bd_some, k2, e3, gL_o (by omega) (by omega), bd_some, gL_o (by omega) (by omega), bd_some, w4, k5, sL_o (by omega) (by omega), bd_some, gI_o (by omega) (by omega), bd_some, pL_1, k3, e4, o3_s, sI_o (by omega) (by omega), bd_some, gI_o (by omega) (by omega), bd_some, pI_eq, gI_o (by omega) (by omega), bd_some, pI_ne (by omega), pL_1, w3]
      by_cases hs : j + 1 < (E.getD s d5).2.2.1
      · rw [if_pos ((o3_lt (by omega) (by omega)).mpr hs)]
        refine nxt _ ?_ (fun a i h => by rw [pI_ne (by omega)]; rfl) (fun a i h => pL_ne h)
        unfold rowC cPs
        dsimp only
        rw [if_pos h0, if_pos h0, if_pos h0, if_pos h0, if_pos h0, if_pos (hst.mpr hs), if_pos (hst.mpr hs), if_pos (hst.mpr hs), if_pos (hst.mpr hs), pI_ne (by omega), pI_ne (by omega), pI_eq, pI_ne (by omega), e4, o3_s, e3, o3_nat (by omega)]
        exact ⟨k1, k2.trans e3, rfl, k4, pL_eq⟩
      · rw [if_neg (fun q => hs ((o3_lt (by omega) (by omega)).mp q)), gI_o (by omega) (by omega), bd_some, pI_ne (by omega), pL_1, k4, e6]
        unfold f_X0_putOn
        rw [sI_o (by omega) (by omega), bd_some, sI_o (by omega) (by omega), bd_some, sI_o (by omega) (by omega), bd_some, sI_o (by omega) (by omega), bd_some, bd_some]
        refine nxt _ ?_ (fun a i h => by rw [pI_ne (by omega), pI_ne (by omega), pI_ne (by omega), pI_ne (by omega), pI_ne (by omega)]; rfl) (fun a i h => pL_ne h)
        unfold rowC cPs
        dsimp only
        have hns : ¬ stays E C k := fun q => hs (hst.mp q)
        rw [if_pos h0, if_pos h0, if_pos h0, if_pos h0, if_pos h0, if_neg hns, if_neg hns, if_neg hns, if_neg hns, pI_eq, e6]
        refine ⟨?_, ?_, ?_, rfl, ?_⟩
        · rw [pI_ne (by omega), pI_ne (by omega), pI_ne (by omega), pI_eq]
        · rw [pI_ne (by omega), pI_ne (by omega), pI_eq]
        · rw [pI_ne (by omega), pI_eq]
        · rw [e3, o3_nat (by omega)]; exact pL_eq
theorem c_pass {S : fS} (htc : t + 6 < c) (hF : ∀ q ∈ F, okF q) (hE : ∀ q ∈ E, okS F.length q) (hm : F.length ≤ 10) (hl : E.length ≤ 12) (hC : okD F.length E C) (hS : cwC S c C) (hT : twC S t F E) : ∃ T, f_X0_passHour c t S = some T ∧ cwC T c (cPs F E C) ∧ ∀ p, eG c p S T := by
  unfold f_X0_passHour
  obtain ⟨T, t1, t2, t3, t4⟩ := cp_loop htc hF hE hm hl hC (K := fun S49 => (some (pI S49 c 6 ((S49.1 c 6) + (1 : Int32)))).bind fun S51 => some S51) C.1 0 FU S (by omega) (FU_lt (by have := hC.1; omega)) hS.1 (fun j hj => absurd hj (Nat.not_lt_zero _)) (fun j _ hj => hS.2.2 j hj) hT
  have t1' : lp_X0_passHour_2 c t (fun S49 => (some (pI S49 c 6 ((S49.1 c 6) + (1 : Int32)))).bind fun S51 => some S51) FU (0 : Int32) S = (fun S49 => (some (pI S49 c 6 ((S49.1 c 6) + (1 : Int32)))).bind fun S51 => some S51) T := t1
  rw [t1']
  dsimp only
  rw [bd_some, t3 c 6 (by omega), hS.2.1, o3_s]
  refine ⟨_, rfl, ⟨?_, ?_, fun k hk => ?_⟩, fun p => ⟨fun a j h1 h2 _ => ?_, fun a j h1 _ => t4 a j h1⟩⟩
  · rw [pI_ne (by omega), t3 c 5 (by omega)]; exact hS.1
  · rw [pI_eq]; rfl
  · obtain ⟨r1, r2, r3, r4, r5⟩ := t2 k hk
    rw [pI_ne (by omega), pI_ne (by omega), pI_ne (by omega), pI_ne (by omega)]
    exact ⟨r1, r2, r3, r4, r5⟩
  · rw [pI_ne h2, t3 a j h1]
theorem lv_n {v x : Int32} {K : fS → Option fS} {n : Nat} {S : fS} : lp_X0_live_3 c t none v K (n + 1) x S = if v ≤ x then K S else ((f_X0_passHour c t S).bind fun q3 => lp_X0_live_3 c t none v K n (x + 1) q3) := rfl
theorem lv_s {r : Nat} {v x : Int32} {K : fS → Option fS} {n : Nat} {S : fS} : lp_X0_live_3 c t (some r) v K (n + 1) x S = if v ≤ x then K S else ((f_X0_obey c t r S).bind fun q6 => (f_X0_passHour c t q6).bind fun q9 => lp_X0_live_3 c t (some r) v K n (x + 1) q9) := rfl
/-- the rule by which one lives, where the class holds it -/
def ruC (S : fS) (p : Option Nat) (Q : Option (List Cl)) : Prop := (p = none ∧ Q = none) ∨ ∃ r L, p = some r ∧ Q = some L ∧ cdC S r (ccode L) ∧ okRu L
theorem c_live {p : Option Nat} {Q : Option (List Cl)} (htc : t + 6 < c) (hcp : c + 5 < p.getD 127) (hF : ∀ q ∈ F, okF q) (hE : ∀ q ∈ E, okS F.length q) (hm : F.length ≤ 10) (hl : E.length ≤ 12) {h : Nat} (hh : h < 2147483648) {K : fS → Option fS} : ∀ d k nn (S : fS) (C : Cw), k + d = h → d < nn → okD F.length E C → C.2.1 + d ≤ 10199 → cwC S c C → twC S t F E → rWm S (t + 6) F.length (dst E) → ruC S p Q → ∃ T, lp_X0_live_3 c t p (o3 h) K nn (o3 k) S = K T ∧ cwC T c (cHrs F E Q d C) ∧ eG c (p.getD 127) S T := by
  intro d
  induction d with
  | zero =>
    intro k nn S C hk hnn hC h9 hS hT hW hR
    obtain ⟨nn, rfl⟩ : ∃ z, nn = z + 1 := ⟨nn - 1, by omega⟩
    have hle : o3 h ≤ o3 k := (o3_le (by omega) (by omega)).mpr (by omega)
    cases p with
    | none => rw [lv_n, if_pos hle]; exact ⟨S, rfl, hS, eG.rf⟩
    | some r => rw [lv_s, if_pos hle]; exact ⟨S, rfl, hS, eG.rf⟩
  | succ d ih =>
    intro k nn S C hk hnn hC h9 hS hT hW hR
    obtain ⟨nn, rfl⟩ : ∃ z, nn = z + 1 := ⟨nn - 1, by omega⟩
    have hle : ¬ o3 h ≤ o3 k := fun q => by have := (o3_le (by omega) (by omega)).mp q; omega
    rcases hR with ⟨rfl, rfl⟩ | ⟨r, L, rfl, rfl, hD, hL⟩
    · obtain ⟨T1, a1, a2, a3⟩ := c_pass htc hF hE hm hl hC hS hT
      have a3 := a3 127
      have hcp : c + 5 < 127 := hcp
      rw [lv_n, if_neg hle, o3_s, a1, bd_some]
      obtain ⟨b1, b2, b3⟩ := cHr_ok (Q := none) hC hF hE hm hl (by omega)
      obtain ⟨T, c1, c2, c3⟩ := ih (k + 1) nn T1 (cHr F E none C) (by omega) (by omega) b1 (by omega) a2 (twC_eq hT (fun a j x y => a3.1 a j (by omega) (by omega) (by omega)) (fun a j x y => a3.2 a j (by omega) (by omega))) (rWm_eq hW (fun j => a3.1 _ j (by omega) (by omega) (by omega))) (Or.inl ⟨rfl, rfl⟩)
      exact ⟨T, c1, c2, a3.tr c3⟩
    · have hcp : c + 5 < r := hcp
      obtain ⟨T0, z1, z2, z3⟩ := ch_obey (K := fun S22 => some S22) htc hcp hF hE hm hl hL C.1 0 FU S (by omega) (FU_lt (by have := hC.1; omega)) hC hS hT hW hD
      have z1' : f_X0_obey c t r S = some T0 := z1
      obtain ⟨o1, o2, o4⟩ := cOb_ok (Q := L) hC hE hm C.1 (Nat.le_refl _)
      have hT0 := twC_eq hT (fun a j x y => z3.1 a j (by omega) (by omega) (by omega)) (fun a j x y => z3.2 a j (by omega) (by omega))
      obtain ⟨T1, a1, a2, a3⟩ := c_pass htc hF hE hm hl o1 z2 hT0
      have a3 := z3.tr (a3 r)
      rw [lv_s, if_neg hle, o3_s, z1', bd_some, a1, bd_some]
      obtain ⟨b1, b2, b3⟩ := cHr_ok (Q := some L) hC hF hE hm hl (by omega)
      obtain ⟨T, c1, c2, c3⟩ := ih (k + 1) nn T1 (cHr F E (some L) C) (by omega) (by omega) b1 (by omega) a2 (twC_eq hT (fun a j x y => a3.1 a j (by omega) (by omega) (by omega)) (fun a j x y => a3.2 a j (by omega) (by omega))) (rWm_eq hW (fun j => a3.1 _ j (by omega) (by omega) (by omega))) (Or.inr ⟨r, L, rfl, rfl, cdC_eq hD (a3.1 _ _ (by omega) (by omega) (by omega)) (fun j => a3.1 _ j (by omega) (by omega) (by omega)), hL⟩)
      exact ⟨T, c1, c2, a3.tr c3⟩
end CP
end
noncomputable section
/-! the reference: an hour -/
def eI (S T : fS) : Prop := (∀ a k, ¬ (a = 157 ∧ (k = 3 ∨ (90 ≤ k ∧ k < 122))) → ¬ (a = 145 ∧ k = 23) → T.1 a k = S.1 a k) ∧ (∀ a k, a ≠ 155 → a ≠ 156 → a ≠ 158 → T.2 a k = S.2 a k)
theorem eI.rf {S : fS} : eI S S := ⟨fun _ _ _ _ => rfl, fun _ _ _ _ _ => rfl⟩
theorem eI.tr {S T U : fS} (h : eI S T) (g : eI T U) : eI S U := ⟨fun a k x y => (g.1 a k x y).trans (h.1 a k x y), fun a k x y z => (g.2 a k x y z).trans (h.2 a k x y z)⟩
theorem eI_J {S T : fS} (h : eJ S T) : eI S T := ⟨fun a k _ y => h.1 a k y, fun a k x _ _ => h.2 a k x⟩
theorem eI_W {S T : fS} (h : eW S T) : eI S T := ⟨fun a k _ _ => by rw [h.1], fun a k _ y _ => h.2 a k y⟩
theorem twM_eq {I J : Nat → Int32} {F : List (Nat × Nat)} {E : List St5} (hF : F.length ≤ 10) (hE : E.length ≤ 12) (h : twM I F E) (h1 : ∀ k, k < 2 ∨ (10 ≤ k ∧ k < 90) → J k = I k) : twM J F E := by
  obtain ⟨a, b, c, d⟩ := h
  refine ⟨(h1 _ (by omega)).trans a, (h1 _ (by omega)).trans b, fun k hk => ?_, fun k hk => ?_⟩
  · obtain ⟨e1, e2⟩ := c k hk
    exact ⟨(h1 _ (by omega)).trans e1, (h1 _ (by omega)).trans e2⟩
  · obtain ⟨e1, e2, e3, e4, e5⟩ := d k hk
    exact ⟨(h1 _ (by omega)).trans e1, (h1 _ (by omega)).trans e2, (h1 _ (by omega)).trans e3, (h1 _ (by omega)).trans e4, (h1 _ (by omega)).trans e5⟩
theorem rHm_eq {S T : fS} {m : Nat} {w : Mx} (h : rHm S m w) (h1 : ∀ k, T.2 161 k = S.2 161 k) : rHm T m w := fun a b ha hb => (h1 _).trans (h a b ha hb)
theorem cdM_eq {S T : fS} {x : Nat} {L : List Cl} (h : cdM S x L) (h1 : ∀ a k, a = 147 ∨ (a = 148 ∧ k = x) ∨ a = 149 ∨ a = 150 → T.1 a k = S.1 a k) : cdM T x L := by
  obtain ⟨a, b, c, d, e, f⟩ := h
  exact ⟨clM_eq a (h1 _ _ (by omega)) (fun k _ => h1 _ _ (by omega)), b, (h1 _ _ (by omega)).trans c, d, e, fun k hk => (h1 _ _ (by omega)).trans (f k hk)⟩
section MHR
variable {S : fS} {F : List (Nat × Nat)} {E : List St5} {C : Cw}
theorem mh_stair (hT : twM (S.1 157) F E) (hl : E.length ≤ 12) {k : Nat} (hk : k < E.length) : f_X11_stairOf (o3 k) (o3 0) S = some (o3 (E.getD k d5).1) ∧ f_X11_stairOf (o3 k) (o3 1) S = some (o3 (E.getD k d5).2.1) ∧ f_X11_stairOf (o3 k) (o3 2) S = some (o3 (E.getD k d5).2.2.1) ∧ f_X11_stairOf (o3 k) (o3 3) S = some (o3 (E.getD k d5).2.2.2.1) ∧ f_X11_stairOf (o3 k) (o3 4) S = some (o3 (E.getD k d5).2.2.2.2) := by
  obtain ⟨e1, e2, e3, e4, e5⟩ := hT.2.2.2 k hk
  have key : ∀ a, a < 5 → f_X11_stairOf (o3 k) (o3 a) S = some (S.1 157 (30 + 5 * k + a)) := fun a ha => by
    unfold f_X11_stairOf
    rw [show (30 : Int32) = o3 30 from rfl, show (5 : Int32) = o3 5 from rfl, o3_mul, o3_add, o3_add, gI_o (by omega) (by omega), bd_some]
  rw [key 0 (by omega), key 1 (by omega), key 2 (by omega), key 3 (by omega), key 4 (by omega)]
  exact ⟨by rw [Nat.add_zero, e1], by rw [← e2], by rw [← e3], by rw [← e4], by rw [← e5]⟩
theorem mh_other (hT : twM (S.1 157) F E) (hE : ∀ q ∈ E, okS F.length q) (hm : F.length ≤ 10) (hl : E.length ≤ 12) {k a : Nat} (hk : k < E.length) (ha : a < 2147483648) : f_X11_otherEnd (o3 k) (o3 a) S = some (oeI (E.getD k d5) a) := by
  obtain ⟨s1, s2, _⟩ := hE _ (gd_mem (d := d5) hk)
  obtain ⟨e1, e2, _⟩ := mh_stair hT hl hk
  have e1 : f_X11_stairOf (o3 k) 0 S = some (o3 (E.getD k d5).1) := e1
  have e2 : f_X11_stairOf (o3 k) 1 S = some (o3 (E.getD k d5).2.1) := e2
  unfold f_X11_otherEnd oeI
  rw [e1, bd_some, e2, bd_some, bd_some, bd_some]
  by_cases h : (E.getD k d5).1 = a
  · rw [if_pos ((o3_inj (by omega) ha).mpr h), if_pos h]
  · rw [if_neg (fun q => h ((o3_inj (by omega) ha).mp q)), if_neg h]
    by_cases g : (E.getD k d5).2.1 = a
    · rw [if_pos ((o3_inj (by omega) ha).mpr g), if_pos g]
    · rw [if_neg (fun q => g ((o3_inj (by omega) ha).mp q)), if_neg g]
theorem mh_btw {m : Nat} (hW : rHm S m (dst E)) (hm : m ≤ 10) {a b : Nat} (ha : a < m) (hb : b < m) : f_X11_between (o3 a) (o3 b) S = some (o6 (dst E a b)) := by
  unfold f_X11_between
  rw [show (10 : Int32) = o3 10 from rfl, o3_mul, o3_add, gL_o (by omega) (by omega), bd_some, hW a b ha hb]
def fsJ (E : List St5) (a b : Nat) : Int32 := match fS1 E a b with
  | some k => o3 k
  | none => -2
theorem mh_next (hT : twM (S.1 157) F E) (hW : rHm S F.length (dst E)) (hE : ∀ q ∈ E, okS F.length q) (hm : F.length ≤ 10) (hl : E.length ≤ 12) {a b : Nat} (ha : a < F.length) (hb : b < F.length) : f_X11_nextStair (o3 a) (o3 b) S = some (fsJ E a b) := by
  have h9 := dst_9 (E := E) a b
  unfold f_X11_nextStair fsJ
  by_cases hab : a = b
  · rw [if_pos ((o3_inj (by omega) (by omega)).mpr hab)]
    unfold fS1
    rw [if_pos (Or.inl hab)]
  · rw [if_neg (fun q => hab ((o3_inj (by omega) (by omega)).mp q)), mh_btw hW hm ha hb, bd_some]
    by_cases h : dst E a b < 99999
    · rw [if_pos (show o6 (dst E a b) < (99999 : Int64) from (o6_lt (b := 99999) (by omega) (by omega)).mpr h)]
      obtain ⟨j, j1, j2, j3, j4⟩ := fS1_ex hE hm hab h
      rw [j1]
      dsimp only
      have key : ∀ d k nn, d < nn → k + d ≤ E.length → fsf E (dst E) a b d k = some j → lp_X11_nextStair_23 (o3 a) (o3 b) S (fun u23 => some u23) nn (o3 k) = some (o3 j) := by
        intro d
        induction d with
        | zero => intro k nn _ _ q; exact nomatch q
        | succ d ih =>
          intro k nn hnn hkd q
          obtain ⟨nn, rfl⟩ : ∃ z, nn = z + 1 := ⟨nn - 1, by omega⟩
          have hkl : k < E.length := by omega
          have hq := hE _ (gd_mem (d := d5) hkl)
          have h9 := hq.2.2.2.2.1
          have e3 : f_X11_stairOf (o3 k) 2 S = some (o3 (E.getD k d5).2.2.1) := (mh_stair hT hl hkl).2.2.1
          rw [show fsf E (dst E) a b (d + 1) k = if hk (E.getD k d5) (dst E) a b then some k else fsf E (dst E) a b d (k + 1) from rfl] at q
          rw [lp_X11_nextStair_23.eq_2, mh_other hT hE hm hl hkl (by omega), bd_some, o3_s]
          rcases oe_or (a := a) hq hm with ⟨o, o1, o2, o3'⟩ | ⟨o2, n1, n2⟩
          · have ho9 := dst_9 (E := E) o b
            rw [o2, if_neg (o3_nn (by omega)), e3, bd_some, bd_some, mh_btw hW hm o1 hb, bd_some, mh_btw hW hm ha hb, bd_some, o6_of3 (by omega), o6_add]
            have heq : o6 ((E.getD k d5).2.2.1 + dst E o b) = o6 (dst E a b) ↔ hk (E.getD k d5) (dst E) a b := by
              rw [o6_inj (by omega) (by omega)]
              constructor
              · intro z
                rcases o3' with ⟨w1, w2⟩ | ⟨w1, w2, w3⟩
                · exact Or.inl ⟨w1, by rw [← w2]; omega, by rw [← w2]; exact z⟩
                · exact Or.inr ⟨w1, w2, by rw [← w3]; omega, by rw [← w3]; exact z⟩
              · intro z
                rcases z with ⟨q1, _, q2⟩ | ⟨q1, q2, _, q3⟩
                · rcases o3' with ⟨_, w⟩ | ⟨w, _⟩
                  · rw [w]; exact q2
                  · exact absurd q1 w
                · rcases o3' with ⟨w, _⟩ | ⟨_, _, w⟩
                  · exact absurd w q1
                  · rw [w]; exact q3
            by_cases hx : hk (E.getD k d5) (dst E) a b
            · rw [if_pos hx] at q
              obtain rfl := Option.some.inj q
              rw [if_pos (heq.mpr hx)]
            · rw [if_neg hx] at q
              rw [if_neg (fun z => hx (heq.mp z))]
              exact ih (k + 1) nn (by omega) (by omega) q
          · rw [if_neg (fun z => by
              rcases z with ⟨q1, _⟩ | ⟨_, q2, _⟩
              · exact n1 q1
              · exact n2 q2)] at q
            rw [o2, if_pos (show (-1 : Int32) < 0 by decide)]
            exact ih (k + 1) nn (by omega) (by omega) q
      exact key E.length 0 FU (FU_lt (by omega)) (by omega) j2
    · rw [if_neg (show ¬ o6 (dst E a b) < (99999 : Int64) from fun q => h ((o6_lt (b := 99999) (by omega) (by omega)).mp q))]
      unfold fS1
      rw [if_pos (Or.inr (by omega))]
theorem mh_off (hC : cwM (S.1 157) (S.2 158) C) (h8 : C.1 ≤ 8) (hT : twM (S.1 157) F E) (hE : ∀ q ∈ E, okS F.length q) (hm : F.length ≤ 10) (hl : E.length ≤ 12) {th k a : Nat} (hth : th < C.1) (hk : k < E.length) (ha : a < F.length) (hp : C.2.2.1 th = o3 a) : ∃ T, f_X11_setsOff (o3 th) (o3 k) S = some T ∧ cwM (T.1 157) (T.2 158) (cOff C th k (oeI (E.getD k d5) a)) ∧ eI S T := by
  obtain ⟨k1, k2, k3, k4, k5⟩ := hC.2.2 th hth
  unfold f_X11_setsOff
  have e90 : (90 : Int32) + ((4 : Int32) * o3 th) = o3 (90 + 4 * th) := by rw [show (90 : Int32) = o3 90 from rfl, show (4 : Int32) = o3 4 from rfl, o3_mul, o3_add]
  have e91 : o3 (90 + 4 * th) + (1 : Int32) = o3 (90 + 4 * th + 1) := o3_s
  have e92 : o3 (90 + 4 * th) + (2 : Int32) = o3 (90 + 4 * th + 2) := by rw [show (2 : Int32) = o3 2 from rfl, o3_add]
  have e93 : o3 (90 + 4 * th) + (3 : Int32) = o3 (90 + 4 * th + 3) := by rw [show (3 : Int32) = o3 3 from rfl, o3_add]
  rw [e90, e91, e92, e93, gI_o (by omega) (by omega), bd_some, k1, hp, mh_other hT hE hm hl hk (by omega), bd_some, sI_o (by omega) (by omega), bd_some, sI_o (by omega) (by omega), bd_some, sI_o (by omega) (by omega), bd_some, sI_o (by omega) (by omega), bd_some]
  refine ⟨_, rfl, ⟨?_, ?_, fun j hj => ?_⟩, fun b j x y => ?_, fun _ _ _ _ _ => rfl⟩
  · rw [pI_ne (by omega), pI_ne (by omega), pI_ne (by omega), pI_ne (by omega)]; exact hC.1
  · rw [pI_ne (by omega), pI_ne (by omega), pI_ne (by omega), pI_ne (by omega)]; exact hC.2.1
  · obtain ⟨j1, j2, j3, j4, j5⟩ := hC.2.2 j hj
    have hj8 : j < C.1 := hj
    show _ = udN _ th _ j ∧ _ = udN _ th _ j ∧ _ = udN _ th _ j ∧ _ = udN _ th _ j ∧ _
    by_cases e : j = th
    · subst e
      rw [udN_eq, udN_eq, udN_eq, udN_eq]
      refine ⟨?_, ?_, ?_, ?_, j5⟩
      · rw [pI_ne (by omega), pI_ne (by omega), pI_eq]
      · rw [pI_ne (by omega), pI_eq]
      · rw [pI_eq]
      · rw [pI_ne (by omega), pI_ne (by omega), pI_ne (by omega), pI_eq]
    · rw [udN_ne e, udN_ne e, udN_ne e, udN_ne e]
      refine ⟨?_, ?_, ?_, ?_, j5⟩
      · rw [pI_ne (by omega), pI_ne (by omega), pI_ne (by omega), pI_ne (by omega)]; exact j1
      · rw [pI_ne (by omega), pI_ne (by omega), pI_ne (by omega), pI_ne (by omega)]; exact j2
      · rw [pI_ne (by omega), pI_ne (by omega), pI_ne (by omega), pI_ne (by omega)]; exact j3
      · rw [pI_ne (by omega), pI_ne (by omega), pI_ne (by omega), pI_ne (by omega)]; exact j4
  · rw [pI_ne (by omega), pI_ne (by omega), pI_ne (by omega), pI_ne (by omega)]
theorem m_sent {x th : Nat} {Q : List Cl} (hx : x < 6) (hC : cwM (S.1 157) (S.2 158) C) (hT : twM (S.1 157) F E) (hF : ∀ q ∈ F, okF q) (h8 : C.1 ≤ 8) (h9 : C.2.1 ≤ 10199) (h10 : F.length ≤ 10) (hth : th < C.1) {f : Nat} (hf : f < F.length) (hp : C.2.2.1 th = o3 f) (hD : cdM S x Q) : ∃ T, f_X11_sent (o3 x) (o3 th) S = some (gl (wd F C th) Q, T) ∧ (∀ a k, ¬ (a = 145 ∧ k = 23) → T.1 a k = S.1 a k) ∧ (∀ a k, a ≠ 155 → a ≠ 156 → T.2 a k = S.2 a k) := by
  obtain ⟨T1, a1, a2, a3⟩ := m_words hC hT hF h8 h9 h10 hth hf hp
  unfold f_X11_sent
  rw [a1, bd_some]
  have hD1 : cdM T1 x ([] ++ Q) := cdM_eq hD (fun a k _ => by rw [a2.1])
  obtain ⟨T, b1, b2⟩ := mk_sent (W := wd F C th) hx a3 Q [] FU T1 hD1 eJ.rf (FU_lt (by have := hD.2.1; omega))
  exact ⟨T, b1, fun a k h => by rw [b2.1 a k h, a2.1], fun a k h h' => by rw [b2.2 a k h, a2.2 a k h']⟩
theorem mF_o (hT : S.1 157 0 = o3 F.length) (hm : F.length ≤ 10) {v : Int32} : f_X11_isFloor v S = some (if 0 ≤ v.toInt ∧ v.toInt < F.length then 1 else 0) := by
  unfold f_X11_isFloor
  by_cases h : v < 0
  · rw [if_pos h, if_neg (by rw [ni_lt, ni_0] at h; omega)]
  · rw [if_neg h, show (0 : Int32) = o3 0 from rfl, gI_o (by omega) (by omega), bd_some, hT]
    rw [ni_lt, ni_0] at h
    by_cases g : v.toInt < F.length
    · rw [if_neg (by rw [ni_le, o3_int (by omega)]; omega), if_pos ⟨by omega, g⟩]
    · rw [if_pos (by rw [ni_le, o3_int (by omega)]; omega), if_neg (fun q => g q.2)]
theorem mh_obey {x : Nat} {Q : List Cl} (hx : x < 6) (hF : ∀ q ∈ F, okF q) (hE : ∀ q ∈ E, okS F.length q) (hm : F.length ≤ 10) (hl : E.length ≤ 12) (hQ : okRu Q) {K : fS → Option fS} : ∀ d k nn (S : fS), k + d = C.1 → d < nn → okD F.length E C → cwM (S.1 157) (S.2 158) (cOb F E Q C k) → twM (S.1 157) F E → rHm S F.length (dst E) → cdM S x Q → ∃ T, lp_X11_hour_2 (o3 x) K nn (o3 k) S = K T ∧ cwM (T.1 157) (T.2 158) (cOb F E Q C C.1) ∧ eI S T := by
  intro d
  induction d with
  | zero =>
    intro k nn S hk hnn hC hS hT hW hD
    obtain ⟨nn, rfl⟩ : ∃ z, nn = z + 1 := ⟨nn - 1, by omega⟩
    obtain ⟨o1, o2, o4⟩ := cOb_ok (Q := Q) hC hE hm k (by omega)
    have h8 := hC.1
    rw [lp_X11_hour_2.eq_2, show (2 : Int32) = o3 2 from rfl, gI_o (by omega) (by omega), bd_some, hS.1, o2, if_pos ((o3_le (by omega) (by omega)).mpr (by omega))]
    rw [show k = C.1 by omega] at hS
    exact ⟨S, rfl, hS, eI.rf⟩
  | succ d ih =>
    intro k nn S hk hnn hC hS hT hW hD
    obtain ⟨nn, rfl⟩ : ∃ z, nn = z + 1 := ⟨nn - 1, by omega⟩
    obtain ⟨o1, o2, o4⟩ := cOb_ok (Q := Q) hC hE hm k (by omega)
    have h8 := hC.1
    have h9 := hC.2.1
    have hs : cOb F E Q C (k + 1) = cOb1 F E Q (cOb F E Q C k) k := rfl
    generalize hCk : cOb F E Q C k = Ck at hS o1 o2 o4 hs
    obtain ⟨k1, k2, k3, k4, k5⟩ := hS.2.2 k (by omega)
    have hth0 : ∀ U : fS, f_X11_thingOf (o3 k) 0 U = some (U.1 157 (90 + 4 * k)) := fun U => mw_thing (S := U) (a := 0) (by omega) (by omega)
    rw [lp_X11_hour_2.eq_2, show (2 : Int32) = o3 2 from rfl, gI_o (by omega) (by omega), bd_some, hS.1, o2, if_neg (fun q => by have := (o3_le (by omega) (by omega)).mp q; omega), if_neg (o3_nn (by omega)), hth0, bd_some, k1, o3_s]
    unfold cOb1 at hs
    by_cases h0 : Ck.2.2.1 k < 0
    · rw [if_pos h0] at hs
      rw [if_neg (show ¬ (0 : Int32) ≤ Ck.2.2.1 k by rw [ni_lt] at h0; rw [ni_le]; omega)]
      exact ih (k + 1) nn S (by omega) (by omega) hC (by rw [hs]; exact hS) hT hW hD
    · rw [if_neg h0] at hs
      rw [if_pos (show (0 : Int32) ≤ Ck.2.2.1 k by rw [ni_lt] at h0; rw [ni_le]; omega)]
      obtain ⟨f, f1, f2⟩ := okT_nn (o1.2.2 k (by omega)).1 hm h0
      obtain ⟨T1, t1, t2, t3⟩ := m_sent (C := Ck) (th := k) hx hS hT hF (by omega) (by omega) hm (by omega) f1 f2 hD
      have e157 : T1.1 157 = S.1 157 := funext fun j => t2 157 j (by omega)
      have e158 : T1.2 158 = S.2 158 := funext fun j => t3 158 j (by omega) (by omega)
      have hS1 : cwM (T1.1 157) (T1.2 158) Ck := by rw [e157, e158]; exact hS
      have hT1 : twM (T1.1 157) F E := by rw [e157]; exact hT
      have hW1 : rHm T1 F.length (dst E) := rHm_eq hW (fun j => t3 _ j (by omega) (by omega))
      have hD1 : cdM T1 x Q := cdM_eq hD (fun a j _ => t2 a j (by omega))
      have hE1 : eI S T1 := ⟨fun a j _ y => t2 a j y, fun a j y z _ => t3 a j y z⟩
      rw [t1, bd_some]
      dsimp only
      rw [mF_o (F := F) hT1.1 hm, bd_some]
      by_cases hg : 0 ≤ (gl (wd F Ck k) Q).toInt ∧ (gl (wd F Ck k) Q).toInt < F.length
      · rw [if_pos hg] at hs
        rw [if_pos hg, if_neg (show ¬ (1 : Int32) = 0 by decide), hth0, bd_some, (hS1.2.2 k (by omega)).1, f2]
        rw [f2, o3_nat (by omega)] at hs
        obtain ⟨g, g1, g2⟩ := o3_ex hg.1
        rw [g1, mh_next hT1 hW1 hE hm hl f1 (by omega), bd_some]
        rw [g1, o3_nat (by omega)] at hs
        unfold fsJ
        cases hfs : fS1 E f g with
        | none =>
          rw [hfs] at hs
          dsimp only at hs ⊢
          rw [if_pos (show (-2 : Int32) < 0 by decide)]
          obtain ⟨T, a1, a2, a3⟩ := ih (k + 1) nn T1 (by omega) (by omega) hC (by rw [hs]; exact hS1) hT1 hW1 hD1
          exact ⟨T, a1, a2, hE1.tr a3⟩
        | some s =>
          rw [hfs] at hs
          dsimp only at hs ⊢
          unfold fS1 at hfs
          split at hfs
          · exact nomatch hfs
          · obtain ⟨x', y, z⟩ := fsf_pr _ _ _ hfs
            have hsl : s < E.length := by omega
            rw [if_neg (o3_nn (by omega))]
            obtain ⟨T2, b1, b2, b3⟩ := mh_off hS1 (by omega) hT1 hE hm hl (th := k) (k := s) (a := f) (by omega) hsl f1 f2
            rw [b1, bd_some]
            obtain ⟨T, a1, a2, a3⟩ := ih (k + 1) nn T2 (by omega) (by omega) hC (by rw [hs]; exact b2) (twM_eq hm hl hT1 (fun j hj => b3.1 157 j (by omega) (by omega))) (rHm_eq hW1 (fun j => b3.2 _ j (by omega) (by omega) (by omega))) (cdM_eq hD1 (fun a j _ => b3.1 a j (by omega) (by omega)))
            exact ⟨T, a1, a2, (hE1.tr b3).tr a3⟩
      · rw [if_neg hg] at hs
        rw [if_neg hg, if_pos rfl, if_pos (show -o3 2 < (0 : Int32) by decide)]
        obtain ⟨T, a1, a2, a3⟩ := ih (k + 1) nn T1 (by omega) (by omega) hC (by rw [hs]; exact hS1) hT1 hW1 hD1
        exact ⟨T, a1, a2, hE1.tr a3⟩
end MHR
end
noncomputable section
/-! the reference: an hour passes; hours -/
def rowM (S : fS) (C : Cw) (k : Nat) : Prop := S.1 157 (90 + 4 * k) = C.2.2.1 k ∧ S.1 157 (90 + 4 * k + 1) = C.2.2.2.1 k ∧ S.1 157 (90 + 4 * k + 2) = C.2.2.2.2.1 k ∧ S.1 157 (90 + 4 * k + 3) = C.2.2.2.2.2.1 k ∧ S.2 158 k = C.2.2.2.2.2.2 k
theorem pI_2' {S : fS} {a k : Nat} {x : Int32} : (pI S a k x).2 = S.2 := rfl
section MPS
variable {F : List (Nat × Nat)} {E : List St5} {C : Cw}
theorem mp_floor {S : fS} (hT : twM (S.1 157) F E) (hF : ∀ q ∈ F, okF q) (hm : F.length ≤ 10) {f : Nat} (hf : f < F.length) : f_X11_floorParts (o3 f) S = some (pc (F.getD f (0, 0))) := by
  obtain ⟨o1, o2, o4, o5⟩ := hF _ (gd_mem (d := (0, 0)) hf)
  obtain ⟨e1, e2⟩ := hT.2.2.1 f hf
  unfold f_X11_floorParts
  rw [show (10 : Int32) = o3 10 from rfl, show (2 : Int32) = o3 2 from rfl, o3_mul, o3_add, gI_o (by omega) (by omega), bd_some, o3_s, gI_o (by omega) (by omega), bd_some, e1, e2, o6_of3 (by omega), o6_of3 (by omega), show (232792560 : Int64) = o6 232792560 from rfl, o6_dL (by omega) (by omega) (by omega), bd_some, o6_mul]
  rfl
theorem mp_stair {S : fS} (hT : twM (S.1 157) F E) (hE : ∀ q ∈ E, okS F.length q) (hl : E.length ≤ 12) {s : Nat} (hs : s < E.length) : f_X11_stairParts (o3 s) S = some (pc (E.getD s d5).2.2.2) := by
  obtain ⟨_, _, _, _, _, o1, o2, o4, o5⟩ := hE _ (gd_mem (d := d5) hs)
  obtain ⟨_, _, _, e1, e2⟩ := mh_stair hT hl hs
  have e1 : f_X11_stairOf (o3 s) 3 S = some (o3 (E.getD s d5).2.2.2.1) := e1
  have e2 : f_X11_stairOf (o3 s) 4 S = some (o3 (E.getD s d5).2.2.2.2) := e2
  unfold f_X11_stairParts
  rw [e1, bd_some, e2, bd_some, o6_of3 (by omega), o6_of3 (by omega), show (232792560 : Int64) = o6 232792560 from rfl, o6_dL (by omega) (by omega) (by omega), bd_some, o6_mul]
  rfl
theorem mp_loop (hF : ∀ q ∈ F, okF q) (hE : ∀ q ∈ E, okS F.length q) (hm : F.length ≤ 10) (hl : E.length ≤ 12) (hC : okD F.length E C) {K : fS → Option fS} : ∀ d k nn (S : fS), k + d = C.1 → d < nn → S.1 157 2 = o3 C.1 → (∀ j, j < k → rowM S (cPs F E C) j) → (∀ j, k ≤ j → j < C.1 → rowM S C j) → twM (S.1 157) F E → ∃ T, lp_X11_ageAll_2 K nn (o3 k) S = K T ∧ (∀ j, j < C.1 → rowM T (cPs F E C) j) ∧ (∀ a j, ¬ (a = 157 ∧ 90 ≤ j ∧ j < 122) → T.1 a j = S.1 a j) ∧ (∀ a j, a ≠ 158 → T.2 a j = S.2 a j) := by
  intro d
  induction d with
  | zero =>
    intro k nn S hk hnn h5 hn ho hT
    obtain ⟨nn, rfl⟩ : ∃ z, nn = z + 1 := ⟨nn - 1, by omega⟩
    have h8 := hC.1
    rw [lp_X11_ageAll_2.eq_2, show (2 : Int32) = o3 2 from rfl, gI_o (by omega) (by omega), bd_some, h5, if_pos ((o3_le (by omega) (by omega)).mpr (by omega))]
    exact ⟨S, rfl, fun j hj => hn j (by omega), fun _ _ _ => rfl, fun _ _ _ => rfl⟩
  | succ d ih =>
    intro k nn S hk hnn h5 hn ho hT
    obtain ⟨nn, rfl⟩ : ∃ z, nn = z + 1 := ⟨nn - 1, by omega⟩
    have h8 := hC.1
    obtain ⟨k1, k2, k3, k4, k5⟩ := ho k (Nat.le_refl _) (by omega)
    obtain ⟨d1, d2, d3⟩ := hC.2.2 k (by omega)
    have hth0 : ∀ U : fS, f_X11_thingOf (o3 k) 0 U = some (U.1 157 (90 + 4 * k)) := fun U => mw_thing (S := U) (a := 0) (by omega) (by omega)
    have hth1 : ∀ U : fS, f_X11_thingOf (o3 k) 1 U = some (U.1 157 (90 + 4 * k + 1)) := fun U => mw_thing (S := U) (a := 1) (by omega) (by omega)
    have hth2 : ∀ U : fS, f_X11_thingOf (o3 k) (o3 2) U = some (U.1 157 (90 + 4 * k + 2)) := fun U => mw_thing (S := U) (a := 2) (by omega) (by omega)
    have hth3 : ∀ U : fS, f_X11_thingOf (o3 k) 3 U = some (U.1 157 (90 + 4 * k + 3)) := fun U => mw_thing (S := U) (a := 3) (by omega) (by omega)
    have e92 : ((90 : Int32) + ((4 : Int32) * o3 k)) + o3 2 = o3 (90 + 4 * k + 2) := by rw [show (90 : Int32) = o3 90 from rfl, show (4 : Int32) = o3 4 from rfl, o3_mul, o3_add, o3_add]
    rw [lp_X11_ageAll_2.eq_2, show (2 : Int32) = o3 2 from rfl, gI_o (by omega) (by omega), bd_some, h5, if_neg (fun q => by have := (o3_le (by omega) (by omega)).mp q; omega), hth1, bd_some, k2, o3_s]
    have nxt : ∀ S1 : fS, rowM S1 (cPs F E C) k → (∀ a j, ¬ (a = 157 ∧ 90 + 4 * k ≤ j ∧ j < 90 + 4 * k + 4) → S1.1 a j = S.1 a j) → (∀ a j, ¬ (a = 158 ∧ j = k) → S1.2 a j = S.2 a j) → ∃ T, lp_X11_ageAll_2 K nn (o3 (k + 1)) S1 = K T ∧ (∀ j, j < C.1 → rowM T (cPs F E C) j) ∧ (∀ a j, ¬ (a = 157 ∧ 90 ≤ j ∧ j < 122) → T.1 a j = S.1 a j) ∧ (∀ a j, a ≠ 158 → T.2 a j = S.2 a j) := by
      intro S1 hr f1 f2
      have hrow : ∀ C' j, j ≠ k → rowM S C' j → rowM S1 C' j := fun C' j hj ⟨r1, r2, r3, r4, r5⟩ => ⟨(f1 _ _ (by omega)).trans r1, (f1 _ _ (by omega)).trans r2, (f1 _ _ (by omega)).trans r3, (f1 _ _ (by omega)).trans r4, (f2 _ _ (by omega)).trans r5⟩
      obtain ⟨T, t1, t2, t3, t4⟩ := ih (k + 1) nn S1 (by omega) (by omega) ((f1 157 2 (by omega)).trans h5) (fun j hj => by
        by_cases e : j = k
        · rw [e]; exact hr
        · exact hrow _ j e (hn j (by omega))) (fun j hj hj2 => hrow _ j (by omega) (ho j (by omega) hj2)) (twM_eq hm hl hT (fun j hj => f1 157 j (by omega)))
      exact ⟨T, t1, t2, fun a j h => (t3 a j h).trans (f1 a j (by omega)), fun a j h => (t4 a j h).trans (f2 a j (by omega))⟩
    rcases d1 with ⟨f, e1, e2, e3, e4, e5⟩ | ⟨s, j, f, e1, e2, e3, e4, e5, e6, e7⟩
    · have h0 : ¬ C.2.2.1 k < 0 := by rw [e2]; exact o3_nn (by omega)
      rw [e3, if_neg (show ¬ (0 : Int32) ≤ -1 by decide), gL_o (by omega) (by omega), bd_some, hth0, bd_some, k1, e2, mp_floor hT hF hm e1, bd_some, k5, sL_o (by omega) (by omega), bd_some]
      refine nxt _ ?_ (fun _ _ _ => rfl) (fun a j h => pL_ne h)
      unfold rowM cPs
      dsimp only
      rw [if_neg h0, if_neg h0, if_neg h0, if_neg h0, if_neg h0, pL_eq, e2, o3_nat (by omega)]
      exact ⟨k1.trans e2, k2, k3, k4, rfl⟩
    · have h0 : C.2.2.1 k < 0 := by rw [e2]; decide
      obtain ⟨s1, s2, s3, s4, s5, s6⟩ := hE _ (gd_mem (d := d5) e1)
      have hst : stays E C k ↔ j + 1 < (E.getD s d5).2.2.1 := by
        unfold stays
        rw [e3, e4, o3_s, o3_nat (by omega), o3_lt (by omega) (by omega)]
      rw [e3, if_pos (o3_0le (by omega)), gL_o (by omega) (by omega), bd_some, mp_stair hT hE hl e1, bd_some, k5, sL_o (by omega) (by omega), bd_some, e92, gI_o (by omega) (by omega), bd_some, pL_1, k3, e4, o3_s, sI_o (by omega) (by omega), bd_some, hth2, bd_some, pI_eq]
      have hT2 : twM ((pI (pL S 158 k (C.2.2.2.2.2.2 k + pc (E.getD s d5).2.2.2)) 157 (90 + 4 * k + 2) (o3 (j + 1))).1 157) F E := twM_eq hm hl hT (fun i hi => by rw [pI_ne (by omega)]; rfl)
      rw [(mh_stair hT2 hl e1).2.2.1, bd_some]
      by_cases hs : j + 1 < (E.getD s d5).2.2.1
      · rw [if_neg (fun q => by have := (o3_inj (by omega) (by omega)).mp q; omega)]
        refine nxt _ ?_ (fun a i h => by rw [pI_ne (by omega)]; rfl) (fun a i h => pL_ne h)
        unfold rowM cPs
        dsimp only
        rw [if_pos h0, if_pos h0, if_pos h0, if_pos h0, if_pos h0, if_pos (hst.mpr hs), if_pos (hst.mpr hs), if_pos (hst.mpr hs), if_pos (hst.mpr hs), pI_ne (by omega), pI_ne (by omega), pI_eq, pI_ne (by omega), e4, o3_s, e3, o3_nat (by omega)]
        exact ⟨k1, k2.trans e3, rfl, k4, by rw [pI_2', pL_eq]⟩
      · rw [if_pos ((o3_inj (by omega) (by omega)).mpr (by omega)), hth3, bd_some, pI_ne (by omega), pL_1, k4, e6, m_stands (by omega), bd_some]
        obtain ⟨z1, z2, z3, z4⟩ := st4_eq (S := pI (pL S 158 k (C.2.2.2.2.2.2 k + pc (E.getD s d5).2.2.2)) 157 (90 + 4 * k + 2) (o3 (j + 1))) (t := k) (f := o3 f)
        refine nxt _ ?_ (fun a i h => by rw [st4_ne h, pI_ne (by omega)]; rfl) (fun a i h => by rw [st4_2]; exact pL_ne h)
        unfold rowM cPs
        dsimp only
        have hns : ¬ stays E C k := fun q => hs (hst.mp q)
        rw [if_pos h0, if_pos h0, if_pos h0, if_pos h0, if_pos h0, if_neg hns, if_neg hns, if_neg hns, if_neg hns, e6]
        refine ⟨z1, z2, z3, z4, ?_⟩
        rw [st4_2, e3, o3_nat (by omega), pI_2', pL_eq]
theorem m_pass {S : fS} (hF : ∀ q ∈ F, okF q) (hE : ∀ q ∈ E, okS F.length q) (hm : F.length ≤ 10) (hl : E.length ≤ 12) (hC : okD F.length E C) (hS : cwM (S.1 157) (S.2 158) C) (hT : twM (S.1 157) F E) : ∃ T, f_X11_ageAll S = some T ∧ cwM (T.1 157) (T.2 158) (cPs F E C) ∧ eI S T := by
  unfold f_X11_ageAll
  have h8 := hC.1
  obtain ⟨T, t1, t2, t3, t4⟩ := mp_loop hF hE hm hl hC (K := fun S49 => (gI S49 157 158 (3 : Int32)).bind fun a51 => (sI S49 157 158 (3 : Int32) (a51 + (1 : Int32))).bind fun S54 => some S54) C.1 0 FU S (by omega) (FU_lt (by omega)) hS.1 (fun j hj => absurd hj (Nat.not_lt_zero _)) (fun j _ hj => hS.2.2 j hj) hT
  have t1' : lp_X11_ageAll_2 (fun S49 => (gI S49 157 158 (3 : Int32)).bind fun a51 => (sI S49 157 158 (3 : Int32) (a51 + (1 : Int32))).bind fun S54 => some S54) FU (0 : Int32) S = (fun S49 => (gI S49 157 158 (3 : Int32)).bind fun a51 => (sI S49 157 158 (3 : Int32) (a51 + (1 : Int32))).bind fun S54 => some S54) T := t1
  rw [t1']
  dsimp only
  rw [show (3 : Int32) = o3 3 from rfl, gI_o (by omega) (by omega), bd_some, t3 157 3 (by omega), hS.2.1, o3_s, sI_o (by omega) (by omega), bd_some]
  refine ⟨_, rfl, ⟨?_, ?_, fun k hk => ?_⟩, fun a j h1 h2 => ?_, fun a j h1 h2 h3 => t4 a j h3⟩
  · rw [pI_ne (by omega), t3 157 2 (by omega)]; exact hS.1
  · rw [pI_eq]; rfl
  · obtain ⟨r1, r2, r3, r4, r5⟩ := t2 k hk
    rw [pI_ne (by omega), pI_ne (by omega), pI_ne (by omega), pI_ne (by omega)]
    exact ⟨r1, r2, r3, r4, r5⟩
  · rw [pI_ne (by omega), t3 a j (by omega)]
/-- the rule by which one lives, as the reference holds it -/
def ruM (S : fS) (v : Int32) (Q : Option (List Cl)) : Prop := (v = -1 ∧ Q = none) ∨ ∃ r L, r < 6 ∧ v = o3 r ∧ Q = some L ∧ cdM S r L
theorem ruM_eq {S T : fS} {v : Int32} {Q : Option (List Cl)} (h : ruM S v Q) (g : eI S T) : ruM T v Q := by
  rcases h with h | ⟨r, L, h1, h2, h3, h4⟩
  · exact Or.inl h
  · exact Or.inr ⟨r, L, h1, h2, h3, cdM_eq h4 (fun a k _ => g.1 a k (by omega) (by omega))⟩
theorem m_hour {S : fS} {v : Int32} {Q : Option (List Cl)} (hF : ∀ q ∈ F, okF q) (hE : ∀ q ∈ E, okS F.length q) (hm : F.length ≤ 10) (hl : E.length ≤ 12) (hC : okD F.length E C) (hS : cwM (S.1 157) (S.2 158) C) (hT : twM (S.1 157) F E) (hW : rHm S F.length (dst E)) (hR : ruM S v Q) : ∃ T, f_X11_hour v S = some T ∧ cwM (T.1 157) (T.2 158) (cHr F E Q C) ∧ eI S T := by
  unfold f_X11_hour
  have h8 := hC.1
  rcases hR with ⟨rfl, rfl⟩ | ⟨r, L, hr, rfl, rfl, hD⟩
  · obtain ⟨fu, hfu⟩ : ∃ z, FU = z + 1 := ⟨FU - 1, by have := FU_lt (d := 1) (by omega); omega⟩
    obtain ⟨T, a1, a2, a3⟩ := m_pass hF hE hm hl hC hS hT
    rw [hfu, lp_X11_hour_2.eq_2, show (2 : Int32) = o3 2 from rfl, gI_o (by omega) (by omega), bd_some, hS.1]
    by_cases hz : o3 C.1 ≤ (0 : Int32)
    · rw [if_pos hz, a1]; exact ⟨T, rfl, a2, a3⟩
    · rw [if_neg hz, if_pos (show (-1 : Int32) < 0 by decide), a1]; exact ⟨T, rfl, a2, a3⟩
  · obtain ⟨T0, z1, z2, z3⟩ := mh_obey (K := fun S31 => (f_X11_ageAll S31).bind fun q33 => some q33) hr hF hE hm hl hD.2.2.2.2.1 C.1 0 FU S (by omega) (FU_lt (by omega)) hC hS hT hW hD
    have z1' : lp_X11_hour_2 (o3 r) (fun S31 => (f_X11_ageAll S31).bind fun q33 => some q33) FU (0 : Int32) S = (fun S31 => (f_X11_ageAll S31).bind fun q33 => some q33) T0 := z1
    obtain ⟨o1, o2, o4⟩ := cOb_ok (Q := L) hC hE hm C.1 (Nat.le_refl _)
    obtain ⟨T, a1, a2, a3⟩ := m_pass hF hE hm hl o1 z2 (twM_eq hm hl hT (fun j hj => z3.1 157 j (by omega) (by omega)))
    rw [z1']
    dsimp only
    rw [a1]
    exact ⟨T, rfl, a2, z3.tr a3⟩
theorem m_tickl {v : Int32} {Q : Option (List Cl)} (hF : ∀ q ∈ F, okF q) (hE : ∀ q ∈ E, okS F.length q) (hm : F.length ≤ 10) (hl : E.length ≤ 12) {h : Nat} (hh : h < 2147483648) {K : fS → Option (Int32 × fS)} : ∀ d k nn (S : fS) (C : Cw), k + d = h → d < nn → okD F.length E C → C.2.1 + d ≤ 10199 → cwM (S.1 157) (S.2 158) C → twM (S.1 157) F E → rHm S F.length (dst E) → ruM S v Q → ∃ T, lp_X11_tick_43 v (o3 h) K nn (o3 k) S = K T ∧ cwM (T.1 157) (T.2 158) (cHrs F E Q d C) ∧ eI S T := by
  intro d
  induction d with
  | zero =>
    intro k nn S C hk hnn hC h9 hS hT hW hR
    obtain ⟨nn, rfl⟩ : ∃ z, nn = z + 1 := ⟨nn - 1, by omega⟩
    rw [lp_X11_tick_43.eq_2, if_pos ((o3_le (by omega) (by omega)).mpr (by omega))]
    exact ⟨S, rfl, hS, eI.rf⟩
  | succ d ih =>
    intro k nn S C hk hnn hC h9 hS hT hW hR
    obtain ⟨nn, rfl⟩ : ∃ z, nn = z + 1 := ⟨nn - 1, by omega⟩
    rw [lp_X11_tick_43.eq_2, if_neg (fun q => by have := (o3_le (by omega) (by omega)).mp q; omega), o3_s]
    obtain ⟨T1, a1, a2, a3⟩ := m_hour hF hE hm hl hC hS hT hW hR
    obtain ⟨b1, b2, b3⟩ := cHr_ok (Q := Q) hC hF hE hm hl (by omega)
    rw [a1, bd_some]
    obtain ⟨T, c1, c2, c3⟩ := ih (k + 1) nn T1 (cHr F E Q C) (by omega) (by omega) b1 (by omega) a2 (twM_eq hm hl hT (fun j hj => a3.1 157 j (by omega) (by omega))) (rHm_eq hW (fun j => a3.2 _ j (by omega) (by omega) (by omega))) (ruM_eq hR a3)
    exact ⟨T, c1, c2, a3.tr c3⟩
end MPS
end
noncomputable section
/-! the relation between class and reference -/
def rTp (n : Nat) (S : fS) : Prop := n ≤ 400 ∧ S.1 1 1 = o3 n ∧ S.1 145 1 = o3 n ∧ S.1 2 = S.1 146 ∧ ∀ k, byt (S.1 146 k)
def rSc (s : Sn) (S : fS) : Prop := okN s ∧ scC S 3 s ∧ scM (S.1 157) (S.2 158) s ∧ rHm S s.1.length (dst s.2.1)
def rRu (L : List (List Cl)) (S : fS) : Prop := L.length ≤ 6 ∧ S.1 0 10 = o3 L.length ∧ S.1 145 2 = o3 L.length ∧ ∀ r, r < L.length → cdC S (127 + 3 * r) (ccode (L.getD r [])) ∧ cdM S r (L.getD r [])
/-- an image: of class and reference -/
def im1 (S : fS) (i : Nat) (s : Sn) : Prop := okN s ∧ scC S (51 + 19 * i) s ∧ scM (fun k => S.1 168 (158 * i + k)) (fun k => S.2 169 (8 * i + k)) s
def rIm (M : Nat → Option Sn) (S : fS) : Prop := ∀ i, i < 4 → (M i = none ∧ S.1 (51 + 19 * i) 4 = 0 ∧ S.1 170 i = 0) ∨ ∃ s, M i = some s ∧ S.1 (51 + 19 * i) 4 = 1 ∧ S.1 170 i = 1 ∧ im1 S i s
def Rel (S : fS) : Prop := ∃ n s L M, rTp n S ∧ rSc s S ∧ rRu L S ∧ rIm M S
theorem rTp_eq {n : Nat} {S T : fS} (h : rTp n S) (h1 : T.1 1 1 = S.1 1 1) (h2 : T.1 145 1 = S.1 145 1) (h3 : ∀ k, T.1 2 k = S.1 2 k) (h4 : ∀ k, T.1 146 k = S.1 146 k) : rTp n T := by
  obtain ⟨a, b, c, d, e⟩ := h
  exact ⟨a, h1.trans b, h2.trans c, (funext h3).trans (d.trans (funext h4).symm), fun k => by rw [h4]; exact e k⟩
theorem poC_eq {S T : fS} {b : Nat} {D : Mx} {P : Po} (h : poC S b D P) (h1 : ∀ a k, b ≤ a → a ≤ b + 4 → T.1 a k = S.1 a k) : poC T b D P := by
  obtain ⟨a, d⟩ := h
  refine ⟨(h1 _ _ (by omega) (by omega)).trans a, fun k hk => ?_⟩
  obtain ⟨e1, e2, e3, e4⟩ := d k hk
  exact ⟨(h1 _ _ (by omega) (by omega)).trans e1, (h1 _ _ (by omega) (by omega)).trans e2, (h1 _ _ (by omega) (by omega)).trans e3, (h1 _ _ (by omega) (by omega)).trans e4⟩
theorem scC_eq {S T : fS} {b : Nat} {s : Sn} (h : scC S b s) (h1 : ∀ a k, b < a → a ≤ b + 18 → T.1 a k = S.1 a k) (h2 : ∀ a k, b < a → a ≤ b + 18 → T.2 a k = S.2 a k) (h3 : 0 ≤ (T.1 b 3).toInt) : scC T b s := by
  obtain ⟨a, c, d, e, _⟩ := h
  exact ⟨twC_eq a (fun x k p q => h1 x k (by omega) (by omega)) (fun x k p q => h2 x k (by omega) (by omega)), rWm_eq c (fun k => h1 _ k (by omega) (by omega)), cwC_eq d (fun x k p q => h1 x k (by omega) (by omega)) (fun k => h2 _ k (by omega) (by omega)), poC_eq e (fun x k p q => h1 x k (by omega) (by omega)), h3⟩
theorem rSc_eq {s : Sn} {S T : fS} (h : rSc s S) (h1 : ∀ a k, 3 < a → a ≤ 21 → T.1 a k = S.1 a k) (h2 : ∀ a k, 3 < a → a ≤ 21 → T.2 a k = S.2 a k) (h3 : 0 ≤ (T.1 3 3).toInt) (h4 : ∀ k, T.1 157 k = S.1 157 k) (h5 : ∀ a k, a = 158 ∨ a = 161 → T.2 a k = S.2 a k) : rSc s T := by
  obtain ⟨a, b, c, d⟩ := h
  refine ⟨a, scC_eq b (fun x k p q => h1 x k (by omega) (by omega)) (fun x k p q => h2 x k (by omega) (by omega)) h3, ?_, rHm_eq d (fun k => h5 _ k (by omega))⟩
  rw [show T.1 157 = S.1 157 from funext h4, show T.2 158 = S.2 158 from funext fun k => h5 158 k (Or.inl rfl)]
  exact c
theorem rRu_eq {L : List (List Cl)} {S T : fS} (h : rRu L S) (h1 : T.1 0 10 = S.1 0 10) (h2 : T.1 145 2 = S.1 145 2) (h3 : ∀ a k, 127 ≤ a → a ≤ 144 → k ≠ 3 ∨ ¬ a % 3 = 1 → T.1 a k = S.1 a k) (h4 : ∀ a k, a = 147 ∨ (a = 148 ∧ k < 6) ∨ a = 149 ∨ a = 150 → T.1 a k = S.1 a k) : rRu L T := by
  obtain ⟨a, b, c, d⟩ := h
  refine ⟨a, h1.trans b, h2.trans c, fun r hr => ?_⟩
  obtain ⟨x, y⟩ := d r hr
  exact ⟨cdC_eq x (h3 _ _ (by omega) (by omega) (by omega)) (fun k => h3 _ _ (by omega) (by omega) (by omega)), cdM_eq y (fun a k h => h4 a k (by omega))⟩
theorem im1_eq {S T : fS} {i : Nat} {s : Sn} (hi : i < 4) (h : im1 S i s) (h1 : ∀ a k, 51 ≤ a → a ≤ 126 → T.1 a k = S.1 a k) (h2 : ∀ a k, 51 ≤ a → a ≤ 126 → T.2 a k = S.2 a k) (h3 : ∀ k, T.1 168 k = S.1 168 k) (h4 : ∀ k, T.2 169 k = S.2 169 k) : im1 T i s := by
  obtain ⟨a, b, c⟩ := h
  refine ⟨a, scC_eq b (fun x k p q => h1 x k (by omega) (by omega)) (fun x k p q => h2 x k (by omega) (by omega)) (by rw [h1 _ _ (by omega) (by omega)]; exact b.2.2.2.2), ?_⟩
  rw [show (fun k => T.1 168 (158 * i + k)) = (fun k => S.1 168 (158 * i + k)) from funext fun k => h3 _, show (fun k => T.2 169 (8 * i + k)) = (fun k => S.2 169 (8 * i + k)) from funext fun k => h4 _]
  exact c
theorem rIm_eq {M : Nat → Option Sn} {S T : fS} (h : rIm M S) (h1 : ∀ a k, 51 ≤ a → a ≤ 126 → T.1 a k = S.1 a k) (h2 : ∀ a k, 51 ≤ a → a ≤ 126 → T.2 a k = S.2 a k) (h3 : ∀ k, T.1 168 k = S.1 168 k) (h4 : ∀ k, T.2 169 k = S.2 169 k) (h5 : ∀ k, T.1 170 k = S.1 170 k) : rIm M T := fun i hi => by
  rcases h i hi with ⟨a, b, c⟩ | ⟨s, a, b, c, d⟩
  · exact Or.inl ⟨a, (h1 _ _ (by omega) (by omega)).trans b, (h5 i).trans c⟩
  · exact Or.inr ⟨s, a, (h1 _ _ (by omega) (by omega)).trans b, (h5 i).trans c, im1_eq hi d h1 h2 h3 h4⟩
/-! feed() -/
theorem zt_byt {v k : Int32} : byt (zt v k) := by
  unfold zt byt
  rw [Int8.toInt_toInt32]
  have h1 := Int8.le_toInt (Int32.toInt8 (Int8.toInt32 (Int32.toInt8 (v >>> (k &&& 31)))))
  have h2 := Int8.toInt_lt (Int32.toInt8 (Int8.toInt32 (Int32.toInt8 (v >>> (k &&& 31)))))
  exact ⟨h1, by omega⟩
/-- c: the class's tape; m: the reference's -/
def fdC (S T : fS) (n n' : Nat) (f : Nat → Int32) : Prop := T.1 1 1 = o3 n' ∧ T.1 2 = f ∧ (∀ a k, ¬ (a = 2 ∨ (a = 1 ∧ k = 1)) → T.1 a k = S.1 a k) ∧ T.2 = S.2
def fdM (S T : fS) (n n' : Nat) (f : Nat → Int32) : Prop := T.1 145 1 = o3 n' ∧ T.1 146 = f ∧ (∀ a k, ¬ (a = 146 ∨ (a = 145 ∧ k = 1)) → T.1 a k = S.1 a k) ∧ T.2 = S.2
def p4 (f : Nat → Int32) (n : Nat) (v : Int32) : Nat → Int32 := udN (udN (udN (udN f n (zt v 24)) (n + 1) (zt v 16)) (n + 2) (zt v 8)) (n + 3) (zt v 0)
theorem pI_upd {S : fS} {a k : Nat} {x : Int32} : (pI S a k x).1 a = udN (S.1 a) k x := by
  funext j
  rw [pI_get]
  unfold udN
  by_cases h : j = k
  · rw [if_pos ⟨rfl, h⟩, if_pos h]
  · rw [if_neg (fun q => h q.2), if_neg h]
theorem fd_zc {S T : fS} {n n' : Nat} {f : Nat → Int32} {b : Int32} (h : fdC S T n n' f) (hn : n' < 400) : fdC S (zc T b) n (n' + 1) (udN f n' b) := by
  obtain ⟨h1, h2, h3, h4⟩ := h
  unfold zc
  rw [h1, o3_nat (by omega), o3_s]
  refine ⟨pI_eq, ?_, fun a k hk => ?_, h4⟩
  · rw [pI_row (by omega), pI_upd, h2]
  · rw [pI_ne (by omega), pI_ne (by omega)]; exact h3 a k hk
theorem fd_zm {S T : fS} {n n' : Nat} {f : Nat → Int32} {b : Int32} (h : fdM S T n n' f) (hn : n' < 400) : fdM S (zm T b) n (n' + 1) (udN f n' b) := by
  obtain ⟨h1, h2, h3, h4⟩ := h
  unfold zm
  rw [h1, o3_nat (by omega), o3_s]
  refine ⟨pI_eq, ?_, fun a k hk => ?_, h4⟩
  · rw [pI_row (by omega), pI_upd, h2]
  · rw [pI_ne (by omega), pI_ne (by omega)]; exact h3 a k hk
theorem fd_zc4 {S T : fS} {n n' : Nat} {f : Nat → Int32} {v : Int32} (h : fdC S T n n' f) (hn : n' + 4 ≤ 400) : fdC S (zc4 T v) n (n' + 4) (p4 f n' v) := fd_zc (fd_zc (fd_zc (fd_zc h (by omega)) (by omega)) (by omega)) (by omega)
theorem fd_zm4 {S T : fS} {n n' : Nat} {f : Nat → Int32} {v : Int32} (h : fdM S T n n' f) (hn : n' + 4 ≤ 400) : fdM S (zm4 T v) n (n' + 4) (p4 f n' v) := fd_zm (fd_zm (fd_zm (fd_zm h (by omega)) (by omega)) (by omega)) (by omega)
theorem p4_byt {f : Nat → Int32} {n : Nat} {v : Int32} (h : ∀ k, byt (f k)) : ∀ k, byt (p4 f n v k) := by
  have u : ∀ (g : Nat → Int32) m k', (∀ k, byt (g k)) → ∀ k, byt (udN g m (zt v k') k) := fun g m k' hg k => by
    unfold udN
    split
    · exact zt_byt
    · exact hg k
  exact u _ _ _ (u _ _ _ (u _ _ _ (u _ _ _ h)))
theorem t_0 (a1 a2 a3 a4 a5 : Int32) (S : fS) (hR : Rel S) : ∃ r S1 S2, f_X10_feed a1 a2 a3 a4 a5 S = some (r, S1) ∧ f_X11_feed a1 a2 a3 a4 a5 S1 = some (r, S2) ∧ Rel S2 := by
  obtain ⟨n, s, L, M, hT, hS, hL, hM⟩ := hR
  obtain ⟨t1, t2, t3, t4, t5⟩ := hT
  by_cases h : n ≤ 380
  · have hc : fdC S S n n (S.1 2) := ⟨t2, rfl, fun _ _ _ => rfl, rfl⟩
    have hc5 := fd_zc4 (v := a5) (fd_zc4 (v := a4) (fd_zc4 (v := a3) (fd_zc4 (v := a2) (fd_zc4 (v := a1) hc (by omega)) (by omega)) (by omega)) (by omega)) (by omega)
    rw [op_feed (by rw [t2, o3_int (by omega)]; omega) (by rw [t2, o3_int (by omega)]; omega)]
    generalize zc4 (zc4 (zc4 (zc4 (zc4 S a1) a2) a3) a4) a5 = S1 at hc5
    obtain ⟨c1, c2, c3, c4⟩ := hc5
    have hm : fdM S1 S1 n n (S.1 2) := ⟨(c3 _ _ (by omega)).trans t3, by rw [show S1.1 146 = S.1 146 from funext fun k => c3 _ _ (by omega)]; exact t4.symm, fun _ _ _ => rfl, rfl⟩
    have hm5 := fd_zm4 (v := a5) (fd_zm4 (v := a4) (fd_zm4 (v := a3) (fd_zm4 (v := a2) (fd_zm4 (v := a1) hm (by omega)) (by omega)) (by omega)) (by omega)) (by omega)
    have hfm := om_feed (a := a1) (b := a2) (c := a3) (d := a4) (e := a5) (S := S1) (by rw [hm.1, o3_int (by omega)]; omega) (by rw [hm.1, o3_int (by omega)]; omega)
    generalize zm4 (zm4 (zm4 (zm4 (zm4 S1 a1) a2) a3) a4) a5 = S2 at hm5 hfm
    obtain ⟨m1, m2, m3, m4⟩ := hm5
    have e1 : ∀ a k, ¬ (a = 2 ∨ a = 146 ∨ (a = 1 ∧ k = 1) ∨ (a = 145 ∧ k = 1)) → S2.1 a k = S.1 a k := fun a k hk => (m3 a k (by omega)).trans (c3 a k (by omega))
    have e2 : ∀ a k, S2.2 a k = S.2 a k := fun a k => by rw [m4, c4]
    refine ⟨_, S1, S2, rfl, by rw [hfm, m1, c1], n + 4 + 4 + 4 + 4 + 4, s, L, M, ⟨by omega, ?_, m1, ?_, ?_⟩, ?_, ?_, ?_⟩
    · rw [m3 1 1 (by omega)]; exact c1
    · rw [m2, show S2.1 2 = S1.1 2 from funext fun k => m3 _ _ (by omega), c2]
    · rw [m2]
      have hb : ∀ k, byt (S.1 2 k) := by rw [t4]; exact t5
      exact p4_byt (p4_byt (p4_byt (p4_byt (p4_byt hb))))
    · exact rSc_eq hS (fun a k _ _ => e1 a k (by omega)) (fun a k _ _ => e2 a k) (by rw [e1 3 3 (by omega)]; exact hS.2.1.2.2.2.2) (fun k => e1 _ _ (by omega)) (fun a k _ => e2 a k)
    · exact rRu_eq hL (e1 _ _ (by omega)) (e1 _ _ (by omega)) (fun a k _ _ _ => e1 a k (by omega)) (fun a k _ => e1 a k (by omega))
    · exact rIm_eq hM (fun a k _ _ => e1 a k (by omega)) (fun a k _ _ => e2 a k) (fun k => e1 _ _ (by omega)) (fun k => e2 _ k) (fun k => e1 _ _ (by omega))
  · unfold f_X10_feed
    rw [t2, show (20 : Int32) = o3 20 from rfl, o3_add, if_neg (show ¬ o3 (n + 20) ≤ (400 : Int32) from fun q => by have := (o3_le (b := 400) (by omega) (by omega)).mp q; omega)]
    refine ⟨-1, S, S, rfl, ?_, n, s, L, M, ⟨t1, t2, t3, t4, t5⟩, hS, hL, hM⟩
    unfold f_X11_feed
    rw [t3, show (20 : Int32) = o3 20 from rfl, o3_add, if_neg (show ¬ o3 (n + 20) ≤ (400 : Int32) from fun q => by have := (o3_le (b := 400) (by omega) (by omega)).mp q; omega)]
/-! end() -/
theorem t_1 (a1 : Int32) (S : fS) (hR : Rel S) : ∃ r S1 S2, f_X10_end a1 S = some (r, S1) ∧ f_X11_end a1 S1 = some (r, S2) ∧ Rel S2 := by
  obtain ⟨n, s, L, M, ⟨t1, t2, t3, t4, t5⟩, hS, hL, hM⟩ := hR
  unfold f_X10_end
  rw [t2]
  rcases op_isFrom01 (v := a1) (a := 0) (b := o3 n) (S := S) with ⟨h, g⟩ | ⟨h, g1, g2⟩
  · rw [h, bd_some, if_pos rfl]
    refine ⟨-1, S, S, rfl, ?_, n, s, L, M, ⟨t1, t2, t3, t4, t5⟩, hS, hL, hM⟩
    unfold f_X11_end
    rw [t3]
    by_cases hz : a1 < 0
    · rw [if_pos hz]
    · rw [if_neg hz, if_neg (fun q => g ⟨by rw [ni_lt] at hz; omega, ni_le.mp q⟩)]
  · rw [h, bd_some, if_neg (show ¬ (1 : Int32) = 0 by decide), bd_some]
    rw [ni_0] at g1
    rw [o3_int (by omega)] at g2
    obtain ⟨m, hm, hm2⟩ := o3_ex g1
    refine ⟨a1, pI S 1 1 a1, pI (pI S 1 1 a1) 145 1 a1, rfl, ?_, m, s, L, M, ⟨by omega, ?_, ?_, ?_, ?_⟩, ?_, ?_, ?_⟩
    · unfold f_X11_end
      rw [pI_ne (by omega), t3, if_neg (by rw [ni_lt, ni_0]; omega), if_pos (by rw [ni_le, o3_int (by omega)]; exact g2), bd_some]
    · rw [pI_ne (by omega), pI_eq]; exact hm
    · rw [pI_eq]; exact hm
    · rw [pI_row (by omega), pI_row (by omega), pI_row (by omega), pI_row (by omega)]; exact t4
    · rw [pI_row (by omega), pI_row (by omega)]; exact t5
    · exact rSc_eq hS (fun a k _ _ => by rw [pI_ne (by omega), pI_ne (by omega)]) (fun _ _ _ _ => rfl) (by rw [pI_ne (by omega), pI_ne (by omega)]; exact hS.2.1.2.2.2.2) (fun k => by rw [pI_ne (by omega), pI_ne (by omega)]) (fun _ _ _ => rfl)
    · exact rRu_eq hL (by rw [pI_ne (by omega), pI_ne (by omega)]) (by rw [pI_ne (by omega), pI_ne (by omega)]) (fun a k _ _ _ => by rw [pI_ne (by omega), pI_ne (by omega)]) (fun a k _ => by rw [pI_ne (by omega), pI_ne (by omega)])
    · exact rIm_eq hM (fun a k _ _ => by rw [pI_ne (by omega), pI_ne (by omega)]) (fun _ _ _ _ => rfl) (fun k => by rw [pI_ne (by omega), pI_ne (by omega)]) (fun _ => rfl) (fun k => by rw [pI_ne (by omega), pI_ne (by omega)])
end
noncomputable section
/-! tower(), rule(), go(), tick() -/
theorem t_2 (S : fS) (hR : Rel S) : ∃ r S1 S2, f_X10_tower S = some (r, S1) ∧ f_X11_tower S1 = some (r, S2) ∧ Rel S2 := by
  obtain ⟨n, s, L, M, ⟨t1, t2, t3, t4, t5⟩, hS, hL, hM⟩ := hR
  obtain ⟨S1, a1, a2, a3, a4, a5, a6⟩ := c_tower t2 t1
  have e146 : S1.1 146 = S.1 146 := funext fun k => a3 _ _ (by unfold wG1 wF1; omega)
  obtain ⟨S2, b1, b2, b3, b4, b5, b6⟩ := m_tower (S := S1) (n := n) ((a3 145 1 (by unfold wG1 wF1; omega)).trans t3) t1 (by rw [e146]; exact t5)
  rw [e146] at b1 b5 b6
  rw [t4] at a1 a5 a6
  refine ⟨_, S1, S2, a1, b1, ?_⟩
  have e1 : ∀ a k, ¬ wG1 a k → ¬ wT a k → S2.1 a k = S.1 a k := fun a k h1 h2 => (b3 a k h2).trans (a3 a k h1)
  have e2 : ∀ a k, ¬ wG2 a k → a ≠ 158 → a ≠ 161 → S2.2 a k = S.2 a k := fun a k h1 h2 h3 => (b4 a k h2 h3).trans (a4 a k h1)
  have hx : (S2.1 3 3) = S.1 3 3 := e1 3 3 (by unfold wG1 wF1; omega) (by unfold wT wR; omega)
  have hTp : rTp 0 S2 := by
    refine ⟨by omega, ?_, b2, ?_, ?_⟩
    · rw [b3 1 1 (by unfold wT wR; omega)]; exact a2
    · rw [show S2.1 2 = S.1 2 from funext fun k => e1 _ _ (by unfold wG1 wF1; omega) (by unfold wT wR; omega), show S2.1 146 = S.1 146 from funext fun k => e1 _ _ (by unfold wG1 wF1; omega) (by unfold wT wR; omega)]
      exact t4
    · rw [show S2.1 146 = S.1 146 from funext fun k => e1 _ _ (by unfold wG1 wF1; omega) (by unfold wT wR; omega)]
      exact t5
  have hL2 : rRu L S2 := rRu_eq hL (e1 _ _ (by unfold wG1 wF1; omega) (by unfold wT wR; omega)) (e1 _ _ (by unfold wG1 wF1; omega) (by unfold wT wR; omega)) (fun a k _ _ _ => e1 a k (by unfold wG1 wF1; omega) (by unfold wT wR; omega)) (fun a k h => e1 a k (by unfold wG1 wF1; omega) (by unfold wT wR; omega))
  have hM2 : rIm M S2 := rIm_eq hM (fun a k _ _ => e1 a k (by unfold wG1 wF1; omega) (by unfold wT wR; omega)) (fun a k _ _ => e2 a k (by unfold wG2 wF2; omega) (by omega) (by omega)) (fun k => e1 _ _ (by unfold wG1 wF1; omega) (by unfold wT wR; omega)) (fun k => e2 _ k (by unfold wG2 wF2; omega) (by omega) (by omega)) (fun k => e1 _ _ (by unfold wG1 wF1; omega) (by unfold wT wR; omega))
  by_cases hz : (tw0 (S.1 146) n).1 = 0
  · obtain ⟨c1, c2, c3, c4⟩ := a6 hz
    obtain ⟨d1, d2, d3, d4⟩ := b6 hz
    have hB := tw0_ok hz
    generalize (tw0 (S.1 146) n).2 = B at c1 c2 c3 d1 d2 d4 hB
    have f1 : ∀ a k, a < 38 → S2.1 a k = S1.1 a k := fun a k h => b3 a k (by unfold wT wR; omega)
    have f2 : ∀ a k, a < 38 → S2.2 a k = S1.2 a k := fun a k h => b4 a k (by omega) (by omega)
    refine ⟨0, sn0 B, L, M, hTp, ⟨okN_0 hB, ⟨?_, ?_, ?_, ?_, ?_⟩, ⟨d1, cwM_0 d2, ?_, ?_⟩, ?_⟩, hL2, hM2⟩
    · exact twC_eq c1 (fun a k _ _ => f1 a k (by omega)) (fun a k _ _ => f2 a k (by omega))
    · exact fun a b ha hb => (f1 _ _ (by omega)).trans (c2 a b (Nat.lt_of_lt_of_le ha hB.1) (Nat.lt_of_lt_of_le hb hB.1))
    · exact cwC_eq (cwC_0 c3) (fun a k _ _ => f1 a k (by omega)) (fun k => f2 _ k (by omega))
    · exact ⟨(f1 _ _ (by omega)).trans c4, fun k hk => absurd hk (Nat.not_lt_zero _)⟩
    · rw [hx]; exact hS.2.1.2.2.2.2
    · exact ⟨d3, fun k hk => absurd hk (Nat.not_lt_zero _)⟩
    · rw [e1 157 5 (by unfold wG1 wF1; omega) (by unfold wT wR; omega)]; exact hS.2.2.1.2.2.2
    · exact fun a b ha hb => d4 a b (Nat.lt_of_lt_of_le ha hB.1) (Nat.lt_of_lt_of_le hb hB.1)
  · obtain ⟨c1, c2⟩ := a5 hz
    obtain ⟨d1, d2⟩ := b5 hz
    refine ⟨0, s, L, M, hTp, rSc_eq hS (fun a k _ _ => (b3 a k (by unfold wT wR; omega)).trans (c1 a k (by unfold wF1; omega))) (fun a k _ _ => by rw [d2]; exact c2 a k (by unfold wF2; omega)) (by rw [hx]; exact hS.2.1.2.2.2.2) (fun k => (d1 k).trans (c1 157 k (by unfold wF1; omega))) (fun a k _ => by rw [d2]; exact c2 a k (by unfold wF2; omega)), hL2, hM2⟩
/-! rule() -/
theorem cdM_eq2 {S T : fS} {x : Nat} {L : List Cl} (h : cdM S x L) (h1 : ∀ k, k < 400 → T.1 147 (400 * x + k) = S.1 147 (400 * x + k)) (h2 : T.1 148 x = S.1 148 x) (h3 : ∀ k, k < 36 → T.1 149 (36 * x + k) = S.1 149 (36 * x + k)) (h4 : T.1 150 x = S.1 150 x) : cdM T x L := by
  obtain ⟨a, b, c, d, e, f⟩ := h
  exact ⟨clM_eq a h4 (fun k hk => h3 k (by omega)), b, h2.trans c, d, e, fun k hk => (h1 k (by omega)).trans (f k hk)⟩
theorem t_3 (S : fS) (hR : Rel S) : ∃ r S1 S2, f_X10_rule S = some (r, S1) ∧ f_X11_rule S1 = some (r, S2) ∧ Rel S2 := by
  obtain ⟨n, s, L, M, ⟨t1, t2, t3, t4, t5⟩, hS, hL, hM⟩ := hR
  obtain ⟨l1, l2, l3, l4⟩ := hL
  obtain ⟨S1, a1, a2, a3⟩ := c_rule t2 t1 l2 l1
  by_cases h6 : L.length = 6
  · have e := a2 h6
    subst e
    obtain ⟨S2, b1, b2, b3⟩ := m_rule t3 t1 t5 l3 l1
    have e := b2 h6
    subst e
    rw [if_pos h6] at a1 b1
    exact ⟨_, S2, S2, a1, b1, n, s, L, M, ⟨t1, t2, t3, t4, t5⟩, hS, ⟨l1, l2, l3, l4⟩, hM⟩
  · obtain ⟨a4, a5, a6, a7, a8⟩ := a3 (by omega)
    have e146 : S1.1 146 = S.1 146 := funext fun k => a5 _ _ (by unfold wU; omega) (by omega) (by omega)
    obtain ⟨S2, b1, b2, b3⟩ := m_rule (S := S1) (n := n) (r := L.length) ((a5 145 1 (by unfold wU; omega) (by omega) (by omega)).trans t3) t1 (by rw [e146]; exact t5) ((a5 145 2 (by unfold wU; omega) (by omega) (by omega)).trans l3) l1
    obtain ⟨b4, b5, b6, b7, b8⟩ := b3 (by omega)
    rw [e146] at b1 b7 b8
    rw [t4] at a1 a7 a8
    refine ⟨_, S1, S2, a1, b1, ?_⟩
    have f1 : ∀ a k, a ≤ 144 → S2.1 a k = S1.1 a k := fun a k h => b5 a k (by unfold wV wM9 wMr; omega) (by omega)
    have e1 : ∀ a k, ¬ wU a k → ¬ (a = 0 ∧ k = 10) → ¬ (a = 127 + 3 * L.length ∨ a = 128 + 3 * L.length) → ¬ wV L.length a k → ¬ (a = 145 ∧ (k = 2 ∨ k = 16)) → S2.1 a k = S.1 a k := fun a k h1 h2 h3 h4 h5 => (b5 a k h4 h5).trans (a5 a k h1 h2 h3)
    have e2 : ∀ a k, S2.2 a k = S.2 a k := fun a k => by rw [b6, a6]
    have h2 : S2.1 2 = S.1 2 := funext fun k => e1 _ _ (by unfold wU; omega) (by omega) (by omega) (by unfold wV wM9 wMr; omega) (by omega)
    have h146 : S2.1 146 = S.1 146 := funext fun k => e1 _ _ (by unfold wU; omega) (by omega) (by omega) (by unfold wV wM9 wMr; omega) (by omega)
    have hTp : rTp 0 S2 := ⟨by omega, (f1 _ _ (by omega)).trans a4, b4, by rw [h2, h146]; exact t4, by rw [h146]; exact t5⟩
    have hS2 : rSc s S2 := rSc_eq hS (fun a k _ _ => e1 a k (by unfold wU; omega) (by omega) (by omega) (by unfold wV wM9 wMr; omega) (by omega)) (fun a k _ _ => e2 a k) (by rw [e1 3 3 (by unfold wU; omega) (by omega) (by omega) (by unfold wV wM9 wMr; omega) (by omega)]; exact hS.2.1.2.2.2.2) (fun k => e1 _ _ (by unfold wU; omega) (by omega) (by omega) (by unfold wV wM9 wMr; omega) (by omega)) (fun a k _ => e2 a k)
    have hM2 : rIm M S2 := rIm_eq hM (fun a k _ _ => e1 a k (by unfold wU; omega) (by omega) (by omega) (by unfold wV wM9 wMr; omega) (by omega)) (fun a k _ _ => e2 a k) (fun k => e1 _ _ (by unfold wU; omega) (by omega) (by omega) (by unfold wV wM9 wMr; omega) (by omega)) (fun k => e2 _ k) (fun k => e1 _ _ (by unfold wU; omega) (by omega) (by omega) (by unfold wV wM9 wMr; omega) (by omega))
    have hold : ∀ r, r < L.length → cdC S2 (127 + 3 * r) (ccode (L.getD r [])) ∧ cdM S2 r (L.getD r []) := fun r hr => by
      obtain ⟨x, y⟩ := l4 r hr
      exact ⟨cdC_eq x (e1 _ _ (by unfold wU; omega) (by omega) (by omega) (by unfold wV wM9 wMr; omega) (by omega)) (fun k => e1 _ _ (by unfold wU; omega) (by omega) (by omega) (by unfold wV wM9 wMr; omega) (by omega)), cdM_eq2 y (fun k hk => e1 _ _ (by unfold wU; omega) (by omega) (by omega) (by unfold wV wM9 wMr; omega) (by omega)) (e1 _ _ (by unfold wU; omega) (by omega) (by omega) (by unfold wV wM9 wMr; omega) (by omega)) (fun k hk => e1 _ _ (by unfold wU; omega) (by omega) (by omega) (by unfold wV wM9 wMr; omega) (by omega)) (e1 _ _ (by unfold wU; omega) (by omega) (by omega) (by unfold wV wM9 wMr; omega) (by omega))⟩
    by_cases hz : (ru0 (S.1 146) n).1 = 0
    · obtain ⟨c1, c2⟩ := a8 hz
      obtain ⟨d1, d2⟩ := b8 hz
      refine ⟨0, s, L ++ [(ru0 (S.1 146) n).2], M, hTp, hS2, ⟨by rw [ln_app]; omega, by rw [ln_app, f1 0 10 (by omega)]; exact c1, by rw [ln_app]; exact d1, fun r hr => ?_⟩, hM2⟩
      rw [ln_app] at hr
      by_cases e : r = L.length
      · subst e
        rw [gd_r]
        exact ⟨cdC_eq c2 (f1 _ _ (by omega)) (fun k => f1 _ _ (by omega)), d2⟩
      · rw [gd_l (by omega)]
        exact hold r (by omega)
    · have c1 := a7 hz
      have d1 := b7 hz
      exact ⟨0, s, L, M, hTp, hS2, ⟨l1, by rw [f1 0 10 (by omega), c1 0 10 (by unfold wU; omega)]; exact l2, d1, hold⟩, hM2⟩
/-! go() -/
theorem mi_o {S : fS} {i m : Nat} (h : S.1 157 i = o3 m) (hi : i < 158) (hm : m < 2147483648) {v : Int32} : (if v < (0 : Int32) then some (0 : Int32) else (gI S 157 158 (o3 i)).bind fun a2 => if a2 ≤ v then some (0 : Int32) else some (1 : Int32)) = some (if 0 ≤ v.toInt ∧ v.toInt < m then 1 else 0) := by
  by_cases g : v < 0
  · rw [if_pos g, if_neg (by rw [ni_lt, ni_0] at g; omega)]
  · rw [if_neg g, gI_o hi (by omega), bd_some, h]
    rw [ni_lt, ni_0] at g
    by_cases z : v.toInt < m
    · rw [if_neg (by rw [ni_le, o3_int (by omega)]; omega), if_pos ⟨by omega, z⟩]
    · rw [if_pos (by rw [ni_le, o3_int (by omega)]; omega), if_neg (fun q => z q.2)]
theorem ci_floor {S : fS} {m : Nat} (h : S.1 4 6 = o3 m) (hm : m < 2147483648) {v : Int32} : f_X10_isFloor v S = some (if 0 ≤ v.toInt ∧ v.toInt < m then 1 else 0) := by
  unfold f_X10_isFloor
  rw [h, from_o hm, bd_some]
  split <;> rfl
theorem ci_thing {S : fS} {m : Nat} (h : S.1 11 5 = o3 m) (hm : m < 2147483648) {v : Int32} : f_X10_isThing v S = some (if 0 ≤ v.toInt ∧ v.toInt < m then 1 else 0) := by
  unfold f_X10_isThing
  rw [h, from_o hm, bd_some]
  split <;> rfl
theorem mi_floor {S : fS} {m : Nat} (h : S.1 157 0 = o3 m) (hm : m < 2147483648) {v : Int32} : f_X11_isFloor v S = some (if 0 ≤ v.toInt ∧ v.toInt < m then 1 else 0) := mi_o h (by omega) hm
theorem mi_stair {S : fS} {m : Nat} (h : S.1 157 1 = o3 m) (hm : m < 2147483648) {v : Int32} : f_X11_isStair v S = some (if 0 ≤ v.toInt ∧ v.toInt < m then 1 else 0) := mi_o h (by omega) hm
theorem mi_thing {S : fS} {m : Nat} (h : S.1 157 2 = o3 m) (hm : m < 2147483648) {v : Int32} : f_X11_isThing v S = some (if 0 ≤ v.toInt ∧ v.toInt < m then 1 else 0) := mi_o h (by omega) hm
theorem cOff_ok2 {m : Nat} {E : List St5} {C : Cw} {th s f : Nat} (hC : okD m E C) (hE : ∀ q ∈ E, okS m q) (hs : s < E.length) (ho : oeI (E.getD s d5) f ≠ -1) : okD m E (cOff C th s (oeI (E.getD s d5) f)) := by
  unfold oeI at ho
  by_cases h1 : (E.getD s d5).1 = f
  · refine cOff_ok (D := fun a b => if a = f then (E.getD s d5).2.2.1 else 0) (b := 0) hC hE hs (Or.inl ⟨h1, ?_, ?_⟩)
    · have := hE _ (gd_mem (d := d5) hs)
      obtain ⟨_, _, s3, _, s5, _⟩ := this
      dsimp only
      rw [if_neg (by omega)]; omega
    · have := hE _ (gd_mem (d := d5) hs)
      obtain ⟨_, _, s3, _, s5, _⟩ := this
      dsimp only
      rw [if_neg (by omega), if_pos rfl]
      omega
  · rw [if_neg h1] at ho
    by_cases h2 : (E.getD s d5).2.1 = f
    · refine cOff_ok (D := fun a b => if a = f then (E.getD s d5).2.2.1 else 0) (b := 0) hC hE hs (Or.inr ⟨h1, h2, ?_, ?_⟩)
      · dsimp only
        rw [if_neg h1]; omega
      · dsimp only
        rw [if_neg h1, if_pos rfl]
        omega
    · rw [if_neg h2] at ho; exact absurd rfl ho
/-- the crowd of a scene put in another's place -/
def snC (s : Sn) (C : Cw) : Sn := (s.1, s.2.1, C, s.2.2.2)
theorem rSc_cw {s : Sn} {S T : fS} {C : Cw} {p : Nat} (hp : 127 ≤ p ∧ p ≤ 142) (h : rSc s S) (hok : okC s.1.length s.2.1 C) (hc : cwC T 11 C) (hm : cwM (T.1 157) (T.2 158) C) (h1 : ∀ a k, 3 < a → a ≤ 21 → ¬ (11 ≤ a ∧ a ≤ 15) → T.1 a k = S.1 a k) (h2 : ∀ a k, 3 < a → a ≤ 21 → a ≠ 16 → T.2 a k = S.2 a k) (h3 : 0 ≤ (T.1 3 3).toInt) (h4 : ∀ k, ¬ (k = 3 ∨ (90 ≤ k ∧ k < 122)) → T.1 157 k = S.1 157 k) (h5 : ∀ k, T.2 161 k = S.2 161 k) : rSc (snC s C) T := by
  obtain ⟨⟨n1, n2, n3, n4, n5, n6⟩, ⟨b1, b2, b3, b4, b5⟩, ⟨m1, m2, m3, m4⟩, d⟩ := h
  refine ⟨⟨n1, n2, n3, n4, hok, n6⟩, ⟨?_, ?_, hc, ?_, h3⟩, ⟨?_, hm, ?_, ?_⟩, rHm_eq d h5⟩
  · exact twC_eq b1 (fun a k _ _ => h1 a k (by omega) (by omega) (by omega)) (fun a k _ _ => h2 a k (by omega) (by omega) (by omega))
  · exact rWm_eq b2 (fun k => h1 _ k (by omega) (by omega) (by omega))
  · exact poC_eq b4 (fun a k _ _ => h1 a k (by omega) (by omega) (by omega))
  · exact twM_eq n1 n2 m1 (fun k hk => h4 k (by omega))
  · obtain ⟨p1, p2⟩ := m3
    refine ⟨(h4 4 (by omega)).trans p1, fun k hk => ?_⟩
    obtain ⟨q1, q2, q3⟩ := p2 k hk
    exact ⟨(h4 _ (by omega)).trans q1, (h4 _ (by omega)).trans q2, (h4 _ (by omega)).trans q3⟩
  · show 0 ≤ (T.1 157 5).toInt
    rw [h4 5 (by omega)]; exact m4
theorem t_9 (a1 a2 : Int32) (S : fS) (hR : Rel S) : ∃ r S1 S2, f_X10_go a1 a2 S = some (r, S1) ∧ f_X11_go a1 a2 S1 = some (r, S2) ∧ Rel S2 := by
  have hR0 := hR
  obtain ⟨n, s, L, M, hT, hS, hL, hM⟩ := hR
  have hS0 := hS
  obtain ⟨⟨n1, n2, n3, n4, n5, n6⟩, ⟨b1, b2, b3, b4, b5⟩, ⟨m1, m2, m3, m4⟩, d⟩ := hS
  have h8 := n5.1
  unfold f_X10_go f_X10_isStanding
  rw [ci_thing b3.1 (by omega), bd_some]
  by_cases h1 : 0 ≤ a1.toInt ∧ a1.toInt < s.2.2.1.1
  · rw [if_pos h1]
    obtain ⟨th, e1, e2⟩ := o3_ex h1.1
    have hth : th < s.2.2.1.1 := by omega
    obtain ⟨k1, k2, k3, k4, k5⟩ := b3.2.2 th hth
    obtain ⟨j1, j2, j3, j4, j5⟩ := m2.2.2 th hth
    rw [if_neg (show ¬ (1 : Int32) = 0 by decide)]
    unfold f_X0_isStanding
    rw [e1, gI_o (by omega) (by omega), bd_some, k1]
    have hM1 : f_X11_isThing (o3 th) S = some 1 := by rw [mi_thing m2.1 (by omega), if_pos (by rw [o3_int (by omega)]; omega)]
    have ht0 : f_X11_thingOf (o3 th) 0 S = some (s.2.2.1.2.2.1 th) := (mw_thing (a := 0) (by omega) (by omega)).trans (congrArg some j1)
    by_cases h0 : s.2.2.1.2.2.1 th < 0
    · rw [if_pos h0, bd_some, if_pos rfl, bd_some, if_pos rfl]
      refine ⟨0, S, S, rfl, ?_, hR0⟩
      unfold f_X11_go
      rw [hM1, bd_some, if_neg (show ¬ (1 : Int32) = 0 by decide), mi_stair m1.2.1 (by omega), bd_some, ht0]
      by_cases hq : 0 ≤ a2.toInt ∧ a2.toInt < s.2.1.length
      · rw [if_pos hq, if_neg (show ¬ (1 : Int32) = 0 by decide), bd_some, if_pos h0]
      · rw [if_neg hq, if_pos rfl]
    · obtain ⟨f, f1, f2⟩ := okT_nn (n5.2.2 th hth).1 n1 h0
      rw [if_neg h0, bd_some, if_neg (show ¬ (1 : Int32) = 0 by decide), bd_some, if_neg (show ¬ (1 : Int32) = 0 by decide), b1.2.1, from_o (by omega), bd_some]
      by_cases h2 : 0 ≤ a2.toInt ∧ a2.toInt < s.2.1.length
      · rw [if_pos h2, if_neg (show ¬ (1 : Int32) = 0 by decide)]
        obtain ⟨st, g1, g2⟩ := o3_ex h2.1
        have hst : st < s.2.1.length := by omega
        rw [g1]
        have hsti : 0 ≤ (o3 st).toInt ∧ (o3 st).toInt < (s.2.1.length : Int) := by rw [o3_int (by omega)]; omega
        obtain ⟨S1, z1, z2, z3⟩ := ch_off b3 h8 b1 n4 n1 n2 hth hst f1 f2
        have z3 := z3 127
        rw [z1, bd_some]
        by_cases ho : oeI (s.2.1.getD st d5) f = -1
        · rw [if_pos ho]
          refine ⟨0, S, S, rfl, ?_, hR0⟩
          unfold f_X11_go
          rw [hM1, bd_some, if_neg (show ¬ (1 : Int32) = 0 by decide), mi_stair m1.2.1 (by omega), bd_some, if_pos hsti, if_neg (show ¬ (1 : Int32) = 0 by decide), ht0, bd_some, if_neg h0, bd_some, f2, mh_other m1 n4 n1 n2 hst (by omega), bd_some, ho, if_neg (by decide)]
        · rw [if_neg ho]
          have q157 : S1.1 157 = S.1 157 := funext fun k => z3.1 157 k (by omega) (by omega) (by omega)
          have q158 : S1.2 158 = S.2 158 := funext fun k => z3.2 158 k (by omega) (by omega)
          have m1' : twM (S1.1 157) s.1 s.2.1 := by rw [q157]; exact m1
          have m2' : cwM (S1.1 157) (S1.2 158) s.2.2.1 := by rw [q157, q158]; exact m2
          obtain ⟨S2, y1, y2, y3⟩ := mh_off m2' h8 m1' n4 n1 n2 hth hst f1 f2
          have hM1' : f_X11_isThing (o3 th) S1 = some 1 := by rw [mi_thing m2'.1 (by omega), if_pos (by rw [o3_int (by omega)]; omega)]
          have ht0' : f_X11_thingOf (o3 th) 0 S1 = some (s.2.2.1.2.2.1 th) := (mw_thing (a := 0) (by omega) (by omega)).trans (congrArg some ((m2'.2.2 th hth).1))
          have hge : (0 : Int32) ≤ oeI (s.2.1.getD st d5) f := by
            rcases oe_or (a := f) (n4 _ (gd_mem (d := d5) hst)) n1 with ⟨o, o1, o2, _⟩ | ⟨o2, _⟩
            · rw [o2]; exact o3_0le (by omega)
            · exact absurd o2 ho
          refine ⟨1, S1, S2, rfl, ?_, n, snC s (cOff s.2.2.1 th st (oeI (s.2.1.getD st d5) f)), L, M, ?_, ?_, ?_, ?_⟩
          · unfold f_X11_go
            rw [hM1', bd_some, if_neg (show ¬ (1 : Int32) = 0 by decide), mi_stair m1'.2.1 (by omega), bd_some, if_pos hsti, if_neg (show ¬ (1 : Int32) = 0 by decide), ht0', bd_some, if_neg h0, bd_some, f2, mh_other m1' n4 n1 n2 hst (by omega), bd_some, if_pos hge, y1, bd_some]
          · exact rTp_eq hT ((y3.1 _ _ (by omega) (by omega)).trans (z3.1 _ _ (by omega) (by omega) (by omega))) ((y3.1 _ _ (by omega) (by omega)).trans (z3.1 _ _ (by omega) (by omega) (by omega))) (fun k => (y3.1 _ _ (by omega) (by omega)).trans (z3.1 _ _ (by omega) (by omega) (by omega))) (fun k => (y3.1 _ _ (by omega) (by omega)).trans (z3.1 _ _ (by omega) (by omega) (by omega)))
          · refine rSc_cw (p := 127) (by omega) hS0 (okC_of (cOff_ok2 (okD_of n5) n4 hst ho) n5.2.1) ?_ y2 (fun a k _ _ _ => (y3.1 _ _ (by omega) (by omega)).trans (z3.1 _ _ (by omega) (by omega) (by omega))) (fun a k _ _ _ => (y3.2 _ _ (by omega) (by omega) (by omega)).trans (z3.2 _ _ (by omega) (by omega))) ?_ (fun k hk => (y3.1 _ _ (by omega) (by omega)).trans (z3.1 _ _ (by omega) (by omega) (by omega))) (fun k => (y3.2 _ _ (by omega) (by omega) (by omega)).trans (z3.2 _ _ (by omega) (by omega)))
            · exact cwC_eq z2 (fun a k _ _ => y3.1 _ _ (by omega) (by omega)) (fun k => y3.2 _ _ (by omega) (by omega) (by omega))
            · rw [y3.1 _ _ (by omega) (by omega), z3.1 _ _ (by omega) (by omega) (by omega)]; exact b5
          · exact rRu_eq hL ((y3.1 _ _ (by omega) (by omega)).trans (z3.1 _ _ (by omega) (by omega) (by omega))) ((y3.1 _ _ (by omega) (by omega)).trans (z3.1 _ _ (by omega) (by omega) (by omega))) (fun a k _ _ _ => (y3.1 _ _ (by omega) (by omega)).trans (z3.1 _ _ (by omega) (by omega) (by omega))) (fun a k _ => (y3.1 _ _ (by omega) (by omega)).trans (z3.1 _ _ (by omega) (by omega) (by omega)))
          · exact rIm_eq hM (fun a k _ _ => (y3.1 _ _ (by omega) (by omega)).trans (z3.1 _ _ (by omega) (by omega) (by omega))) (fun a k _ _ => (y3.2 _ _ (by omega) (by omega) (by omega)).trans (z3.2 _ _ (by omega) (by omega))) (fun k => (y3.1 _ _ (by omega) (by omega)).trans (z3.1 _ _ (by omega) (by omega) (by omega))) (fun k => (y3.2 _ _ (by omega) (by omega) (by omega)).trans (z3.2 _ _ (by omega) (by omega))) (fun k => (y3.1 _ _ (by omega) (by omega)).trans (z3.1 _ _ (by omega) (by omega) (by omega)))
      · rw [if_neg h2, if_pos rfl]
        refine ⟨0, S, S, rfl, ?_, hR0⟩
        unfold f_X11_go
        rw [hM1, bd_some, if_neg (show ¬ (1 : Int32) = 0 by decide), mi_stair m1.2.1 (by omega), bd_some, if_neg h2, if_pos rfl]
  · rw [if_neg h1, if_pos rfl, bd_some, if_pos rfl]
    refine ⟨0, S, S, rfl, ?_, hR0⟩
    unfold f_X11_go
    rw [mi_thing m2.1 (by omega), bd_some, if_neg h1, if_pos rfl]
/-! tick() -/
theorem from_c {v : Int32} {a b : Nat} {S : fS} (ha : a < 2147483648) (hb : b < 2147483648) : f_X10_isFrom v (o3 a) (o3 b) S = some (if (a : Int) ≤ v.toInt ∧ v.toInt ≤ b then 1 else 0) := by
  rcases op_isFrom01 (v := v) (a := o3 a) (b := o3 b) (S := S) with ⟨h, g⟩ | ⟨h, g1, g2⟩
  · rw [o3_int ha, o3_int hb] at g
    rw [h, if_neg g]
  · rw [o3_int ha] at g1
    rw [o3_int hb] at g2
    rw [h, if_pos ⟨g1, g2⟩]
theorem in_c {v : Int32} {a b : Nat} {S : fS} (ha : a < 2147483648) (hb : b < 2147483648) : f_X11_in (Int32.toInt64 v) (o6 a) (o6 b) S = some (if (a : Int) ≤ v.toInt ∧ v.toInt ≤ b then 1 else 0) := by
  rw [← o6_of3 ha, ← o6_of3 hb, op_in, from_c ha hb]
theorem rn_o {v : Int32} {m : Nat} {S : fS} (h : S.1 0 10 = o3 m) (hm : m < 2147483648) : f_X10_isRuleOrNone v S = some (if -1 ≤ v.toInt ∧ v.toInt < m then 1 else 0) := by
  unfold f_X10_isRuleOrNone
  have e : (o3 m - 1 : Int32).toInt = (m : Int) - 1 := by
    rw [ni_sub (by rw [o3_int hm, show (1 : Int32).toInt = 1 from rfl]; omega) (by rw [o3_int hm, show (1 : Int32).toInt = 1 from rfl]; omega), o3_int hm]
    rfl
  rw [h]
  rcases op_isFrom01 (v := v) (a := -1) (b := o3 m - 1) (S := S) with ⟨h, g⟩ | ⟨h, g1, g2⟩
  · rw [h, bd_some, if_neg (by rw [e, show (-1 : Int32).toInt = -1 from rfl] at g; omega)]
    rfl
  · rw [h, bd_some, if_pos (by rw [e] at g2; rw [show (-1 : Int32).toInt = -1 from rfl] at g1; omega)]
    rfl
theorem mr_o {v : Int32} {m : Nat} {S : fS} (h : S.1 145 2 = o3 m) (hm : m < 2147483648) : f_X11_isRule v S = some (if 0 ≤ v.toInt ∧ v.toInt < m then 1 else 0) := by
  unfold f_X11_isRule
  rw [h]
  by_cases g : v < 0
  · rw [if_pos g, if_neg (by rw [ni_lt, ni_0] at g; omega)]
  · rw [if_neg g]
    rw [ni_lt, ni_0] at g
    by_cases z : v.toInt < m
    · rw [if_neg (by rw [ni_le, o3_int (by omega)]; omega), if_pos ⟨by omega, z⟩]
    · rw [if_pos (by rw [ni_le, o3_int (by omega)]; omega), if_neg (fun q => z q.2)]
/-- a rule's number or none: on both sides -/
theorem ru_both {v : Int32} {S : fS} {L : List (List Cl)} (hL : rRu L S) (hv : -1 ≤ v.toInt ∧ v.toInt < L.length) : ∃ p Q, f_X10_ruleOrNull v S = some p ∧ (∀ T : fS, (∀ r, r < L.length → cdC T (127 + 3 * r) (ccode (L.getD r []))) → ruC T p Q) ∧ (∀ T : fS, (∀ r, r < L.length → cdM T r (L.getD r [])) → ruM T v Q) ∧ 127 ≤ p.getD 127 ∧ p.getD 127 ≤ 142 ∧ (p.getD 127) % 3 = 1 := by
  obtain ⟨l1, l2, l3, l4⟩ := hL
  unfold f_X10_ruleOrNull
  rw [l2, from_o (by omega), bd_some]
  by_cases h : 0 ≤ v.toInt
  · rw [if_pos (show 0 ≤ v.toInt ∧ v.toInt < (L.length : Int) from ⟨h, hv.2⟩), if_neg (show ¬ (1 : Int32) = 0 by decide)]
    obtain ⟨r, e1, e2⟩ := o3_ex h
    have hr : r < L.length := by omega
    rw [e1, gA23_o (by omega), bd_some]
    refine ⟨some (127 + 3 * r), some (L.getD r []), rfl, fun T hT => Or.inr ⟨_, _, rfl, rfl, hT r hr, (l4 r hr).2.2.2.2.2.1⟩, fun T hT => Or.inr ⟨r, _, by omega, rfl, rfl, hT r hr⟩, ?_, ?_, ?_⟩
    · show 127 ≤ 127 + 3 * r; omega
    · show 127 + 3 * r ≤ 142; omega
    · show (127 + 3 * r) % 3 = 1; omega
  · rw [if_neg (show ¬ (0 ≤ v.toInt ∧ v.toInt < (L.length : Int)) from fun q => h q.1), if_pos rfl]
    have e : v = -1 := ni_eq.mpr (by show v.toInt = -1; omega)
    exact ⟨none, none, rfl, fun T _ => Or.inl ⟨rfl, rfl⟩, fun T _ => Or.inl ⟨e, rfl⟩, by decide, by decide, by decide⟩
theorem cHrs_ok {F : List (Nat × Nat)} {E : List St5} {Q : Option (List Cl)} (hF : ∀ q ∈ F, okF q) (hE : ∀ q ∈ E, okS F.length q) (hm : F.length ≤ 10) (hl : E.length ≤ 12) : ∀ d (C : Cw), okD F.length E C → C.2.1 + d ≤ 10199 → okD F.length E (cHrs F E Q d C) ∧ (cHrs F E Q d C).1 = C.1 ∧ (cHrs F E Q d C).2.1 = C.2.1 + d := by
  intro d
  induction d with
  | zero => intro C hC _; exact ⟨hC, rfl, rfl⟩
  | succ d ih =>
    intro C hC h9
    obtain ⟨a, b, c⟩ := cHr_ok (Q := Q) hC hF hE hm hl (by omega)
    obtain ⟨x, y, z⟩ := ih (cHr F E Q C) a (by omega)
    exact ⟨x, y.trans b, by rw [show cHrs F E Q (d + 1) C = cHrs F E Q d (cHr F E Q C) from rfl, z, c]; omega⟩
theorem t_10 (a1 a2 : Int32) (S : fS) (hR : Rel S) : ∃ r S1 S2, f_X10_tick a1 a2 S = some (r, S1) ∧ f_X11_tick a1 a2 S1 = some (r, S2) ∧ Rel S2 := by
  have hR0 := hR
  obtain ⟨n, s, L, M, hT, hS, hL, hM⟩ := hR
  have hS0 := hS
  have hL0 := hL
  obtain ⟨⟨n1, n2, n3, n4, n5, n6⟩, ⟨b1, b2, b3, b4, b5⟩, ⟨m1, m2, m3, m4⟩, d⟩ := hS
  obtain ⟨l1, l2, l3, l4⟩ := hL
  have h9 := n5.2.1
  /- the reference, in one form -/
  have hm : ∀ T : fS, T.1 145 2 = o3 L.length → T.1 157 3 = o3 s.2.2.1.2.1 → f_X11_tick a1 a2 T = if -1 ≤ a1.toInt ∧ a1.toInt < L.length then (if (1 : Int) ≤ a2.toInt ∧ a2.toInt ≤ 200 then (if o3 s.2.2.1.2.1 + a2 ≤ (9999 : Int32) then lp_X11_tick_43 a1 a2 (fun S14 => (gI S14 157 158 (3 : Int32)).bind fun a16 => some (a16, S14)) FU (0 : Int32) T else some (-1, T)) else some (-1, T)) else some (-1, T) := fun T h2 h3 => by
    unfold f_X11_tick
    have hin : f_X11_in (Int32.toInt64 a2) 1 200 T = some (if (1 : Int) ≤ a2.toInt ∧ a2.toInt ≤ 200 then 1 else 0) := in_c (a := 1) (b := 200) (by omega) (by omega)
    have hg : gI T 157 158 3 = some (o3 s.2.2.1.2.1) := (gI_o (k := 3) (by omega) (by omega)).trans (congrArg some h3)
    have hrest : ((f_X11_in (Int32.toInt64 a2) 1 200 T).bind fun q2 => if q2 = (0 : Int32) then (some ((-1 : Int32), T)) else ((gI T 157 158 (3 : Int32)).bind fun a6 => if (a6 + a2) ≤ (9999 : Int32) then (lp_X11_tick_43 a1 a2 (fun S14 => (gI S14 157 158 (3 : Int32)).bind fun a16 => some (a16, S14)) FU (0 : Int32) T) else (some ((-1 : Int32), T)))) = (if (1 : Int) ≤ a2.toInt ∧ a2.toInt ≤ 200 then (if o3 s.2.2.1.2.1 + a2 ≤ (9999 : Int32) then lp_X11_tick_43 a1 a2 (fun S14 => (gI S14 157 158 (3 : Int32)).bind fun a16 => some (a16, S14)) FU (0 : Int32) T else some (-1, T)) else some (-1, T)) := by
      rw [hin, bd_some]
      by_cases z : (1 : Int) ≤ a2.toInt ∧ a2.toInt ≤ 200
      · rw [if_pos z, if_pos z, if_neg (show ¬ (1 : Int32) = 0 by decide), hg, bd_some]
      · rw [if_neg z, if_neg z, if_pos rfl]
    by_cases h1 : a1 = -1
    · rw [if_pos h1, hrest, if_pos (show -1 ≤ a1.toInt ∧ a1.toInt < (L.length : Int) from by rw [h1, show (-1 : Int32).toInt = -1 from rfl]; omega)]
    · rw [if_neg h1, mr_o h2 (by omega), bd_some]
      have h1' : a1.toInt ≠ -1 := fun q => h1 (ni_eq.mpr q)
      by_cases z : 0 ≤ a1.toInt ∧ a1.toInt < L.length
      · rw [if_pos z, if_neg (show ¬ (1 : Int32) = 0 by decide), hrest, if_pos (show -1 ≤ a1.toInt ∧ a1.toInt < (L.length : Int) by omega)]
      · rw [if_neg z, if_pos rfl, if_neg (show ¬ (-1 ≤ a1.toInt ∧ a1.toInt < (L.length : Int)) by omega)]
  unfold f_X10_tick
  rw [rn_o l2 (by omega), bd_some]
  by_cases h1 : -1 ≤ a1.toInt ∧ a1.toInt < L.length
  · have hfr : f_X10_isFrom a2 1 200 S = some (if (1 : Int) ≤ a2.toInt ∧ a2.toInt ≤ 200 then 1 else 0) := from_c (a := 1) (b := 200) (by omega) (by omega)
    rw [if_pos h1, if_neg (show ¬ (1 : Int32) = 0 by decide), hfr, bd_some]
    by_cases h2 : (1 : Int) ≤ a2.toInt ∧ a2.toInt ≤ 200
    · rw [if_pos h2, if_neg (show ¬ (1 : Int32) = 0 by decide), b3.2.1]
      by_cases h3 : o3 s.2.2.1.2.1 + a2 ≤ (9999 : Int32)
      · rw [if_pos h3]
        obtain ⟨h, g1, g2⟩ := o3_ex (x := a2) (by omega)
        have h9' : s.2.2.1.2.1 + h ≤ 9999 := by
          rw [g1, o3_add] at h3
          exact (o3_le (b := 9999) (by omega) (by omega)).mp h3
        obtain ⟨p, Q, p1, p2, p3, p4, p5, p6⟩ := ru_both hL0 h1
        rw [p1, bd_some, g1]
        obtain ⟨S1, z1, z2, z3⟩ := c_live (p := p) (Q := Q) (t := 4) (c := 11) (by omega) (by omega) n3 n4 n1 n2 (h := h) (by omega) (K := fun S12 => some S12) h 0 FU S s.2.2.1 (by omega) (FU_lt (by omega)) (okD_of n5) (by omega) b3 b1 b2 (p2 S (fun r hr => (l4 r hr).1))
        have z1' : f_X0_live 11 4 p (o3 h) S = some S1 := z1
        have q157 : S1.1 157 = S.1 157 := funext fun k => z3.1 157 k (by omega) (by omega) (by omega)
        have q158 : S1.2 158 = S.2 158 := funext fun k => z3.2 158 k (by omega) (by omega)
        obtain ⟨c1, c2, c3⟩ := cHrs_ok (Q := Q) n3 n4 n1 n2 h s.2.2.1 (okD_of n5) (by omega)
        obtain ⟨S2, y1, y2, y3⟩ := m_tickl (v := a1) (Q := Q) n3 n4 n1 n2 (h := h) (by omega) (K := fun S14 => (gI S14 157 158 (3 : Int32)).bind fun a16 => some (a16, S14)) h 0 FU S1 s.2.2.1 (by omega) (FU_lt (by omega)) (okD_of n5) (by omega) (by rw [q157, q158]; exact m2) (by rw [q157]; exact m1) (rHm_eq d (fun k => z3.2 _ k (by omega) (by omega))) (p3 S1 (fun r hr => cdM_eq (l4 r hr).2 (fun a k _ => z3.1 a k (by omega) (by omega) (by omega))))
        have y1' : lp_X11_tick_43 a1 (o3 h) (fun S14 => (gI S14 157 158 (3 : Int32)).bind fun a16 => some (a16, S14)) FU (0 : Int32) S1 = (gI S2 157 158 (3 : Int32)).bind fun a16 => some (a16, S2) := y1
        have e1 : ∀ a k, ¬ (11 ≤ a ∧ a ≤ 15) → ¬ (a = p.getD 127 ∧ k = 3) → ¬ (a = 157 ∧ (k = 3 ∨ (90 ≤ k ∧ k < 122))) → ¬ (a = 145 ∧ k = 23) → S2.1 a k = S.1 a k := fun a k x1 x2 x3 x4 => (y3.1 a k x3 x4).trans (z3.1 a k (by omega) (by omega) x2)
        have e2 : ∀ a k, a ≠ 16 → a ≠ p.getD 127 + 2 → a ≠ 155 → a ≠ 156 → a ≠ 158 → S2.2 a k = S.2 a k := fun a k x1 x2 x3 x4 x5 => (y3.2 a k x3 x4 x5).trans (z3.2 a k x1 x2)
        rw [z1', bd_some]
        refine ⟨_, S1, S2, rfl, ?_, n, snC s (cHrs s.1 s.2.1 Q h s.2.2.1), L, M, ?_, ?_, ?_, ?_⟩
        · rw [← g1, hm S1 ((z3.1 _ _ (by omega) (by omega) (by omega)).trans l3) (by rw [q157]; exact m2.2.1), if_pos h1, if_pos h2, if_pos h3, g1, y1', show (3 : Int32) = o3 3 from rfl, gI_o (by omega) (by omega), bd_some, y2.2.1, z2.2.1]
        · exact rTp_eq hT (e1 _ _ (by omega) (by omega) (by omega) (by omega)) (e1 _ _ (by omega) (by omega) (by omega) (by omega)) (fun k => e1 _ _ (by omega) (by omega) (by omega) (by omega)) (fun k => e1 _ _ (by omega) (by omega) (by omega) (by omega))
        · refine rSc_cw (p := 127) (by omega) hS0 (okC_of c1 (by rw [c3]; exact h9')) ?_ y2 (fun a k _ _ _ => e1 a k (by omega) (by omega) (by omega) (by omega)) (fun a k _ _ _ => e2 a k (by omega) (by omega) (by omega) (by omega) (by omega)) ?_ (fun k hk => e1 _ _ (by omega) (by omega) (by omega) (by omega)) (fun k => e2 _ k (by omega) (by omega) (by omega) (by omega) (by omega))
          · exact cwC_eq z2 (fun a k _ _ => y3.1 _ _ (by omega) (by omega)) (fun k => y3.2 _ _ (by omega) (by omega) (by omega))
          · rw [e1 3 3 (by omega) (by omega) (by omega) (by omega)]; exact b5
        · exact rRu_eq hL0 (e1 _ _ (by omega) (by omega) (by omega) (by omega)) (e1 _ _ (by omega) (by omega) (by omega) (by omega)) (fun a k x1 x2 x3 => e1 a k (by omega) (by omega) (by omega) (by omega)) (fun a k _ => e1 a k (by omega) (by omega) (by omega) (by omega))
        · exact rIm_eq hM (fun a k _ _ => e1 a k (by omega) (by omega) (by omega) (by omega)) (fun a k _ _ => e2 a k (by omega) (by omega) (by omega) (by omega) (by omega)) (fun k => e1 _ _ (by omega) (by omega) (by omega) (by omega)) (fun k => e2 _ k (by omega) (by omega) (by omega) (by omega) (by omega)) (fun k => e1 _ _ (by omega) (by omega) (by omega) (by omega))
      · rw [if_neg h3]
        exact ⟨-1, S, S, rfl, by rw [hm S l3 m2.2.1, if_pos h1, if_pos h2, if_neg h3], hR0⟩
    · rw [if_neg h2, if_pos rfl]
      exact ⟨-1, S, S, rfl, by rw [hm S l3 m2.2.1, if_pos h1, if_neg h2], hR0⟩
  · rw [if_neg h1, if_pos rfl]
    exact ⟨-1, S, S, rfl, by rw [hm S l3 m2.2.1, if_neg h1], hR0⟩
end
noncomputable section
/-! lowest terms -/
theorem hlf {r b : Nat} (hr : r ≠ 0) (h : r ≤ b) : 2 * (b % r) < b := by
  have h1 : b % r < r := Nat.mod_lt _ (by omega)
  have h2 : r * (b / r) + b % r = b := Nat.div_add_mod b r
  have h3 : 1 ≤ b / r := (Nat.one_le_div_iff (by omega)).mpr h
  have h4 : r * 1 ≤ r * (b / r) := Nat.mul_le_mul_left r h3
  omega
theorem gcd_st (a b : Nat) : Nat.gcd b (a % b) = Nat.gcd a b := by
  rw [Nat.gcd_comm b (a % b), ← Nat.gcd_rec, Nat.gcd_comm]
section GC
variable {S : fS}
theorem cg_lp {K : Int64 → Option Int64} : ∀ k a b p nn, b < 2 ^ k → a < 9223372036854775808 → b < 9223372036854775808 → p + 2 * k ≤ 127 → 2 * k < nn → lp_X10_commonDivisor_15 S K nn (o6 a) (o6 b) (o3 p) = K (o6 (Nat.gcd a b)) := by
  intro k
  induction k with
  | zero =>
    intro a b p nn hb ha hb2 hp hnn
    obtain ⟨nn, rfl⟩ : ∃ z, nn = z + 1 := ⟨nn - 1, by omega⟩
    have e : b = 0 := by have : b < 1 := hb; omega
    rw [lp_X10_commonDivisor_15.eq_2, if_neg (show ¬ (128 : Int32) ≤ o3 p from fun q => by have := (o3_le (a := 128) (by omega) (by omega)).mp q; omega), e, if_pos (show o6 0 = (0 : Int64) from rfl), Nat.gcd_zero_right]
  | succ k ih =>
    intro a b p nn hb ha hb2 hp hnn
    obtain ⟨nn, rfl⟩ : ∃ z, nn = z + 2 := ⟨nn - 2, by omega⟩
    rw [lp_X10_commonDivisor_15.eq_2, if_neg (show ¬ (128 : Int32) ≤ o3 p from fun q => by have := (o3_le (a := 128) (by omega) (by omega)).mp q; omega)]
    by_cases h0 : b = 0
    · rw [h0, if_pos (show o6 0 = (0 : Int64) from rfl), Nat.gcd_zero_right]
    · rw [if_neg (o6_ne0 hb2 h0), o6_rL ha hb2 h0, bd_some, o3_s]
      have hr : a % b < b := Nat.mod_lt _ (by omega)
      rw [lp_X10_commonDivisor_15.eq_2, if_neg (show ¬ (128 : Int32) ≤ o3 (p + 1) from fun q => by have := (o3_le (a := 128) (by omega) (by omega)).mp q; omega), ← gcd_st a b]
      by_cases h1 : a % b = 0
      · rw [h1, if_pos (show o6 0 = (0 : Int64) from rfl), Nat.gcd_zero_right]
      · rw [if_neg (o6_ne0 (by omega) h1), o6_rL hb2 (by omega) h1, bd_some, o3_s, ← gcd_st b (a % b)]
        have h2 := hlf h1 (Nat.le_of_lt hr)
        have h3 : b % (a % b) < 2 ^ k := by
          have : (2 : Nat) ^ (k + 1) = 2 * 2 ^ k := by rw [Nat.pow_succ]; omega
          omega
        exact ih (a % b) (b % (a % b)) (p + 1 + 1) nn h3 (by omega) (by omega) (by omega) (by omega)
theorem mg_lp {K : Int64 → Option Int64} : ∀ k a b nn, b < 2 ^ k → a < 9223372036854775808 → b < 9223372036854775808 → 2 * k < nn → lp_X11_divisor_28 S K nn (o6 a) (o6 b) = K (o6 (Nat.gcd a b)) := by
  intro k
  induction k with
  | zero =>
    intro a b nn hb ha hb2 hnn
    obtain ⟨nn, rfl⟩ : ∃ z, nn = z + 1 := ⟨nn - 1, by omega⟩
    have e : b = 0 := by have : b < 1 := hb; omega
    rw [lp_X11_divisor_28.eq_2, e, if_pos (show o6 0 = (0 : Int64) from rfl), Nat.gcd_zero_right]
  | succ k ih =>
    intro a b nn hb ha hb2 hnn
    obtain ⟨nn, rfl⟩ : ∃ z, nn = z + 2 := ⟨nn - 2, by omega⟩
    rw [lp_X11_divisor_28.eq_2]
    by_cases h0 : b = 0
    · rw [h0, if_pos (show o6 0 = (0 : Int64) from rfl), Nat.gcd_zero_right]
    · rw [if_neg (o6_ne0 hb2 h0), o6_rL ha hb2 h0, bd_some]
      have hr : a % b < b := Nat.mod_lt _ (by omega)
      rw [lp_X11_divisor_28.eq_2, ← gcd_st a b]
      by_cases h1 : a % b = 0
      · rw [h1, if_pos (show o6 0 = (0 : Int64) from rfl), Nat.gcd_zero_right]
      · rw [if_neg (o6_ne0 (by omega) h1), o6_rL hb2 (by omega) h1, bd_some, ← gcd_st b (a % b)]
        have h2 := hlf h1 (Nat.le_of_lt hr)
        have h3 : b % (a % b) < 2 ^ k := by
          have : (2 : Nat) ^ (k + 1) = 2 * 2 ^ k := by rw [Nat.pow_succ]; omega
          omega
        exact ih (a % b) (b % (a % b)) nn h3 (by omega) (by omega) (by omega)
theorem c_cd {a b : Nat} (ha : a < 9223372036854775808) (hb : b < 9223372036854775808) : f_X10_commonDivisor (o6 a) (o6 b) S = some (o6 (Nat.gcd a b)) := by
  unfold f_X10_commonDivisor f_J9_abs_067f4
  rw [if_pos (o6_0le ha), if_pos (o6_0le hb), bd_some, bd_some]
  exact cg_lp (K := fun u12 => some u12) 63 a b 0 FU hb ha hb (by omega) (FU_lt (by omega))
theorem m_cd {a b : Nat} (ha : a < 9223372036854775808) (hb : b < 9223372036854775808) : f_X11_divisor (o6 a) (o6 b) S = some (o6 (Nat.gcd a b)) := by
  unfold f_X11_divisor
  rw [if_pos (o6_0le ha), if_pos (o6_0le hb)]
  exact mg_lp (K := fun u7 => some u7) 63 a b FU hb ha hb (FU_lt (by omega))
/-- the numerator, or the denominator, of a / b in lowest terms -/
def lw (a b : Nat) (v : Int32) : Int64 := if v = 0 then o6 (a / Nat.gcd a b) else o6 (b / Nat.gcd a b)
theorem gcd_lt {a b : Nat} (ha : a < 9223372036854775808) (hb : b < 9223372036854775808) (h0 : 0 < b) : Nat.gcd a b < 9223372036854775808 ∧ Nat.gcd a b ≠ 0 := by
  have h1 := Nat.gcd_le_right a h0
  have h2 := Nat.gcd_pos_of_pos_right a h0
  omega
theorem c_low {a b : Nat} {v : Int32} (ha : a < 9223372036854775808) (hb : b < 9223372036854775808) (h0 : 0 < b) : f_X10_lowest (o6 a) (o6 b) v S = some (lw a b v) := by
  obtain ⟨g1, g2⟩ := gcd_lt ha hb h0
  unfold f_X10_lowest lw
  rw [c_cd ha hb, bd_some, if_neg (o6_ne0 g1 g2), o6_dL ha g1 g2, o6_dL hb g1 g2, bd_some, bd_some]
  split <;> rfl
theorem m_low {a b : Nat} {v : Int32} (ha : a < 9223372036854775808) (hb : b < 9223372036854775808) (h0 : 0 < b) : f_X11_lowest (o6 a) (o6 b) v S = some (lw a b v) := by
  obtain ⟨g1, g2⟩ := gcd_lt ha hb h0
  unfold f_X11_lowest lw
  rw [m_cd ha hb, bd_some, o6_dL ha g1 g2, o6_dL hb g1 g2, bd_some, bd_some]
  split <;> rfl
end GC
theorem lw_sc {a b z : Nat} {v : Int32} (hz : 0 < z) : lw (a * z) (b * z) v = lw a b v := by
  unfold lw
  rw [Nat.gcd_mul_right, Nat.mul_div_mul_right _ _ hz, Nat.mul_div_mul_right _ _ hz]
theorem lw_cross {a b c d : Nat} {v : Int32} (hb : 0 < b) (hd : 0 < d) (h : a * d = c * b) : lw a b v = lw c d v := by
  rw [← lw_sc (a := a) (b := b) hd, h, Nat.mul_comm b d, lw_sc hb]
theorem lw_le {a b : Nat} {v : Int32} (ha : a < 9223372036854775808) (hb : b < 9223372036854775808) (h0 : 0 < b) : ∃ k, lw a b v = o6 k ∧ k ≤ (if v = 0 then a else b) := by
  unfold lw
  by_cases h : v = 0
  · rw [if_pos h, if_pos h]; exact ⟨_, rfl, Nat.div_le_self _ _⟩
  · rw [if_neg h, if_neg h]; exact ⟨_, rfl, Nat.div_le_self _ _⟩
/-- the rate's own number of parts -/
def pz (q : Nat × Nat) : Nat := 232792560 / q.2
theorem pz_eq {q : Nat × Nat} (h : okF q) : pz q * q.2 = 232792560 ∧ 0 < pz q ∧ pz q ≤ 232792560 := by
  obtain ⟨h1, h2, h3, h4⟩ := h
  have hd : 232792560 / q.2 * q.2 = 232792560 := by
    have : q.2 = 1 ∨ q.2 = 2 ∨ q.2 = 3 ∨ q.2 = 4 ∨ q.2 = 5 ∨ q.2 = 6 ∨ q.2 = 7 ∨ q.2 = 8 ∨ q.2 = 9 ∨ q.2 = 10 ∨ q.2 = 11 ∨ q.2 = 12 ∨ q.2 = 13 ∨ q.2 = 14 ∨ q.2 = 15 ∨ q.2 = 16 ∨ q.2 = 17 ∨ q.2 = 18 ∨ q.2 = 19 ∨ q.2 = 20 := by omega
    rcases this with e | e | e | e | e | e | e | e | e | e | e | e | e | e | e | e | e | e | e | e <;> rw [e]
  exact ⟨hd, Nat.div_pos (by omega) (by omega), Nat.div_le_self _ _⟩
theorem pc_o {q : Nat × Nat} : pc q = o6 (q.1 * pz q) := rfl
theorem pcn_le {q : Nat × Nat} (h : okF q) : 0 < q.1 * pz q ∧ q.1 * pz q ≤ 4655851200 := by
  obtain ⟨_, h2, h3⟩ := pz_eq h
  have := h.1
  have h5 : q.1 * pz q ≤ 20 * 232792560 := Nat.mul_le_mul h.2.1 h3
  exact ⟨Nat.mul_pos (by omega) h2, by omega⟩
end
noncomputable section
/-! what only asks: floor, stair, thing, age, older, far, next, clock -/
theorem lwF {q : Nat × Nat} {v : Int32} (h : okF q) : lw (q.1 * pz q) 232792560 v = lw q.1 q.2 v := by
  obtain ⟨h1, h2, _⟩ := pz_eq h
  have e : 232792560 = q.2 * pz q := by rw [Nat.mul_comm]; exact h1.symm
  rw [show lw (q.1 * pz q) 232792560 v = lw (q.1 * pz q) (q.2 * pz q) v by rw [← e], lw_sc h2]
section QR
variable {S : fS} {F : List (Nat × Nat)} {E : List St5}
theorem cf_p (b1 : twC S 4 F E) (hm : F.length ≤ 10) {f : Nat} (hf : f < F.length) : gL S 5 10 (o3 f) = some (pc (F.getD f (0, 0))) := by
  rw [gL_o (by omega) (by omega)]
  exact congrArg some (b1.2.2.1 f hf)
theorem mf_a (m1 : twM (S.1 157) F E) (hm : F.length ≤ 10) {f : Nat} (hf : f < F.length) : gI S 157 158 ((10 : Int32) + ((2 : Int32) * o3 f)) = some (o3 (F.getD f (0, 0)).1) := by
  rw [show (10 : Int32) = o3 10 from rfl, show (2 : Int32) = o3 2 from rfl, o3_mul, o3_add, gI_o (by omega) (by omega), (m1.2.2.1 f hf).1]
theorem mf_b (m1 : twM (S.1 157) F E) (hm : F.length ≤ 10) {f : Nat} (hf : f < F.length) : gI S 157 158 (((10 : Int32) + ((2 : Int32) * o3 f)) + (1 : Int32)) = some (o3 (F.getD f (0, 0)).2) := by
  rw [show (10 : Int32) = o3 10 from rfl, show (2 : Int32) = o3 2 from rfl, o3_mul, o3_add, o3_s, gI_o (by omega) (by omega), (m1.2.2.1 f hf).2]
end QR
theorem t_4 (a1 a2 : Int32) (S : fS) (hR : Rel S) : ∃ r, f_X10_floor a1 a2 S = some r ∧ f_X11_floor a1 a2 S = some r ∧ Rel S := by
  have hR0 := hR
  obtain ⟨n, s, L, M, hT, ⟨⟨n1, n2, n3, n4, n5, n6⟩, ⟨b1, b2, b3, b4, b5⟩, ⟨m1, m2, m3, m4⟩, d⟩, hL, hM⟩ := hR
  have h8 := n5.1
  have hi1 : f_X10_isFrom a2 0 2 S = some (if ((0 : Nat) : Int) ≤ a2.toInt ∧ a2.toInt ≤ ((2 : Nat) : Int) then 1 else 0) := from_c (a := 0) (b := 2) (by omega) (by omega)
  have hi2 : f_X11_in (Int32.toInt64 a2) 0 2 S = some (if ((0 : Nat) : Int) ≤ a2.toInt ∧ a2.toInt ≤ ((2 : Nat) : Int) then 1 else 0) := in_c (a := 0) (b := 2) (by omega) (by omega)
  unfold f_X10_floor f_X11_floor
  rw [ci_floor b1.1 (by omega), mi_floor m1.1 (by omega), bd_some, bd_some, hi1, hi2, bd_some, bd_some]
  by_cases h1 : 0 ≤ a1.toInt ∧ a1.toInt < s.1.length
  · rw [if_pos h1, if_neg (show ¬ (1 : Int32) = 0 by decide), if_neg (show ¬ (1 : Int32) = 0 by decide)]
    by_cases h2 : ((0 : Nat) : Int) ≤ a2.toInt ∧ a2.toInt ≤ ((2 : Nat) : Int)
    · rw [if_pos h2, if_neg (show ¬ (1 : Int32) = 0 by decide), if_neg (show ¬ (1 : Int32) = 0 by decide)]
      by_cases h3 : a2 = 2
      · rw [if_pos h3, if_pos h3, cw_standing b3 h8, mw_standing m2 h8, bd_some]
        exact ⟨_, rfl, rfl, hR0⟩
      · obtain ⟨f, e1, e2⟩ := o3_ex h1.1
        have hf : f < s.1.length := by omega
        have hq := n3 _ (gd_mem (d := (0, 0)) hf)
        have hp := pcn_le hq
        obtain ⟨q1, q2, q3, q4⟩ := hq
        rw [if_neg h3, if_neg h3, e1, cf_p b1 n1 hf, mf_a m1 n1 hf, mf_b m1 n1 hf, bd_some, bd_some, bd_some, pc_o, show (232792560 : Int64) = o6 232792560 from rfl, c_low (by omega) (by omega) (by omega), bd_some, o6_of3 (by omega), o6_of3 (by omega), m_low (by omega) (by omega) (by omega), bd_some, lwF ⟨q1, q2, q3, q4⟩]
        exact ⟨_, rfl, rfl, hR0⟩
    · rw [if_neg h2, if_pos rfl, if_pos rfl]
      exact ⟨_, rfl, rfl, hR0⟩
  · rw [if_neg h1, if_pos rfl, if_pos rfl]
    exact ⟨_, rfl, rfl, hR0⟩
theorem t_5 (a1 a2 : Int32) (S : fS) (hR : Rel S) : ∃ r, f_X10_stair a1 a2 S = some r ∧ f_X11_stair a1 a2 S = some r ∧ Rel S := by
  have hR0 := hR
  obtain ⟨n, s, L, M, hT, ⟨⟨n1, n2, n3, n4, n5, n6⟩, ⟨b1, b2, b3, b4, b5⟩, ⟨m1, m2, m3, m4⟩, d⟩, hL, hM⟩ := hR
  have hi1 : f_X10_isFrom a2 0 4 S = some (if ((0 : Nat) : Int) ≤ a2.toInt ∧ a2.toInt ≤ ((4 : Nat) : Int) then 1 else 0) := from_c (a := 0) (b := 4) (by omega) (by omega)
  have hi2 : f_X11_in (Int32.toInt64 a2) 0 4 S = some (if ((0 : Nat) : Int) ≤ a2.toInt ∧ a2.toInt ≤ ((4 : Nat) : Int) then 1 else 0) := in_c (a := 0) (b := 4) (by omega) (by omega)
  unfold f_X10_stair f_X11_stair
  rw [b1.2.1, from_o (by omega), mi_stair m1.2.1 (by omega), bd_some, bd_some, hi1, hi2, bd_some, bd_some]
  by_cases h1 : 0 ≤ a1.toInt ∧ a1.toInt < s.2.1.length
  · rw [if_pos h1, if_neg (show ¬ (1 : Int32) = 0 by decide), if_neg (show ¬ (1 : Int32) = 0 by decide)]
    by_cases h2 : ((0 : Nat) : Int) ≤ a2.toInt ∧ a2.toInt ≤ ((4 : Nat) : Int)
    · rw [if_pos h2, if_neg (show ¬ (1 : Int32) = 0 by decide), if_neg (show ¬ (1 : Int32) = 0 by decide)]
      obtain ⟨f, e1, e2⟩ := o3_ex h1.1
      obtain ⟨v, g1, g2⟩ := o3_ex (x := a2) (by omega)
      have hf : f < s.2.1.length := by omega
      obtain ⟨_, _, _, _, _, hq⟩ := n4 _ (gd_mem (d := d5) hf)
      have hp := pcn_le hq
      have hq0 := hq
      obtain ⟨q1, q2, q3, q4⟩ := hq
      obtain ⟨w1, w2, w3, w4⟩ := b1.2.2.2 f hf
      obtain ⟨u1, u2, u3, u4, u5⟩ := mh_stair m1 n2 hf
      have hlow : ∀ v' : Int32, ((gL S 9 12 (o3 f)).bind fun a21 => (f_X10_lowest a21 (232792560 : Int64) v' S).bind fun q24 => some (Int64.toInt32 q24)) = ((f_X11_stairOf (o3 f) (3 : Int32) S).bind fun q10 => (f_X11_stairOf (o3 f) (4 : Int32) S).bind fun q13 => (f_X11_lowest (Int32.toInt64 q10) (Int32.toInt64 q13) v' S).bind fun q16 => some (Int64.toInt32 q16)) ∧ ∃ r, ((gL S 9 12 (o3 f)).bind fun a21 => (f_X10_lowest a21 (232792560 : Int64) v' S).bind fun q24 => some (Int64.toInt32 q24)) = some r := fun v' => by
        have u4 : f_X11_stairOf (o3 f) 3 S = some (o3 (s.2.1.getD f d5).2.2.2.1) := u4
        have u5 : f_X11_stairOf (o3 f) 4 S = some (o3 (s.2.1.getD f d5).2.2.2.2) := u5
        rw [gL_o (by omega) (by omega), bd_some, show S.2 9 f = pc (s.2.1.getD f d5).2.2.2 from w4, pc_o, show (232792560 : Int64) = o6 232792560 from rfl, c_low (by omega) (by omega) (by omega), bd_some, u4, u5, bd_some, bd_some, o6_of3 (by omega), o6_of3 (by omega), m_low (by omega) (by omega) (by omega), bd_some, lwF hq0]
        exact ⟨rfl, _, rfl⟩
      have : v = 0 ∨ v = 1 ∨ v = 2 ∨ v = 3 ∨ v = 4 := by omega
      rw [e1, g1]
      rcases this with rfl | rfl | rfl | rfl | rfl
      · rw [if_pos (show o3 0 = (0 : Int32) from rfl), if_neg (show ¬ (3 : Int32) ≤ o3 0 by decide), gI_o (by omega) (by omega), bd_some, u1, bd_some]
        exact ⟨_, congrArg some w1, rfl, hR0⟩
      · rw [if_neg (show ¬ o3 1 = (0 : Int32) by decide), if_pos (show o3 1 = (1 : Int32) from rfl), if_neg (show ¬ (3 : Int32) ≤ o3 1 by decide), gI_o (by omega) (by omega), bd_some, u2, bd_some]
        exact ⟨_, congrArg some w2, rfl, hR0⟩
      · rw [if_neg (show ¬ o3 2 = (0 : Int32) by decide), if_neg (show ¬ o3 2 = (1 : Int32) by decide), if_pos (show o3 2 = (2 : Int32) from rfl), if_neg (show ¬ (3 : Int32) ≤ o3 2 by decide), gI_o (by omega) (by omega), bd_some, u3, bd_some]
        exact ⟨_, congrArg some w3, rfl, hR0⟩
      · rw [if_neg (show ¬ o3 3 = (0 : Int32) by decide), if_neg (show ¬ o3 3 = (1 : Int32) by decide), if_neg (show ¬ o3 3 = (2 : Int32) by decide), if_pos (show (3 : Int32) ≤ o3 3 by decide)]
        obtain ⟨z1, r, z2⟩ := hlow (o3 3 - 3)
        exact ⟨r, z2, z1 ▸ z2, hR0⟩
      · rw [if_neg (show ¬ o3 4 = (0 : Int32) by decide), if_neg (show ¬ o3 4 = (1 : Int32) by decide), if_neg (show ¬ o3 4 = (2 : Int32) by decide), if_pos (show (3 : Int32) ≤ o3 4 by decide)]
        obtain ⟨z1, r, z2⟩ := hlow (o3 4 - 3)
        exact ⟨r, z2, z1 ▸ z2, hR0⟩
    · rw [if_neg h2, if_pos rfl, if_pos rfl]
      exact ⟨_, rfl, rfl, hR0⟩
  · rw [if_neg h1, if_pos rfl, if_pos rfl]
    exact ⟨_, rfl, rfl, hR0⟩
theorem t_6 (a1 a2 : Int32) (S : fS) (hR : Rel S) : ∃ r, f_X10_thing a1 a2 S = some r ∧ f_X11_thing a1 a2 S = some r ∧ Rel S := by
  have hR0 := hR
  obtain ⟨n, s, L, M, hT, ⟨⟨n1, n2, n3, n4, n5, n6⟩, ⟨b1, b2, b3, b4, b5⟩, ⟨m1, m2, m3, m4⟩, d⟩, hL, hM⟩ := hR
  have h8 := n5.1
  have hi1 : f_X10_isFrom a2 0 3 S = some (if ((0 : Nat) : Int) ≤ a2.toInt ∧ a2.toInt ≤ ((3 : Nat) : Int) then 1 else 0) := from_c (a := 0) (b := 3) (by omega) (by omega)
  have hi2 : f_X11_in (Int32.toInt64 a2) 0 3 S = some (if ((0 : Nat) : Int) ≤ a2.toInt ∧ a2.toInt ≤ ((3 : Nat) : Int) then 1 else 0) := in_c (a := 0) (b := 3) (by omega) (by omega)
  unfold f_X10_thing f_X11_thing
  rw [ci_thing b3.1 (by omega), mi_thing m2.1 (by omega), bd_some, bd_some, hi1, hi2, bd_some, bd_some]
  by_cases h1 : 0 ≤ a1.toInt ∧ a1.toInt < s.2.2.1.1
  · rw [if_pos h1, if_neg (show ¬ (1 : Int32) = 0 by decide), if_neg (show ¬ (1 : Int32) = 0 by decide)]
    by_cases h2 : ((0 : Nat) : Int) ≤ a2.toInt ∧ a2.toInt ≤ ((3 : Nat) : Int)
    · rw [if_pos h2, if_neg (show ¬ (1 : Int32) = 0 by decide), if_neg (show ¬ (1 : Int32) = 0 by decide)]
      obtain ⟨f, e1, e2⟩ := o3_ex h1.1
      obtain ⟨v, g1, g2⟩ := o3_ex (x := a2) (by omega)
      have hf : f < s.2.2.1.1 := by omega
      obtain ⟨w1, w2, w3, w4, w5⟩ := b3.2.2 f hf
      obtain ⟨u1, u2, u3, u4, u5⟩ := m2.2.2 f hf
      rw [e1, g1, mw_thing (by omega) (by omega), bd_some]
      have : v = 0 ∨ v = 1 ∨ v = 2 ∨ v = 3 := by omega
      rcases this with rfl | rfl | rfl | rfl
      · rw [if_pos (show o3 0 = (0 : Int32) from rfl), gI_o (by omega) (by omega), bd_some]
        exact ⟨_, congrArg some w1, congrArg some u1, hR0⟩
      · rw [if_neg (show ¬ o3 1 = (0 : Int32) by decide), if_pos (show o3 1 = (1 : Int32) from rfl), gI_o (by omega) (by omega), bd_some]
        exact ⟨_, congrArg some w2, congrArg some u2, hR0⟩
      · rw [if_neg (show ¬ o3 2 = (0 : Int32) by decide), if_neg (show ¬ o3 2 = (1 : Int32) by decide), if_pos (show o3 2 = (2 : Int32) from rfl), gI_o (by omega) (by omega), bd_some]
        exact ⟨_, congrArg some w3, congrArg some u3, hR0⟩
      · rw [if_neg (show ¬ o3 3 = (0 : Int32) by decide), if_neg (show ¬ o3 3 = (1 : Int32) by decide), if_neg (show ¬ o3 3 = (2 : Int32) by decide), gI_o (by omega) (by omega), bd_some]
        exact ⟨_, congrArg some w4, congrArg some u4, hR0⟩
    · rw [if_neg h2, if_pos rfl, if_pos rfl]
      exact ⟨_, rfl, rfl, hR0⟩
  · rw [if_neg h1, if_pos rfl, if_pos rfl]
    exact ⟨_, rfl, rfl, hR0⟩
/-- an age as a number -/
theorem age_o {m : Nat} {E : List St5} {C : Cw} (h : okC m E C) {k : Nat} (hk : k < C.1) : ∃ a, C.2.2.2.2.2.2 k = o6 a ∧ a ≤ 46553856148800 := by
  obtain ⟨_, h1, h2⟩ := h
  obtain ⟨_, h3, h4⟩ := h2 k hk
  obtain ⟨a, e1, e2⟩ := o6_of h3
  exact ⟨a, e1, by omega⟩
theorem part_c {v : Int32} {S : fS} : f_X10_isPart v S = some (if ((0 : Nat) : Int) ≤ v.toInt ∧ v.toInt ≤ ((1 : Nat) : Int) then 1 else 0) := by
  unfold f_X10_isPart
  have : f_X10_isFrom v 0 1 S = some (if ((0 : Nat) : Int) ≤ v.toInt ∧ v.toInt ≤ ((1 : Nat) : Int) then 1 else 0) := from_c (a := 0) (b := 1) (by omega) (by omega)
  rw [this, bd_some]
  split <;> rfl
theorem part_m {v : Int32} {S : fS} : f_X11_in (Int32.toInt64 v) 0 1 S = some (if ((0 : Nat) : Int) ≤ v.toInt ∧ v.toInt ≤ ((1 : Nat) : Int) then 1 else 0) := in_c (a := 0) (b := 1) (by omega) (by omega)
theorem hour_c {v : Int32} {S : fS} : f_X10_isHour v S = some (if ((0 : Nat) : Int) ≤ v.toInt ∧ v.toInt ≤ ((9999 : Nat) : Int) then 1 else 0) := by
  unfold f_X10_isHour
  have : f_X10_isFrom v 0 9999 S = some (if ((0 : Nat) : Int) ≤ v.toInt ∧ v.toInt ≤ ((9999 : Nat) : Int) then 1 else 0) := from_c (a := 0) (b := 9999) (by omega) (by omega)
  rw [this, bd_some]
  split <;> rfl
theorem hour_m {v : Int32} {S : fS} : f_X11_in (Int32.toInt64 v) 0 9999 S = some (if ((0 : Nat) : Int) ≤ v.toInt ∧ v.toInt ≤ ((9999 : Nat) : Int) then 1 else 0) := in_c (a := 0) (b := 9999) (by omega) (by omega)
theorem t_7 (a1 a2 : Int32) (S : fS) (hR : Rel S) : ∃ r, f_X10_age a1 a2 S = some r ∧ f_X11_age a1 a2 S = some r ∧ Rel S := by
  have hR0 := hR
  obtain ⟨n, s, L, M, hT, ⟨⟨n1, n2, n3, n4, n5, n6⟩, ⟨b1, b2, b3, b4, b5⟩, ⟨m1, m2, m3, m4⟩, d⟩, hL, hM⟩ := hR
  have h8 := n5.1
  unfold f_X10_age f_X11_age
  rw [ci_thing b3.1 (by omega), mi_thing m2.1 (by omega), bd_some, bd_some, part_c, part_m, bd_some, bd_some]
  by_cases h1 : 0 ≤ a1.toInt ∧ a1.toInt < s.2.2.1.1
  · rw [if_pos h1, if_neg (show ¬ (1 : Int32) = 0 by decide), if_neg (show ¬ (1 : Int32) = 0 by decide)]
    by_cases h2 : ((0 : Nat) : Int) ≤ a2.toInt ∧ a2.toInt ≤ ((1 : Nat) : Int)
    · rw [if_pos h2, if_neg (show ¬ (1 : Int32) = 0 by decide), if_neg (show ¬ (1 : Int32) = 0 by decide)]
      obtain ⟨f, e1, e2⟩ := o3_ex h1.1
      have hf : f < s.2.2.1.1 := by omega
      obtain ⟨a, g1, g2⟩ := age_o n5 hf
      rw [e1, gL_o (by omega) (by omega), gL_o (by omega) (by omega), bd_some, bd_some, show S.2 16 f = o6 a from ((b3.2.2 f hf).2.2.2.2).trans g1, show S.2 158 f = o6 a from ((m2.2.2 f hf).2.2.2.2).trans g1, show (232792560 : Int64) = o6 232792560 from rfl, c_low (by omega) (by omega) (by omega), m_low (by omega) (by omega) (by omega), bd_some]
      exact ⟨_, rfl, rfl, hR0⟩
    · rw [if_neg h2, if_pos rfl, if_pos rfl]
      exact ⟨_, rfl, rfl, hR0⟩
  · rw [if_neg h1, if_pos rfl, if_pos rfl]
    exact ⟨_, rfl, rfl, hR0⟩
theorem t_8 (a1 a2 : Int32) (S : fS) (hR : Rel S) : ∃ r, f_X10_older a1 a2 S = some r ∧ f_X11_older a1 a2 S = some r ∧ Rel S := by
  have hR0 := hR
  obtain ⟨n, s, L, M, hT, ⟨⟨n1, n2, n3, n4, n5, n6⟩, ⟨b1, b2, b3, b4, b5⟩, ⟨m1, m2, m3, m4⟩, d⟩, hL, hM⟩ := hR
  have h8 := n5.1
  unfold f_X10_older f_X11_older
  rw [ci_thing b3.1 (by omega), mi_thing m2.1 (by omega), ci_thing b3.1 (by omega), mi_thing m2.1 (by omega), bd_some, bd_some, bd_some, bd_some]
  by_cases h1 : 0 ≤ a1.toInt ∧ a1.toInt < s.2.2.1.1
  · rw [if_pos h1, if_neg (show ¬ (1 : Int32) = 0 by decide), if_neg (show ¬ (1 : Int32) = 0 by decide)]
    by_cases h2 : 0 ≤ a2.toInt ∧ a2.toInt < s.2.2.1.1
    · rw [if_pos h2, if_neg (show ¬ (1 : Int32) = 0 by decide), if_neg (show ¬ (1 : Int32) = 0 by decide)]
      obtain ⟨f, e1, e2⟩ := o3_ex h1.1
      have hf : f < s.2.2.1.1 := by omega
      obtain ⟨a, g1, g2⟩ := age_o n5 hf
      obtain ⟨f', e1', e2'⟩ := o3_ex h2.1
      have hf' : f' < s.2.2.1.1 := by omega
      obtain ⟨a', g1', g2'⟩ := age_o n5 hf'
      rw [e1, e1', gL_o (by omega) (by omega), gL_o (by omega) (by omega), gL_o (by omega) (by omega), gL_o (by omega) (by omega), bd_some, bd_some, bd_some, bd_some, bd_some, bd_some, show S.2 16 f = o6 a from ((b3.2.2 f hf).2.2.2.2).trans g1, show S.2 158 f = o6 a from ((m2.2.2 f hf).2.2.2.2).trans g1, show S.2 16 f' = o6 a' from ((b3.2.2 f' hf').2.2.2.2).trans g1', show S.2 158 f' = o6 a' from ((m2.2.2 f' hf').2.2.2.2).trans g1']
      have hs : (o6 a - o6 a').toInt = (a : Int) - a' := by rw [nl_sub (by rw [o6_int (by omega), o6_int (by omega)]; omega) (by rw [o6_int (by omega), o6_int (by omega)]; omega), o6_int (by omega), o6_int (by omega)]
      by_cases h3 : a ≤ a'
      · rw [if_pos (show o6 a ≤ o6 a' from (o6_le (by omega) (by omega)).mpr h3)]
        by_cases h4 : a' ≤ a
        · rw [if_pos (show o6 a' ≤ o6 a from (o6_le (by omega) (by omega)).mpr h4), if_pos (show o6 a - o6 a' = 0 from nl_eq.mpr (by rw [hs, nl_0]; omega))]
          exact ⟨_, rfl, rfl, hR0⟩
        · rw [if_neg (show ¬ o6 a' ≤ o6 a from fun q => h4 ((o6_le (by omega) (by omega)).mp q)), if_neg (show ¬ o6 a - o6 a' = 0 from fun q => by have := nl_eq.mp q; rw [hs, nl_0] at this; omega), if_pos (show o6 a - o6 a' ≤ 0 from nl_le.mpr (by rw [hs, nl_0]; omega))]
          exact ⟨_, rfl, rfl, hR0⟩
      · rw [if_neg (show ¬ o6 a ≤ o6 a' from fun q => h3 ((o6_le (by omega) (by omega)).mp q)), if_neg (show ¬ o6 a - o6 a' = 0 from fun q => by have := nl_eq.mp q; rw [hs, nl_0] at this; omega), if_neg (show ¬ o6 a - o6 a' ≤ 0 from fun q => by have := nl_le.mp q; rw [hs, nl_0] at this; omega)]
        exact ⟨_, rfl, rfl, hR0⟩
    · rw [if_neg h2, if_pos rfl, if_pos rfl]
      exact ⟨_, rfl, rfl, hR0⟩
  · rw [if_neg h1, if_pos rfl, if_pos rfl]
    exact ⟨_, rfl, rfl, hR0⟩
theorem t_12 (a1 a2 : Int32) (S : fS) (hR : Rel S) : ∃ r, f_X10_far a1 a2 S = some r ∧ f_X11_far a1 a2 S = some r ∧ Rel S := by
  have hR0 := hR
  obtain ⟨n, s, L, M, hT, ⟨⟨n1, n2, n3, n4, n5, n6⟩, ⟨b1, b2, b3, b4, b5⟩, ⟨m1, m2, m3, m4⟩, d⟩, hL, hM⟩ := hR
  unfold f_X10_far f_X11_far
  rw [ci_floor b1.1 (by omega), mi_floor m1.1 (by omega), ci_floor b1.1 (by omega), mi_floor m1.1 (by omega), bd_some, bd_some, bd_some, bd_some]
  by_cases h1 : 0 ≤ a1.toInt ∧ a1.toInt < s.1.length
  · rw [if_pos h1, if_neg (show ¬ (1 : Int32) = 0 by decide), if_neg (show ¬ (1 : Int32) = 0 by decide)]
    by_cases h2 : 0 ≤ a2.toInt ∧ a2.toInt < s.1.length
    · rw [if_pos h2, if_neg (show ¬ (1 : Int32) = 0 by decide), if_neg (show ¬ (1 : Int32) = 0 by decide)]
      obtain ⟨f, e1, e2⟩ := o3_ex h1.1
      obtain ⟨g, e3, e4⟩ := o3_ex h2.1
      rw [e1, e3, ch_btw b2 n1 (by omega) (by omega), bd_some, mh_btw d n1 (by omega) (by omega), bd_some, bd_some]
      rcases cwv_cs (E := s.2.1) (a := f) (b := g) with ⟨h, e⟩ | ⟨h, e⟩
      · rw [e, h, if_neg (show ¬ (0 : Int32) ≤ -1 by decide), if_neg (show ¬ o6 99999 < (99999 : Int64) by decide)]
        exact ⟨_, rfl, rfl, hR0⟩
      · rw [e, if_pos (o3_0le (by omega)), if_pos (show o6 (dst s.2.1 f g) < (99999 : Int64) from (o6_lt (b := 99999) (by omega) (by omega)).mpr h), o6_to3 (by omega)]
        exact ⟨_, rfl, rfl, hR0⟩
    · rw [if_neg h2, if_pos rfl, if_pos rfl]
      exact ⟨_, rfl, rfl, hR0⟩
  · rw [if_neg h1, if_pos rfl, if_pos rfl]
    exact ⟨_, rfl, rfl, hR0⟩
theorem t_13 (a1 a2 : Int32) (S : fS) (hR : Rel S) : ∃ r, f_X10_next a1 a2 S = some r ∧ f_X11_next a1 a2 S = some r ∧ Rel S := by
  have hR0 := hR
  obtain ⟨n, s, L, M, hT, ⟨⟨n1, n2, n3, n4, n5, n6⟩, ⟨b1, b2, b3, b4, b5⟩, ⟨m1, m2, m3, m4⟩, d⟩, hL, hM⟩ := hR
  unfold f_X10_next f_X11_next
  rw [ci_floor b1.1 (by omega), mi_floor m1.1 (by omega), ci_floor b1.1 (by omega), mi_floor m1.1 (by omega), bd_some, bd_some, bd_some, bd_some]
  by_cases h1 : 0 ≤ a1.toInt ∧ a1.toInt < s.1.length
  · rw [if_pos h1, if_neg (show ¬ (1 : Int32) = 0 by decide), if_neg (show ¬ (1 : Int32) = 0 by decide)]
    by_cases h2 : 0 ≤ a2.toInt ∧ a2.toInt < s.1.length
    · rw [if_pos h2, if_neg (show ¬ (1 : Int32) = 0 by decide), if_neg (show ¬ (1 : Int32) = 0 by decide)]
      obtain ⟨f, e1, e2⟩ := o3_ex h1.1
      obtain ⟨g, e3, e4⟩ := o3_ex h2.1
      rw [e1, e3, ch_first b1 b2 n4 n1 n2 (by omega) (by omega), bd_some, mh_next m1 d n4 n1 n2 (by omega) (by omega), bd_some]
      unfold fsI fsJ
      cases hfs : fS1 s.2.1 f g with
      | none =>
        dsimp only
        rw [if_neg (show ¬ (0 : Int32) ≤ -1 by decide)]
        exact ⟨_, rfl, rfl, hR0⟩
      | some k =>
        dsimp only
        unfold fS1 at hfs
        split at hfs
        · exact nomatch hfs
        · obtain ⟨x, y, z⟩ := fsf_pr _ _ _ hfs
          rw [if_pos (o3_0le (by omega))]
          exact ⟨_, rfl, rfl, hR0⟩
    · rw [if_neg h2, if_pos rfl, if_pos rfl]
      exact ⟨_, rfl, rfl, hR0⟩
  · rw [if_neg h1, if_pos rfl, if_pos rfl]
    exact ⟨_, rfl, rfl, hR0⟩
theorem t_14 (a1 a2 a3 : Int32) (S : fS) (hR : Rel S) : ∃ r, f_X10_clock a1 a2 a3 S = some r ∧ f_X11_clock a1 a2 a3 S = some r ∧ Rel S := by
  have hR0 := hR
  obtain ⟨n, s, L, M, hT, ⟨⟨n1, n2, n3, n4, n5, n6⟩, ⟨b1, b2, b3, b4, b5⟩, ⟨m1, m2, m3, m4⟩, d⟩, hL, hM⟩ := hR
  unfold f_X10_clock f_X11_clock
  rw [ci_floor b1.1 (by omega), mi_floor m1.1 (by omega), bd_some, bd_some, hour_c, hour_m, bd_some, bd_some, part_c, part_m, bd_some, bd_some]
  by_cases h1 : 0 ≤ a1.toInt ∧ a1.toInt < s.1.length
  · rw [if_pos h1, if_neg (show ¬ (1 : Int32) = 0 by decide), if_neg (show ¬ (1 : Int32) = 0 by decide)]
    by_cases h2 : ((0 : Nat) : Int) ≤ a2.toInt ∧ a2.toInt ≤ ((9999 : Nat) : Int)
    · rw [if_pos h2, if_neg (show ¬ (1 : Int32) = 0 by decide), if_neg (show ¬ (1 : Int32) = 0 by decide)]
      by_cases h3 : ((0 : Nat) : Int) ≤ a3.toInt ∧ a3.toInt ≤ ((1 : Nat) : Int)
      · rw [if_pos h3, if_neg (show ¬ (1 : Int32) = 0 by decide), if_neg (show ¬ (1 : Int32) = 0 by decide)]
        obtain ⟨f, e1, e2⟩ := o3_ex h1.1
        obtain ⟨v, e3, e4⟩ := o3_ex (x := a2) (by omega)
        have hf : f < s.1.length := by omega
        have hq := n3 _ (gd_mem (d := (0, 0)) hf)
        have hp := pcn_le hq
        obtain ⟨z1, z2, z3⟩ := pz_eq hq
        have hb1 : v * ((s.1.getD f (0, 0)).1 * pz (s.1.getD f (0, 0))) ≤ 9999 * 4655851200 := Nat.mul_le_mul (by omega) hp.2
        have hb2 : v * (s.1.getD f (0, 0)).1 ≤ 9999 * 20 := Nat.mul_le_mul (by omega) hq.2.1
        have hq3 := hq.2.2.1
        have hq4 := hq.2.2.2
        have hq2 := hq.2.1
        unfold f_X8_clockAt
        rw [e1, e3, show gL S (4 + 1) 10 (o3 f) = some (pc (s.1.getD f (0, 0))) from cf_p b1 n1 hf, mf_a m1 n1 hf, mf_b m1 n1 hf, bd_some, bd_some, bd_some, bd_some, pc_o, o6_of3 (by omega), o6_mul, show (232792560 : Int64) = o6 232792560 from rfl, c_low (by omega) (by omega) (by omega), bd_some, o6_of3 (by omega), o6_mul, o6_of3 (by omega), m_low (by omega) (by omega) (by omega), bd_some]
        refine ⟨_, rfl, ?_, hR0⟩
        congr 1
        refine lw_cross (by omega) (by omega) ?_
        rw [Nat.mul_assoc, Nat.mul_assoc, show 232792560 = pz (s.1.getD f (0, 0)) * (s.1.getD f (0, 0)).2 from z1.symm, Nat.mul_assoc]
      · rw [if_neg h3, if_pos rfl, if_pos rfl]
        exact ⟨_, rfl, rfl, hR0⟩
    · rw [if_neg h2, if_pos rfl, if_pos rfl]
      exact ⟨_, rfl, rfl, hR0⟩
  · rw [if_neg h1, if_pos rfl, if_pos rfl]
    exact ⟨_, rfl, rfl, hR0⟩
end
noncomputable section
/-! what only asks: noons, owed, hands, when, shown, noonsIn, due -/
theorem t_15 (a1 a2 a3 : Int32) (S : fS) (hR : Rel S) : ∃ r, f_X10_noons a1 a2 a3 S = some r ∧ f_X11_noons a1 a2 a3 S = some r ∧ Rel S := by
  have hR0 := hR
  obtain ⟨n, s, L, M, hT, ⟨⟨n1, n2, n3, n4, n5, n6⟩, ⟨b1, b2, b3, b4, b5⟩, ⟨m1, m2, m3, m4⟩, d⟩, hL, hM⟩ := hR
  unfold f_X10_noons f_X11_noons
  rw [ci_floor b1.1 (by omega), mi_floor m1.1 (by omega), ci_floor b1.1 (by omega), mi_floor m1.1 (by omega), bd_some, bd_some, bd_some, bd_some, part_c, part_m, bd_some, bd_some]
  by_cases h1 : 0 ≤ a1.toInt ∧ a1.toInt < s.1.length
  · rw [if_pos h1, if_neg (show ¬ (1 : Int32) = 0 by decide), if_neg (show ¬ (1 : Int32) = 0 by decide)]
    by_cases h2 : 0 ≤ a2.toInt ∧ a2.toInt < s.1.length
    · rw [if_pos h2, if_neg (show ¬ (1 : Int32) = 0 by decide), if_neg (show ¬ (1 : Int32) = 0 by decide)]
      by_cases h3 : ((0 : Nat) : Int) ≤ a3.toInt ∧ a3.toInt ≤ ((1 : Nat) : Int)
      · rw [if_pos h3, if_neg (show ¬ (1 : Int32) = 0 by decide), if_neg (show ¬ (1 : Int32) = 0 by decide)]
        obtain ⟨f, e1, e2⟩ := o3_ex h1.1
        obtain ⟨g, e3, e4⟩ := o3_ex h2.1
        have hf : f < s.1.length := by omega
        have hg : g < s.1.length := by omega
        have hq := n3 _ (gd_mem (d := (0, 0)) hf)
        have hq' := n3 _ (gd_mem (d := (0, 0)) hg)
        rw [e1, e3, cf_p b1 n1 hf, cf_p b1 n1 hg, mf_a m1 n1 hf, mf_b m1 n1 hf, mf_a m1 n1 hg, mf_b m1 n1 hg, bd_some, bd_some, bd_some, bd_some, bd_some, bd_some]
        generalize s.1.getD f (0, 0) = q at hq
        generalize s.1.getD g (0, 0) = q' at hq'
        have hp := pcn_le hq
        have hp' := pcn_le hq'
        obtain ⟨z1, z2, z3⟩ := pz_eq hq
        obtain ⟨z1', z2', z3'⟩ := pz_eq hq'
        obtain ⟨q1, q2, q3, q4⟩ := hq
        obtain ⟨q1', q2', q3', q4'⟩ := hq'
        have w1 : q'.2 * q.1 ≤ 20 * 20 := Nat.mul_le_mul q4' q2
        have w2 : q.2 * q'.1 ≤ 20 * 20 := Nat.mul_le_mul q4 q2'
        have w3 : 0 < q.2 * q'.1 := Nat.mul_pos (by omega) (by omega)
        rw [o6_of3 (by omega), o6_of3 (by omega), o6_of3 (by omega), o6_of3 (by omega), o6_mul, o6_mul]
        have hc : ∀ v : Int32, lw (q'.2 * q.1) (q.2 * q'.1) v = lw (q.1 * pz q) (q'.1 * pz q') v := fun v => lw_cross w3 hp'.1 (by
          have x1 : q'.2 * q.1 * (q'.1 * pz q') = q.1 * q'.1 * (pz q' * q'.2) := by
            rw [Nat.mul_comm q'.2 q.1, Nat.mul_assoc, Nat.mul_assoc]
            congr 1
            rw [Nat.mul_left_comm, Nat.mul_comm q'.2 (pz q')]
          have x2 : q.1 * pz q * (q.2 * q'.1) = q.1 * q'.1 * (pz q * q.2) := by
            rw [Nat.mul_assoc, Nat.mul_assoc]
            congr 1
            rw [Nat.mul_comm q.2 q'.1, Nat.mul_left_comm]
          rw [x1, x2, z1, z1'])
        rw [m_low (by omega) (by omega) w3, bd_some, hc 0]
        rw [m_low (by omega) (by omega) w3, hc 1]
        rw [pc_o, pc_o, c_cd (by omega) (by omega), bd_some]
        obtain ⟨g1, g2⟩ := gcd_lt (a := q.1 * pz q) (b := q'.1 * pz q') (by omega) (by omega) hp'.1
        have l0 : lw (q.1 * pz q) (q'.1 * pz q') 0 = o6 (q.1 * pz q / Nat.gcd (q.1 * pz q) (q'.1 * pz q')) := if_pos rfl
        have l1 : lw (q.1 * pz q) (q'.1 * pz q') 1 = o6 (q'.1 * pz q' / Nat.gcd (q.1 * pz q) (q'.1 * pz q')) := if_neg (by decide)
        have hdv : Nat.gcd (q.1 * pz q) (q'.1 * pz q') ∣ q.1 * pz q := Nat.gcd_dvd_left _ _
        have hu := Nat.div_mul_cancel hdv
        have hu2 := Nat.div_le_self (q.1 * pz q) (Nat.gcd (q.1 * pz q) (q'.1 * pz q'))
        have hu3 := Nat.div_le_self (q'.1 * pz q') (Nat.gcd (q.1 * pz q) (q'.1 * pz q'))
        rw [if_neg (o6_ne0 g1 g2), o6_dL (by omega) g1 g2, bd_some, o6_dL (by omega) g1 g2, l0, l1]
        generalize Nat.gcd (q.1 * pz q) (q'.1 * pz q') = gg at *
        generalize q.1 * pz q / gg = u at *
        generalize q'.1 * pz q' / gg = u' at *
        rw [bd_some, show (2 : Int64) = o6 2 from rfl, o6_rL (by omega) (by omega) (by omega), bd_some, bd_some]
        by_cases p1 : o6 (u % 2) = 0
        · rw [if_pos p1, if_pos p1]
          exact ⟨_, rfl, rfl, hR0⟩
        · rw [if_neg p1, if_neg p1, bd_some, o6_rL (by omega) (by omega) (by omega), bd_some, bd_some]
          by_cases p2 : o6 (u' % 2) = 0
          · rw [if_pos p2, if_pos p2]
            exact ⟨_, rfl, rfl, hR0⟩
          · have w4 : 12 * u * q.2 ≤ 12 * u * 20 := Nat.mul_le_mul_left _ q4
            rw [if_neg p2, if_neg p2, show (2793510720 : Int64) = o6 2793510720 from rfl, show (12 : Int64) = o6 12 from rfl, c_low (by omega) g1 (by omega), bd_some, o6_mul, o6_mul, m_low (by omega) (by omega) (by omega), bd_some]
            refine ⟨_, rfl, ?_, hR0⟩
            congr 1
            refine (lw_cross (by omega) (by omega) ?_).symm
            have x3 : 12 * u * q.2 * gg = 12 * (u * gg) * q.2 := by
              rw [Nat.mul_right_comm, Nat.mul_assoc 12 u gg]
            rw [x3, hu]
            have x4 : 12 * (q.1 * pz q) * q.2 = 12 * (pz q * q.2) * q.1 := by
              rw [Nat.mul_assoc, Nat.mul_assoc, Nat.mul_assoc]
              congr 1
              rw [Nat.mul_comm]
            rw [x4, z1]
      · rw [if_neg h3, if_pos rfl, if_pos rfl]
        exact ⟨_, rfl, rfl, hR0⟩
    · rw [if_neg h2, if_pos rfl, if_pos rfl]
      exact ⟨_, rfl, rfl, hR0⟩
  · rw [if_neg h1, if_pos rfl, if_pos rfl]
    exact ⟨_, rfl, rfl, hR0⟩
end
