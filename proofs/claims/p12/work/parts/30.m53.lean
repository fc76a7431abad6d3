section
/-! the reference's rule() -/
section FLB
variable {t : Nat → Int32} {n : Nat}
def okR (n : Nat) (r : TR) : Prop := r.1 ≤ 8 * n + 10 ∧ (r.1 = 0 → r.2.1 ≤ n)
theorem aft_fl {cp : Bool} {m i : Nat} {c : List (Nat × Nat)} {H : List Nat} {r : TR} (he : elH H) (hi : i ≤ n) (h : aft t n cp m c H i = .inl r) : okR n r := by
  have hj := sk_le (t := t) hi
  unfold aft at h
  generalize sk t n i = j at hj h
  by_cases hr : rk t n j = 0
  · rw [if_pos hr] at h
    by_cases hc : cp = true
    · rw [if_pos hc] at h
      obtain ⟨q1, q2, q3, q4, q5⟩ := clo_pr (n := n) (t := t) (brk H + 1) H j he (by omega) hj
      generalize clo t n (brk H + 1) j H = Q at h q1 q2 q3 q4 q5
      have hj2 := sk_le (t := t) q5
      generalize sk t n Q.2.1 = e at h hj2
      by_cases hn : jn t n e = 0
      · rw [if_pos hn] at h
        split at h
        · obtain rfl := Sum.inl.inj h; exact ⟨Nat.zero_le _, fun _ => hj2⟩
        · obtain rfl := Sum.inl.inj h; exact ⟨by show 1 + 8 * e ≤ _; omega, fun q => absurd q (show ¬ 1 + 8 * e = 0 by omega)⟩
      · rw [if_neg hn] at h; exact nomatch h
    · rw [if_neg hc] at h
      by_cases hm : cm t n j = 0
      · rw [if_pos hm] at h; obtain rfl := Sum.inl.inj h; exact ⟨by show 1 + 8 * j ≤ _; omega, fun q => absurd q (show ¬ 1 + 8 * j = 0 by omega)⟩
      · rw [if_neg hm] at h
        by_cases h6 : 60 ≤ m
        · rw [if_pos h6] at h; obtain rfl := Sum.inl.inj h; exact ⟨by show 1 + 8 * j + 3 ≤ _; omega, fun q => absurd q (show ¬ 1 + 8 * j + 3 = 0 by omega)⟩
        · rw [if_neg h6] at h; exact nomatch h
  · rw [if_neg hr] at h; exact nomatch h
theorem tval_fl {cp : Bool} {m i : Nat} {c : List (Nat × Nat)} {H : List Nat} {r : TR} (he : elH H) (hi : i ≤ n) (h : tval t n cp m c H i = .inl r) : okR n r := by
  have hj := sk_le (t := t) hi
  unfold tval at h
  by_cases hv : vlF t n m (sk t n i) = 0
  · rw [if_pos hv] at h
    obtain ⟨v1, v2, v3⟩ := vl_gt hj sk_id hv
    exact aft_fl he v2 h
  · rw [if_neg hv] at h; obtain rfl := Sum.inl.inj h; exact ⟨vl_fl hj, fun q => absurd q hv⟩
theorem stp_fl {x : TS} {r : TR} (hx : jT n x) (h : stp t n x = .inl r) : okR n r := by
  obtain ⟨due, cp, m, c, H, i⟩ := x
  obtain ⟨he, hd, hi⟩ := hx
  dsimp only at he hd hi
  unfold stp at h
  dsimp only at h
  by_cases hu : due = true
  · rw [if_pos hu] at h
    have hp := opn_pr (t := t) (n := n) (11 - dep H) i H hi hd
    have hf := opn_fl (t := t) (n := n) (11 - dep H) i H hi
    generalize opn t n (11 - dep H) i H = Q at h hp hf
    by_cases hq : Q.1 = 0
    · rw [if_pos hq] at h
      obtain ⟨P, p1, p2, p3, p4, p5, p6⟩ := hp hq
      exact tval_fl (H := Q.2.2) (fun z hz => by
        rw [p1] at hz
        rcases List.mem_append.mp hz with hz | hz
        · have := p2 z hz; omega
        · exact he z hz) p5 h
    · rw [if_neg hq] at h; obtain rfl := Sum.inl.inj h; exact ⟨hf, fun q => absurd q hq⟩
  · rw [if_neg hu] at h
    exact tval_fl he hi h
theorem run_fl : ∀ F (x : TS), jT n x → okR n (run t n F x) := by
  intro F
  induction F with
  | zero => intro x _; exact ⟨by show 1 ≤ _; omega, fun q => absurd q (by show ¬ 1 = 0; omega)⟩
  | succ F ih =>
    intro x hx
    rw [run_s]
    cases hs : stp t n x with
    | inl r => exact stp_fl hx hs
    | inr y => exact ih y (stp_J hx hs).1
theorem rcl_ok {k m i : Nat} (hi : i ≤ n) : (rcl t n k m i).1 ≤ 8 * n + 10 ∧ ((rcl t n k m i).1 = 0 → (rcl t n k m i).2.1 ≤ n) := by
  have hj := sk_le (t := t) hi
  unfold rcl
  by_cases hw : wat t n (mm_sb.getD 3 []) (sk t n i) = true
  · have hll : ll t n (sk t n i) = 2 := ((wat_ll (t := t) (n := n) _ _ (mw_L 3 (by decide))).mp hw).1
    have h2 := ll_le (t := t) (n := n) _ (sk t n i) rfl hj
    rw [hll] at h2
    rw [if_pos hw]
    by_cases hk : 12 ≤ k
    · rw [if_pos hk]; exact ⟨by show 1 + 8 * _ + 4 ≤ _; omega, fun q => absurd q (show ¬ 1 + 8 * sk t n i + 4 = 0 by omega)⟩
    rw [if_neg hk]
    have p2 := nmp_le (t := t) h2
    by_cases hF : nmf t n (sk t n i + 2) 0 9 = 0
    · rw [if_pos hF]
      have hq := sk_le (t := t) p2
      by_cases hw4 : wat t n (mm_sb.getD 4 []) (sk t n (nmp t n (sk t n i + 2))) = true
      · have hl4 := ((wat_ll (t := t) (n := n) _ _ (mw_L 4 (by decide))).mp hw4).1
        have h4 := ll_le (t := t) (n := n) _ _ rfl hq
        rw [hl4, show (mm_sb.getD 4 []).length = 2 from rfl] at h4
        have := run_fl (t := t) (n := n) (n + 1) (true, false, m, [], [], sk t n (nmp t n (sk t n i + 2)) + 2) ⟨fun y hy => absurd hy List.not_mem_nil, by show 0 ≤ 10; omega, h4⟩
        rw [if_pos hw4]
        split
        · rename_i q; exact ⟨Nat.zero_le _, fun _ => this.2 q⟩
        · rename_i q; exact ⟨this.1, fun z => absurd z q⟩
      · rw [if_neg hw4]; exact ⟨Nat.zero_le _, fun _ => hq⟩
    · rw [if_neg hF]
      have := nmf_le (t := t) (lo := 0) (hi := 9) h2
      exact ⟨by show nmf t n _ 0 9 ≤ _; omega, fun q => absurd q hF⟩
  · rw [if_neg hw]; exact ⟨by show 1 + 8 * _ ≤ _; omega, fun q => absurd q (show ¬ 1 + 8 * sk t n i = 0 by omega)⟩
theorem rall_fl : ∀ f k m i L, i ≤ n → (rall t n f k m i L).1 ≤ 8 * n + 10 := by
  intro f
  induction f with
  | zero => intro k m i L _; show 1 ≤ _; omega
  | succ f ih =>
    intro k m i L hi
    rw [rall_s]
    by_cases h : (rcl t n k m i).1 = 0
    · rw [if_pos h]
      have hp := (rcl_ok hi).2 h
      have hq := sk_le (t := t) hp
      split
      · split
        · exact ih _ _ _ _ (by omega)
        · show 1 + 8 * _ ≤ _; omega
      · exact Nat.zero_le _
    · rw [if_neg h]; exact (rcl_ok hi).1
end FLB
/-- behind a clause -/
def rl (t : Nat → Int32) (n d k m i : Nat) (L L0 : List Cl) : Nat × List Cl := if sk t n i < n then (if t (sk t n i) = 59 then rall t n d k m (sk t n i + 1) L else (1 + 8 * sk t n i, L0)) else (0, L)
theorem rall_rl {t : Nat → Int32} {n d k m i : Nat} {L : List Cl} : rall t n (d + 1) k m i L = if (rcl t n k m i).1 = 0 then rl t n d (k + 1) (rcl t n k m i).2.2.1 (rcl t n k m i).2.1 (L ++ [(rcl t n k m i).2.2.2]) L else ((rcl t n k m i).1, L) := rfl
section MR8
variable {t : Nat → Int32} {n x : Nat}
theorem mr_clause (hl : n ≤ 400) (hx : x < 6) (hb : ∀ k, byt (t k)) {i m : Nat} {L : List Cl} {S : fS} {u : Int32} (hn : S.1 145 1 = o3 n) (ht : S.1 146 = t) (hR : RQ S x m (mcode L)) (hM : clM S x L) (h19 : S.1 145 19 = o3 L.length) (hm : m ≤ 60) (hk : L.length ≤ 12) (hc : (mcode L).length ≤ i) (hi : i ≤ n) : ∃ T w' u', f_X11_clauseHere (mS S (o3 i) 0 u) = some (if (rcl t n L.length m i).1 = 0 then (1, mS T (o3 (rcl t n L.length m i).2.1) 0 u') else (0, mS T w' (o3 (rcl t n L.length m i).1) u')) ∧ eM9 x S T ∧ ((rcl t n L.length m i).1 = 0 → RQ T x (rcl t n L.length m i).2.2.1 (mcode (L ++ [(rcl t n L.length m i).2.2.2])) ∧ clM T x (L ++ [(rcl t n L.length m i).2.2.2]) ∧ T.1 145 19 = o3 (L.length + 1) ∧ (rcl t n L.length m i).2.1 ≤ n ∧ i < (rcl t n L.length m i).2.1 ∧ (rcl t n L.length m i).2.2.1 ≤ 60 ∧ (mcode (L ++ [(rcl t n L.length m i).2.2.2])).length ≤ (rcl t n L.length m i).2.1 ∧ L.length < 12 ∧ okCl (rcl t n L.length m i).2.2.2) := by
  have hj := sk_le (t := t) hi
  have hid := sk_id (t := t) (n := n) (i := i)
  unfold f_X11_clauseHere
  rw [mt_see hn hl hi, bd_some, ht]
  dsimp only
  rw [mS_ne (by omega), hR.1, if_neg (show ¬ o3 x = (6 : Int32) from fun q => by have := (o3_inj (b := 6) (by omega) (by omega)).mp q; omega), mS_13]
  unfold j_X11_clauseHere_24
  rw [if_pos rfl, mr_word hn hl 29807 3 (by decide) (by decide) hj, bd_some, ht, hid]
  unfold j_X11_clauseHere_74
  dsimp only
  by_cases hw : wat t n (mm_sb.getD 3 []) (sk t n i) = true
  · rw [if_pos hw, if_neg (show ¬ (1 : Int32) = 0 by decide), if_pos rfl]
    unfold j_X11_clauseHere_101
    rw [mS_ne (by omega), h19]
    by_cases h12 : L.length = 12
    · have e : rcl t n L.length m i = (1 + 8 * sk t n i + 4, 0, 0, (0, none)) := by unfold rcl; rw [if_pos hw, if_pos (by omega)]
      rw [if_pos (show o3 L.length = (12 : Int32) by rw [h12]; rfl), mt_fails mS_14, bd_some, mS_wr, show (8 : Int32) = o3 8 from rfl, show (1 : Int32) = o3 1 from rfl, show (4 : Int32) = o3 4 from rfl, o3_mul, o3_add, o3_add, e]
      refine ⟨S, o3 (sk t n i), u, ?_, eM9.rf, fun q => absurd q (show ¬ 1 + 8 * sk t n i + 4 = 0 by omega)⟩
      rw [if_neg (show ¬ 1 + 8 * sk t n i + 4 = 0 by omega)]
      rfl
    · rw [if_neg (show ¬ o3 L.length = (12 : Int32) from fun q => h12 ((o3_inj (b := 12) (by omega) (by omega)).mp q)), bd_some, o3_s, mS_p (by omega), if_pos rfl]
      have hE : eM9 x S (pI S 145 19 (o3 (L.length + 1))) := eM9_pI (by unfold wM9; omega)
      have hR1 : RQ (pI S 145 19 (o3 (L.length + 1))) x m (mcode L) := by
        refine RQ_eq hR ?_ ?_ (fun k => ?_) (fun k => ?_) <;> rw [pI_ne (by omega)]
      have hM1 : clM (pI S 145 19 (o3 (L.length + 1))) x L := clM_eq hM (by rw [pI_ne (by omega)]) (fun k _ => by rw [pI_ne (by omega)])
      obtain ⟨T, w', u', a1, a2, a3, a4⟩ := mb_to (u := u) hl hx hb ((eM9_1 hE).trans hn) ((eM9_t hE).trans ht) hR1 hM1 hm (by omega) hc hi hw
      rw [pI_eq] at a3
      rw [a1, bd_some]
      by_cases hF : (rcl t n L.length m i).1 = 0
      · rw [if_pos hF]
        refine ⟨T, w', u', by rw [if_pos hF]; rfl, hE.tr a2, fun _ => ?_⟩
        obtain ⟨b1, b2, b3, b4, b5, b6, b7⟩ := a4 hF
        exact ⟨b1, b2, a3, b3, b4, b5, b6, by omega, b7⟩
      · rw [if_neg hF]
        exact ⟨T, w', u', by rw [if_neg hF]; rfl, hE.tr a2, fun q => absurd q hF⟩
  · have e : rcl t n L.length m i = (1 + 8 * sk t n i, 0, 0, (0, none)) := by unfold rcl; rw [if_neg hw]
    rw [if_neg hw, if_pos rfl, mt_fails mS_14, bd_some, mS_wr, show (8 : Int32) = o3 8 from rfl, show (1 : Int32) = o3 1 from rfl, show (0 : Int32) = o3 0 from rfl, o3_mul, o3_add, o3_add, e]
    refine ⟨S, o3 (sk t n i), u, ?_, eM9.rf, fun q => absurd q (show ¬ 1 + 8 * sk t n i = 0 by omega)⟩
    rw [if_neg (show ¬ 1 + 8 * sk t n i = 0 by omega)]
    rfl
def okRu (L : List Cl) : Prop := ∀ q ∈ L, okCl q
theorem okRu_app {L : List Cl} {q : Cl} (h : okRu L) (hq : okCl q) : okRu (L ++ [q]) := fun z hz => by
  rcases List.mem_append.mp hz with hz | hz
  · exact h z hz
  · rw [List.mem_singleton] at hz; rw [hz]; exact hq
def rEnd (n x : Nat) (t : Nat → Int32) (r : Nat × List Cl) (g : Int32) (T : fS) (i' w' : Int32) : Prop :=
  (r.1 = 0 ∧ g = 1 ∧ w' = 0 ∧ (∃ j, i' = o3 j ∧ ¬ j < n ∧ j ≤ n) ∧ clM T x r.2 ∧ r.2.length ≤ 12 ∧ okRu r.2 ∧ ∃ m, RQ T x m (mcode r.2) ∧ (mcode r.2).length ≤ n) ∨ (r.1 ≠ 0 ∧ g = 0 ∧ w' = o3 r.1) ∨ (∃ j, r.1 = 1 + 8 * j ∧ g = 1 ∧ w' = 0 ∧ i' = o3 j ∧ j < n ∧ sk t n j = j)
theorem mr_loop (hl : n ≤ 400) (hx : x < 6) (hb : ∀ k, byt (t k)) {K : Int32 → fS → Option (Int32 × fS)} : ∀ d L L0 m nn (S : fS) (i : Nat) (u : Int32), S.1 145 1 = o3 n → S.1 146 = t → RQ S x m (mcode L) → clM S x L → S.1 145 19 = o3 L.length → m ≤ 60 → (mcode L).length ≤ i → i ≤ n → L.length + d = 12 → d + 1 < nn → okRu L → ∃ T u' i' w' g, lp_X11_readsAll_35 K nn 1 (mS S (o3 i) 0 u) = K g (mS T i' w' u') ∧ eM9 x S T ∧ rEnd n x t (rl t n (d + 1) L.length m i L L0) g T i' w' := by
  intro d
  induction d with
  | zero =>
    intro L L0 m nn S i u hn ht hR hM h19 hm hc hi hd hnn hok
    obtain ⟨nn, rfl⟩ : ∃ k, nn = k + 1 := ⟨nn - 1, by omega⟩
    have hj := sk_le (t := t) hi
    have hg := sk_ge (t := t) (n := n) (i := i)
    rw [lp_X11_readsAll_35.eq_2, if_neg (show ¬ (1 : Int32) = 0 by decide), mt_see hn hl hi, bd_some, ht]
    dsimp only
    unfold rl
    by_cases h59 : sk t n i < n ∧ t (sk t n i) = 59
    · rw [if_pos ((seen_eq hb (by decide) (by decide)).mpr h59), bd_some, mS_nx, mS_13, o3_s, if_pos h59.1, if_pos h59.2, rall_rl]
      obtain ⟨T, w', u', a1, a2, a3⟩ := mr_clause (u := u) hl hx hb hn ht hR hM h19 hm (by omega) (show (mcode L).length ≤ sk t n i + 1 by omega) (by omega)
      have hz : ¬ (rcl t n L.length m (sk t n i + 1)).1 = 0 := fun q => by have := (a3 q).2.2.2.2.2.2.2.1; omega
      obtain ⟨nn, rfl⟩ : ∃ k, nn = k + 1 := ⟨nn - 1, by omega⟩
      rw [a1, bd_some, if_neg hz, if_neg hz]
      dsimp only
      rw [lp_X11_readsAll_35.eq_2, if_pos (show (0 : Int32) = 0 from rfl)]
      exact ⟨T, u', w', _, 0, rfl, a2, Or.inr (Or.inl ⟨hz, rfl, rfl⟩)⟩
    · rw [if_neg (fun q => h59 ((seen_eq hb (by decide) (by decide)).mp q))]
      refine ⟨S, u, _, 0, 1, rfl, eM9.rf, ?_⟩
      by_cases h1 : sk t n i < n
      · rw [if_pos h1, if_neg (fun q => h59 ⟨h1, q⟩)]
        exact Or.inr (Or.inr ⟨sk t n i, rfl, rfl, rfl, rfl, h1, sk_id⟩)
      · rw [if_neg h1]
        exact Or.inl ⟨rfl, rfl, rfl, ⟨_, rfl, h1, hj⟩, hM, by show L.length ≤ 12; omega, hok, m, hR, by show (mcode L).length ≤ n; omega⟩
  | succ d ih =>
    intro L L0 m nn S i u hn ht hR hM h19 hm hc hi hd hnn hok
    obtain ⟨nn, rfl⟩ : ∃ k, nn = k + 1 := ⟨nn - 1, by omega⟩
    have hj := sk_le (t := t) hi
    have hg := sk_ge (t := t) (n := n) (i := i)
    rw [lp_X11_readsAll_35.eq_2, if_neg (show ¬ (1 : Int32) = 0 by decide), mt_see hn hl hi, bd_some, ht]
    dsimp only
    rw [show rl t n (d + 1 + 1) L.length m i L L0 = if sk t n i < n then (if t (sk t n i) = 59 then rall t n (d + 1 + 1) L.length m (sk t n i + 1) L else (1 + 8 * sk t n i, L0)) else (0, L) from rfl]
    by_cases h59 : sk t n i < n ∧ t (sk t n i) = 59
    · rw [if_pos ((seen_eq hb (by decide) (by decide)).mpr h59), bd_some, mS_nx, mS_13, o3_s, if_pos h59.1, if_pos h59.2, rall_rl]
      obtain ⟨T, w', u', a1, a2, a3⟩ := mr_clause (u := u) hl hx hb hn ht hR hM h19 hm (by omega) (show (mcode L).length ≤ sk t n i + 1 by omega) (by omega)
      rw [a1, bd_some]
      by_cases hz : (rcl t n L.length m (sk t n i + 1)).1 = 0
      · obtain ⟨b1, b2, b3, b4, b5, b6, b7, b8, b9⟩ := a3 hz
        rw [if_pos hz, if_pos hz]
        dsimp only
        obtain ⟨T2, u2, i2, w2, g2, e2, f2, m2⟩ := ih (L ++ [(rcl t n L.length m (sk t n i + 1)).2.2.2]) L _ nn T _ u' ((eM9_1 a2).trans hn) ((eM9_t a2).trans ht) b1 b2 (by rw [b3, ln_app]) b6 b7 b4 (by rw [ln_app]; omega) (by omega) (okRu_app hok b9)
        rw [ln_app] at m2
        exact ⟨T2, u2, i2, w2, g2, e2, a2.tr f2, m2⟩
      · rw [if_neg hz, if_neg hz]
        dsimp only
        obtain ⟨nn, rfl⟩ : ∃ k, nn = k + 1 := ⟨nn - 1, by omega⟩
        rw [lp_X11_readsAll_35.eq_2, if_pos (show (0 : Int32) = 0 from rfl)]
        exact ⟨T, u', w', _, 0, rfl, a2, Or.inr (Or.inl ⟨hz, rfl, rfl⟩)⟩
    · rw [if_neg (fun q => h59 ((seen_eq hb (by decide) (by decide)).mp q))]
      refine ⟨S, u, _, 0, 1, rfl, eM9.rf, ?_⟩
      by_cases h1 : sk t n i < n
      · rw [if_pos h1, if_neg (fun q => h59 ⟨h1, q⟩)]
        exact Or.inr (Or.inr ⟨sk t n i, rfl, rfl, rfl, rfl, h1, sk_id⟩)
      · rw [if_neg h1]
        exact Or.inl ⟨rfl, rfl, rfl, ⟨_, rfl, h1, hj⟩, hM, by show L.length ≤ 12; omega, hok, m, hR, by show (mcode L).length ≤ n; omega⟩
end MR8
theorem rd_3 {X Y : fS} (e : f_X11_see X = some (-1, Y)) (h16 : Y.1 145 16 ≠ 6) (hw : Y.1 145 14 = 0) : rdK 1 X = some (1, pI Y 145 1 0) := by
  unfold rdK
  rw [if_neg (show ¬ (1 : Int32) = 0 by decide), e, bd_some]
  dsimp only
  rw [if_pos (show (-1 : Int32) = -1 from rfl), if_neg (show ¬ (1 : Int32) = 0 by decide), if_neg h16, bd_some, pI_ne (by omega), if_pos hw]
/-- what rule() may write, text x -/
def wV (x a k : Nat) : Prop := wM9 x a k ∨ (a = 145 ∧ (k = 1 ∨ k = 13 ∨ k = 14 ∨ k = 15))
def eV (x : Nat) (S T : fS) : Prop := (∀ a k, ¬ wV x a k → T.1 a k = S.1 a k) ∧ T.2 = S.2
theorem eV.tr {x : Nat} {S T U : fS} (h : eV x S T) (g : eV x T U) : eV x S U := ⟨fun a k n => (g.1 a k n).trans (h.1 a k n), g.2.trans h.2⟩
theorem eV_of {x : Nat} {S T : fS} (h : eM9 x S T) : eV x S T := ⟨fun a k n => h.1 a k (fun q => n (Or.inl q)), h.2⟩
theorem eV_pI {x : Nat} {S : fS} {a k : Nat} {y : Int32} (h : wV x a k) : eV x S (pI S a k y) := ⟨fun b j n => by
  rw [pI_get]
  by_cases q : b = a ∧ j = k
  · exact absurd (q.1 ▸ q.2 ▸ h) n
  · rw [if_neg q], rfl⟩
theorem eV_mS {x : Nat} {S : fS} {i w u : Int32} : eV x S (mS S i w u) := by
  unfold mS
  exact ((eV_pI (by unfold wV; omega)).tr (eV_pI (by unfold wV; omega))).tr (eV_pI (by unfold wV; omega))
/-- a rule as the reference holds it, text x -/
def cdM (S : fS) (x : Nat) (L : List Cl) : Prop := clM S x L ∧ L.length ≤ 12 ∧ S.1 148 x = o3 (mcode L).length ∧ (mcode L).length ≤ 400 ∧ okRu L ∧ ∀ k, k < (mcode L).length → S.1 147 (400 * x + k) = sgM ((mcode L).getD k (0, 0))
theorem m_rreads {S : fS} {n x : Nat} (hn : S.1 145 1 = o3 n) (hl : n ≤ 400) (hb : ∀ k, byt (S.1 146 k)) (hx : x < 6) (h16 : S.1 145 16 = o3 x) (h150 : S.1 150 x = 0) : ∃ Y, f_X11_readsAll S = some (if (ru0 (S.1 146) n).1 = 0 then 1 else 0, Y) ∧ Y.1 145 1 = 0 ∧ ((ru0 (S.1 146) n).1 = 0 → cdM Y x (ru0 (S.1 146) n).2) ∧ (¬ (ru0 (S.1 146) n).1 = 0 → Y.1 145 14 = o3 (ru0 (S.1 146) n).1) ∧ eV x S Y := by
  rw [rd_eq, h16, sI_o (by omega) (by omega), bd_some, bd_some, bd_some, bd_some, bd_some]
  rw [mS_mk, mS_p (by omega)]
  generalize hX : pI (pI (pI S 148 x 0) 145 19 0) 145 17 0 = X
  generalize hu : (pI (pI S 148 x 0) 145 19 0).1 145 15 = u
  have hD0 : eM9 x S X := by
    rw [← hX]
    exact ((eM9_pI (by unfold wM9 wMr; omega)).tr (eM9_pI (by unfold wM9; omega))).tr (eM9_pI (by unfold wM9 wMr; omega))
  have hXn : X.1 145 1 = o3 n := (eM9_1 hD0).trans hn
  have hXt : X.1 146 = S.1 146 := eM9_t hD0
  have hXR : RQ X x 0 (mcode []) := by
    rw [← hX]
    refine ⟨?_, ?_, ?_, fun k hk => absurd hk (Nat.not_lt_zero _)⟩
    · rw [pI_ne (by omega), pI_ne (by omega), pI_ne (by omega)]; exact h16
    · rw [pI_eq]; rfl
    · rw [pI_ne (by omega), pI_ne (by omega), pI_eq]; rfl
  have hXM : clM X x [] := by
    rw [← hX]
    refine ⟨?_, fun k hk => absurd hk (Nat.not_lt_zero _)⟩
    rw [pI_ne (by omega), pI_ne (by omega), pI_ne (by omega)]; exact h150
  have hX19 : X.1 145 19 = o3 0 := by rw [← hX, pI_ne (by omega), pI_eq]; rfl
  obtain ⟨S1, w1, u1, e1, f1, g1⟩ := mr_clause (u := u) hl hx hb hXn hXt hXR hXM hX19 (by omega) (by show 0 ≤ 12; omega) (by show 0 ≤ 0; omega) (i := 0) (by omega)
  have e1' : f_X11_clauseHere (mS X 0 0 u) = some (if (rcl (S.1 146) n 0 0 0).1 = 0 then (1, mS S1 (o3 (rcl (S.1 146) n 0 0 0).2.1) 0 u1) else (0, mS S1 w1 (o3 (rcl (S.1 146) n 0 0 0).1) u1)) := e1
  rw [e1', bd_some]
  have hru : ru0 (S.1 146) n = if (rcl (S.1 146) n 0 0 0).1 = 0 then rl (S.1 146) n 12 1 (rcl (S.1 146) n 0 0 0).2.2.1 (rcl (S.1 146) n 0 0 0).2.1 ([] ++ [(rcl (S.1 146) n 0 0 0).2.2.2]) [] else ((rcl (S.1 146) n 0 0 0).1, []) := rfl
  have g1 : (rcl (S.1 146) n 0 0 0).1 = 0 → RQ S1 x (rcl (S.1 146) n 0 0 0).2.2.1 (mcode ([] ++ [(rcl (S.1 146) n 0 0 0).2.2.2])) ∧ clM S1 x ([] ++ [(rcl (S.1 146) n 0 0 0).2.2.2]) ∧ S1.1 145 19 = o3 (0 + 1) ∧ (rcl (S.1 146) n 0 0 0).2.1 ≤ n ∧ 0 < (rcl (S.1 146) n 0 0 0).2.1 ∧ (rcl (S.1 146) n 0 0 0).2.2.1 ≤ 60 ∧ (mcode ([] ++ [(rcl (S.1 146) n 0 0 0).2.2.2])).length ≤ (rcl (S.1 146) n 0 0 0).2.1 ∧ 0 < 12 ∧ okCl (rcl (S.1 146) n 0 0 0).2.2.2 := g1
  have bad : ∀ (S2 : fS) (i2 u2 : Int32) (r : Nat), r ≠ 0 → r ≤ 8 * n + 10 → eM9 x S S2 → rdK 0 (mS S2 i2 (o3 r) u2) = some (0, pI (mS S2 i2 (o3 r) u2) 145 1 0) ∧ (pI (mS S2 i2 (o3 r) u2) 145 1 0).1 145 14 = o3 r ∧ eV x S (pI (mS S2 i2 (o3 r) u2) 145 1 0) := by
    intro S2 i2 u2 r h0 hr hD
    refine ⟨?_, ?_, ((eV_of hD).tr eV_mS).tr (eV_pI (by unfold wV; omega))⟩
    · rw [rd_0, mS_14, if_neg (o3_ne0 (by omega) h0)]
    · rw [pI_ne (by omega), mS_14]
  have hzf : (rcl (S.1 146) n 0 0 0).1 ≤ 8 * n + 10 := (rcl_ok (Nat.zero_le _)).1
  by_cases hz : (rcl (S.1 146) n 0 0 0).1 = 0
  · rw [if_pos hz]
    rw [if_pos hz] at hru
    dsimp only
    obtain ⟨b1, b2, b3, b4, b5, b6, b7, b8, b9⟩ := g1 hz
    obtain ⟨S2, u2, i2, w2, g2, e2, f2, m2⟩ := mr_loop hl hx hb (K := rdK) 11 _ [] _ FU S1 _ u1 ((eM9_1 f1).trans hXn) ((eM9_t f1).trans hXt) b1 b2 b3 b6 b7 b4 (by show 1 + 11 = 12; omega) (FU_lt (by omega)) (okRu_app (fun z hz => absurd hz List.not_mem_nil) b9)
    have m2 : rEnd n x (S.1 146) (rl (S.1 146) n 12 1 (rcl (S.1 146) n 0 0 0).2.2.1 (rcl (S.1 146) n 0 0 0).2.1 ([] ++ [(rcl (S.1 146) n 0 0 0).2.2.2]) []) g2 S2 i2 w2 := m2
    rw [e2]
    rw [← hru] at m2
    have hD2 : eM9 x S S2 := hD0.tr (f1.tr f2)
    have hn2 : S2.1 145 1 = o3 n := (eM9_1 hD2).trans hn
    have ht2 : S2.1 146 = S.1 146 := eM9_t hD2
    rcases m2 with ⟨r0, rfl, rfl, ⟨j, rfl, hj1, hj2⟩, hM, h12, hok, mm, hRQ, hmc⟩ | ⟨r0, rfl, rfl⟩ | ⟨j, r0, rfl, rfl, rfl, hj1, hj2⟩
    · have hsee := mt_see (w := 0) (u := u2) hn2 hl (i := j) hj2
      have hsk := sk_ge (t := S2.1 146) (n := n) (i := j)
      rw [(seen_no (by rw [ht2]; exact hb)).mpr (by omega)] at hsee
      rw [rd_3 hsee (by rw [mS_ne (by omega), hRQ.1]; exact fun q => by have := (o3_inj (b := 6) (by omega) (by omega)).mp q; omega) (by rw [mS_14]), if_pos r0]
      refine ⟨_, rfl, by rw [pI_eq], fun _ => ⟨clM_eq hM (by rw [pI_ne (by omega), mS_ne (by omega)]) (fun k _ => by rw [pI_ne (by omega), mS_ne (by omega)]), h12, ?_, by omega, hok, fun k hk => ?_⟩, fun q => absurd r0 q, ((eV_of hD2).tr eV_mS).tr (eV_pI (by unfold wV; omega))⟩
      · rw [pI_ne (by omega), mS_ne (by omega)]; exact hRQ.2.2.1
      · rw [pI_ne (by omega), mS_ne (by omega)]; exact hRQ.2.2.2 k hk
    · have hfl : (ru0 (S.1 146) n).1 ≤ 8 * n + 10 := rall_fl 13 0 0 0 [] (Nat.zero_le _)
      obtain ⟨b1, b2, b3⟩ := bad S2 i2 u2 _ r0 hfl hD2
      rw [b1, if_neg r0]
      exact ⟨_, rfl, by rw [pI_eq], fun q => absurd q r0, fun _ => b2, b3⟩
    · have hsee := mt_see (w := 0) (u := u2) hn2 hl (i := j) (by omega)
      rw [ht2, hj2] at hsee
      have r1 : ¬ (ru0 (S.1 146) n).1 = 0 := by rw [r0]; omega
      have hval : (1 + 8 * o3 j + 0 : Int32) = o3 (1 + 8 * j) := by rw [show (1 : Int32) = o3 1 from rfl, show (8 : Int32) = o3 8 from rfl, show (0 : Int32) = o3 0 from rfl, o3_mul, o3_add, o3_add]; rfl
      rw [rd_1 hsee (fun q => (seen_no hb).mp q hj1) (by rw [mS_14]), mS_13, hval, if_neg (o3_ne0 (by omega) (by omega)), if_neg r1]
      refine ⟨_, rfl, by rw [pI_eq], fun q => absurd q r1, fun _ => ?_, (((eV_of hD2).tr eV_mS).tr (eV_pI (by unfold wV; omega))).tr (eV_pI (by unfold wV; omega))⟩
      rw [pI_ne (by omega), pI_eq, r0]
  · rw [if_neg hz]
    rw [if_neg hz] at hru
    dsimp only
    obtain ⟨mm, hF⟩ := op_FU
    rw [hF, lp_X11_readsAll_35.eq_2, if_pos (show (0 : Int32) = 0 from rfl), hru]
    obtain ⟨b1, b2, b3⟩ := bad S1 w1 u1 _ hz hzf (hD0.tr f1)
    rw [b1, if_neg hz]
    exact ⟨_, rfl, by rw [pI_eq], fun q => absurd q hz, fun _ => b2, b3⟩
theorem m_rule {S : fS} {n r : Nat} (hn : S.1 145 1 = o3 n) (hl : n ≤ 400) (hb : ∀ k, byt (S.1 146 k)) (hr : S.1 145 2 = o3 r) (h6 : r ≤ 6) : ∃ Y, f_X11_rule S = some (if r = 6 then -1 else if (ru0 (S.1 146) n).1 = 0 then o3 r else -2 - o3 (ru0 (S.1 146) n).1, Y) ∧ (r = 6 → Y = S) ∧ (r < 6 → Y.1 145 1 = 0 ∧ (∀ a k, ¬ wV r a k → ¬ (a = 145 ∧ (k = 2 ∨ k = 16)) → Y.1 a k = S.1 a k) ∧ Y.2 = S.2 ∧ (¬ (ru0 (S.1 146) n).1 = 0 → Y.1 145 2 = o3 r) ∧ ((ru0 (S.1 146) n).1 = 0 → Y.1 145 2 = o3 (r + 1) ∧ cdM Y r (ru0 (S.1 146) n).2)) := by
  unfold f_X11_rule
  rw [hr]
  by_cases hr6 : r = 6
  · rw [if_pos (show o3 r = (6 : Int32) by rw [hr6]; rfl), if_pos hr6]
    exact ⟨S, rfl, fun _ => rfl, fun q => by omega⟩
  · rw [if_neg (show ¬ o3 r = (6 : Int32) from fun q => hr6 ((o3_inj (b := 6) (by omega) (by omega)).mp q)), if_neg hr6, bd_some, pI_eq, sI_o (by omega) (by omega), bd_some]
    generalize hX : pI (pI S 145 16 (o3 r)) 150 r 0 = X
    have hXo : ∀ a k, ¬ (a = 145 ∧ k = 16) → ¬ (a = 150 ∧ k = r) → X.1 a k = S.1 a k := fun a k h1 h2 => by rw [← hX, pI_ne h2, pI_ne h1]
    have hX2 : X.2 = S.2 := by rw [← hX]; rfl
    have hXt : X.1 146 = S.1 146 := funext fun k => hXo 146 k (by omega) (by omega)
    obtain ⟨Y, e1, e2, e3, e4, e5⟩ := m_rreads (S := X) (n := n) (x := r) (by rw [hXo _ _ (by omega) (by omega)]; exact hn) hl (by rw [hXt]; exact hb) (by omega) (by rw [← hX, pI_ne (by omega), pI_eq]) (by rw [← hX, pI_eq])
    rw [hXt] at e1 e3 e4
    have hY2 : Y.1 145 2 = o3 r := by rw [e5.1 145 2 (by unfold wV wM9 wMr; omega), hXo _ _ (by omega) (by omega)]; exact hr
    rw [e1, bd_some]
    dsimp only
    by_cases hz : (ru0 (S.1 146) n).1 = 0
    · rw [if_pos hz, if_pos hz, if_neg (show ¬ (1 : Int32) = 0 by decide), bd_some, hY2, o3_s, pI_eq, show (1 : Int32) = o3 1 from rfl, o3_sub (by omega), show r + 1 - 1 = r by omega]
      refine ⟨_, rfl, fun q => absurd q hr6, fun _ => ⟨by rw [pI_ne (by omega)]; exact e2, fun a k h1 h2 => ?_, e5.2.trans hX2, fun q => absurd hz q, fun _ => ⟨pI_eq, ?_⟩⟩⟩
      · rw [pI_ne (by omega), e5.1 a k h1, hXo a k (by omega) (fun q => h1 (by unfold wV wM9; omega))]
      · obtain ⟨d1, d2, d3, d4, d5, d6⟩ := e3 hz
        exact ⟨clM_eq d1 (by rw [pI_ne (by omega)]) (fun k _ => by rw [pI_ne (by omega)]), d2, by rw [pI_ne (by omega)]; exact d3, d4, d5, fun k hk => by rw [pI_ne (by omega)]; exact d6 k hk⟩
    · rw [if_neg hz, if_neg hz, if_pos (show (0 : Int32) = 0 from rfl), e4 hz]
      exact ⟨Y, rfl, fun q => absurd q hr6, fun _ => ⟨e2, fun a k h1 h2 => by rw [e5.1 a k h1, hXo a k (by omega) (fun q => h1 (by unfold wV wM9; omega))], e5.2.trans hX2, fun _ => hY2, fun q => absurd q hz⟩⟩
end
