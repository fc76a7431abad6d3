section
section CT4
variable {n m : Nat} {c : List (Nat × Nat)} {H : List Nat} {f : Int32}
theorem vl_gt {t : Nat → Int32} {j : Nat} (hj : j ≤ n) (hs : sk t n j = j) (h : vlF t n m j = 0) : j < vlP t n j ∧ vlP t n j ≤ n ∧ m < 60 := by
  unfold vlF at h
  unfold vlP
  by_cases hd : 0 < dl t n j
  · rw [if_pos hd] at h ⊢
    by_cases h0 : nmf t n j 0 99999 = 0
    · rw [if_pos h0] at h
      by_cases h60 : 60 ≤ m
      · rw [if_pos h60] at h; omega
      · exact ⟨nmp_gt h0, nmp_le hj, by omega⟩
    · rw [if_neg h0] at h; exact absurd h h0
  · rw [if_neg hd] at h ⊢
    by_cases h8 : nmI t n j < 8
    · rw [if_pos h8] at h
      have hw := nmI_wat h8
      have hle := wat_le hj hw
      have hpos := (mw_l (6 + nmI t n j) (by omega)).1
      by_cases h60 : 60 ≤ m
      · rw [if_pos h60] at h; omega
      · unfold nmL
        exact ⟨by omega, hle, by omega⟩
    · rw [if_neg h8] at h; omega
theorem vl_fl {t : Nat → Int32} {j : Nat} (hj : j ≤ n) : vlF t n m j ≤ 8 * n + 10 := by
  have := nmf_le (t := t) (lo := 0) (hi := 99999) hj
  unfold vlF
  split
  · split
    · split <;> omega
    · omega
  · split
    · split <;> omega
    · omega
theorem cr_val {S : fS} {K : fS → Option (Int32 × fS)} {nn i p : Nat} {s : Int32} {cp : Bool} (hn : S.1 1 1 = o3 n) (hl : n ≤ 400) (hR : RC S m c H) (hm : m ≤ 60) (hx : ∀ y ∈ H, y < 17) (hD : dep H ≤ 10) (hcl : c.length + H.length ≤ i) (hi : i ≤ n) (hok : okHs 7 H) :
    (∃ r S' i' s', tval (S.1 2) n cp m c H i = .inl r ∧ ((f_X5_readValue (tS S (o3 i) s f)).bind fun q12 => if q12.1 = (0 : Int32) then (some ((0 : Int32), q12.2)) else tA K nn (if cp = true then 1 else 0) (o3 p) q12.2) = some (if r.1 = 0 then (1, tS S' (o3 r.2.1) s' f) else (0, tS S' i' s' (o3 r.1))) ∧ eQ S S' ∧ (r.1 = 0 → r.2.1 ≤ n ∧ i < r.2.1 ∧ r.2.2.1 ≤ 60 ∧ r.2.2.2.length ≤ r.2.1 ∧ ∃ H', RC S' r.2.2.1 r.2.2.2 H')) ∨
    (∃ y S' s' z, tval (S.1 2) n cp m c H i = .inr y ∧ ((f_X5_readValue (tS S (o3 i) s f)).bind fun q12 => if q12.1 = (0 : Int32) then (some ((0 : Int32), q12.2)) else tA K nn (if cp = true then 1 else 0) (o3 p) q12.2) = lp_X5_readTest_21 K nn (if y.1 = true then 1 else 0) z (o3 (p + 1)) (tS S' (o3 y.2.2.2.2.2) s' f) ∧ (y.1 = true ∨ z = if y.2.1 = true then 1 else 0) ∧ eQ S S' ∧ RC S' y.2.2.1 y.2.2.2.1 y.2.2.2.2.1 ∧ oTS n y ∧ i + 2 ≤ y.2.2.2.2.2) := by
  have hj := sk_le (t := S.1 2) hi
  have hg := sk_ge (t := S.1 2) (n := n) (i := i)
  have hid := sk_id (t := S.1 2) (n := n) (i := i)
  obtain ⟨S1, i1, s1, e1, e2, e3⟩ := cv_value (s := s) (f := f) hn hl hR hm hi (fun hv => by have := vl_gt hj hid hv; omega)
  unfold tval
  rw [e1, bd_some]
  by_cases hv : vlF (S.1 2) n m (sk (S.1 2) n i) = 0
  · rw [if_pos hv, if_pos hv]
    dsimp only
    rw [if_neg (show ¬ (1 : Int32) = 0 by decide)]
    obtain ⟨v1, v2, v3⟩ := vl_gt hj hid hv
    have hn1 : S1.1 1 1 = o3 n := by rw [e2.1 1 1 (by unfold wQ; omega)]; exact hn
    have ht1 : S1.1 2 = S.1 2 := funext fun k => e2.1 2 k (by unfold wQ; omega)
    rcases ca_aft (K := K) (nn := nn) (p := p) (s := s1) (f := f) (cp := cp) hn1 hl (e3 hv) (by omega) hx hD (by rw [ln_app]; omega) v2 hok with ⟨r, S2, i2, s2, g1, g2, g3, g4⟩ | ⟨y, S2, s2, z, g1, g2, g3, g4, g5, g6, g7⟩
    · rw [ht1] at g1
      exact Or.inl ⟨r, S2, i2, s2, g1, g2, e2.tr g3, fun q => by
        obtain ⟨a1, a2, a3, a4, H', a5⟩ := g4 q
        exact ⟨a1, by omega, by omega, a4, H', by rw [a3]; exact a5⟩⟩
    · rw [ht1] at g1
      exact Or.inr ⟨y, S2, s2, z, g1, g2, g3, e2.tr g4, g5, g6, by omega⟩
  · rw [if_neg hv, if_neg hv]
    dsimp only
    rw [if_pos (show (0 : Int32) = 0 from rfl)]
    exact Or.inl ⟨_, S1, i1, s1, rfl, by rw [if_neg hv], e2, fun q => absurd q hv⟩
theorem run_s {t : Nat → Int32} {F : Nat} {x : TS} : run t n (F + 1) x = match stp t n x with
    | .inl r => r
    | .inr y => run t n F y := rfl
theorem cr_run (hl : n ≤ 400) {K : fS → Option (Int32 × fS)} {t : Nat → Int32} : ∀ F (x : TS) (S : fS) (s z : Int32) (p nn : Nat), S.1 1 1 = o3 n → S.1 2 = t → RC S x.2.2.1 x.2.2.2.1 x.2.2.2.2.1 → oTS n x → (x.1 = true ∨ z = if x.2.1 = true then 1 else 0) → n < x.2.2.2.2.2 + F → F < nn → 2 * p ≤ x.2.2.2.2.2 → ∃ S' i' s', lp_X5_readTest_21 K nn (if x.1 = true then 1 else 0) z (o3 p) (tS S (o3 x.2.2.2.2.2) s f) = some (if (run t n F x).1 = 0 then (1, tS S' (o3 (run t n F x).2.1) s' f) else (0, tS S' i' s' (o3 (run t n F x).1))) ∧ eQ S S' ∧ ((run t n F x).1 = 0 → (run t n F x).2.1 ≤ n ∧ x.2.2.2.2.2 < (run t n F x).2.1 ∧ (run t n F x).2.2.1 ≤ 60 ∧ (run t n F x).2.2.2.length ≤ (run t n F x).2.1 ∧ ∃ H', RC S' (run t n F x).2.2.1 (run t n F x).2.2.2 H') := by
  intro F
  induction F with
  | zero => intro x S s z p nn hn ht hR ho hz hF hnn hp; exact absurd ho.2.2.2.2.1 (by omega)
  | succ F ih =>
    intro x S s z p nn hn ht hR ho hz hF hnn hp
    subst ht
    obtain ⟨nn, rfl⟩ : ∃ n', nn = n' + 1 := ⟨nn - 1, by omega⟩
    obtain ⟨o1, o2, o3', o4, o5, o6⟩ := ho
    obtain ⟨due, cp, m, c, H, i⟩ := x
    dsimp only at hR hz hF hp o1 o2 o3' o4 o5 o6 ⊢
    rw [tA_eq, if_neg (show ¬ (400 : Int32) ≤ o3 _ from fun q => by have := (o3_le (a := 400) (by omega) (by omega)).mp q; omega), run_s]
    cases due with
    | false =>
      have hz : z = if cp = true then 1 else 0 := hz.resolve_left (by decide)
      subst hz
      have hst : stp (S.1 2) n (false, cp, m, c, H, i) = tval (S.1 2) n cp m c H i := rfl
      rw [if_pos (show (if false = true then (1 : Int32) else 0) = 0 from rfl), hst]
      rcases cr_val (K := K) (nn := nn) (p := p) (s := s) (f := f) (cp := cp) hn hl hR o1 o2 o3' o4 o5 o6 with ⟨r, S2, i2, s2, g1, g2, g3, g4⟩ | ⟨y, S2, s2, z2, g1, g2, g3, g4, g5, g6, g7⟩
      · rw [g1, g2]
        exact ⟨S2, i2, s2, rfl, g3, g4⟩
      · rw [g1, g2]
        dsimp only
        obtain ⟨S3, i3, s3, k1, k2, k3⟩ := ih y S2 s2 z2 (p + 1) nn (by rw [g4.1 1 1 (by unfold wQ; omega)]; exact hn) (funext fun k => g4.1 2 k (by unfold wQ; omega)) g5 g6 g3 (by omega) (by omega) (by omega)
        exact ⟨S3, i3, s3, k1, g4.tr k2, fun q => by
          obtain ⟨a1, a2, a3⟩ := k3 q
          exact ⟨a1, by omega, a3⟩⟩
    | true =>
      have o6 : okHs 4 H := o6
      have hL := ok_len o6 (by omega) o3'
      rw [if_neg (show ¬ (if true = true then (1 : Int32) else 0) = 0 by decide)]
      obtain ⟨S1, i1, s1, e1, e2, e3⟩ := co_open (f := f) hl (K := fun S76 => some ((0 : Int32), S76)) (10 - dep H) 0 FU H S i s hn rfl hR (by omega) (by omega) (by omega) o5 (FU_lt (by omega))
      rw [show 10 - dep H + 1 = 11 - dep H by omega] at e1 e3
      have hst : stp (S.1 2) n (true, cp, m, c, H, i) = if (opn (S.1 2) n (11 - dep H) i H).1 = 0 then tval (S.1 2) n false m c (opn (S.1 2) n (11 - dep H) i H).2.2 (opn (S.1 2) n (11 - dep H) i H).2.1 else .inl ((opn (S.1 2) n (11 - dep H) i H).1, 0, 0, []) := rfl
      have e1' : f_X5_readOpenings (tS S (o3 i) s f) = some (if (opn (S.1 2) n (11 - dep H) i H).1 = 0 then (1, tS S1 (o3 (opn (S.1 2) n (11 - dep H) i H).2.1) s1 f) else (0, tS S1 i1 s1 (o3 (opn (S.1 2) n (11 - dep H) i H).1))) := e1
      rw [hst, e1', bd_some]
      have hpr := opn_pr (t := S.1 2) (n := n) (11 - dep H) i H o5 o3'
      generalize opn (S.1 2) n (11 - dep H) i H = Q at e3 hpr
      have hn1 : S1.1 1 1 = o3 n := by rw [e2.1 1 1 (by unfold wQ; omega)]; exact hn
      have ht1 : S1.1 2 = S.1 2 := funext fun k => e2.1 2 k (by unfold wQ; omega)
      by_cases hq : Q.1 = 0
      · rw [if_pos hq, if_pos hq]
        dsimp only
        rw [if_neg (show ¬ (1 : Int32) = 0 by decide)]
        obtain ⟨P, p1, p2, p3, p4, p5, p6⟩ := hpr hq
        have hx1 : ∀ y ∈ Q.2.2, y < 17 := fun y hy => by
          rw [p1] at hy
          rcases List.mem_append.mp hy with hy | hy
          · have := p2 y hy; omega
          · exact o2 y hy
        have hok1 : okHs 7 Q.2.2 := by rw [p1]; exact okHs_mo _ 4 7 (by omega) (okHs_op P H p2 o6)
        have hlen1 : Q.2.2.length = P.length + H.length := by rw [p1, List.length_append]
        rcases cr_val (K := K) (nn := nn) (p := p) (s := s1) (f := f) (cp := false) hn1 hl (e3 hq) o1 hx1 p3 (by omega) p5 hok1 with ⟨r, S2, i2, s2, g1, g2, g3, g4⟩ | ⟨y, S2, s2, z2, g1, g2, g3, g4, g5, g6, g7⟩
        · rw [ht1] at g1
          rw [if_neg (show ¬ (false = true) by decide)] at g2
          rw [g1, g2]
          dsimp only
          exact ⟨S2, i2, s2, rfl, e2.tr g3, fun q => by
            obtain ⟨a1, a2, a3⟩ := g4 q
            exact ⟨a1, by omega, a3⟩⟩
        · rw [ht1] at g1
          rw [if_neg (show ¬ (false = true) by decide)] at g2
          rw [g1, g2]
          dsimp only
          have hE := e2.tr g4
          obtain ⟨S3, i3, s3, k1, k2, k3⟩ := ih y S2 s2 z2 (p + 1) nn (by rw [hE.1 1 1 (by unfold wQ; omega)]; exact hn) (funext fun k => hE.1 2 k (by unfold wQ; omega)) g5 g6 g3 (by omega) (by omega) (by omega)
          exact ⟨S3, i3, s3, k1, hE.tr k2, fun q => by
            obtain ⟨a1, a2, a3⟩ := k3 q
            exact ⟨a1, by omega, a3⟩⟩
      · rw [if_neg hq, if_neg hq]
        dsimp only
        rw [if_pos (show (0 : Int32) = 0 from rfl)]
        exact ⟨S1, i1, s1, by rw [if_neg hq], e2, fun q => absurd q hq⟩
end CT4
end
