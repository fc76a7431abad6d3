/-! frames: what each function may write -/
def Fr (w1 w2 : Nat → Nat → Prop) (S T : fS) : Prop := (∀ a k, ¬ w1 a k → T.1 a k = S.1 a k) ∧ (∀ a k, ¬ w2 a k → T.2 a k = S.2 a k)
theorem Fr.rf {w1 w2 : Nat → Nat → Prop} {S : fS} : Fr w1 w2 S S := ⟨fun _ _ _ => rfl, fun _ _ _ => rfl⟩
theorem Fr.tr {w1 w2 : Nat → Nat → Prop} {S T U : fS} (h : Fr w1 w2 S T) (g : Fr w1 w2 T U) : Fr w1 w2 S U := ⟨fun a k n => (g.1 a k n).trans (h.1 a k n), fun a k n => (g.2 a k n).trans (h.2 a k n)⟩
theorem Fr.mo {w1 w2 v1 v2 : Nat → Nat → Prop} {S T : fS} (h : Fr w1 w2 S T) (s1 : ∀ a k, w1 a k → v1 a k) (s2 : ∀ a k, w2 a k → v2 a k) : Fr v1 v2 S T := ⟨fun a k n => h.1 a k (fun q => n (s1 a k q)), fun a k n => h.2 a k (fun q => n (s2 a k q))⟩
theorem fr_up {α : Type} {f : Nat → Nat → α} {b j : Nat} {x : α} {a k : Nat} (h : ¬ (a = b ∧ k = j)) : mm_up f b j x a k = f a k := by
  unfold mm_up
  by_cases ha : a = b
  · rw [if_pos ha]
    have hk : ¬ k = j := fun q => h ⟨ha, q⟩
    show (if k = j then x else f b k) = _
    rw [if_neg hk, ha]
  · rw [if_neg ha]
theorem fr_row {α : Type} {f : Nat → Nat → α} {b : Nat} {r : Nat → α} {a k : Nat} (h : ¬ a = b) : mm_row f b r a k = f a k := by
  unfold mm_row
  rw [if_neg h]
theorem fr_pI {w1 w2 : Nat → Nat → Prop} {S T : fS} {b j : Nat} {x : Int32} (e : some (pI S b j x) = some T) (hw : w1 b j) : Fr w1 w2 S T := by
  obtain rfl := Option.some.inj e
  exact ⟨fun a k n => fr_up (fun q => n (q.1 ▸ q.2 ▸ hw)), fun _ _ _ => rfl⟩
theorem fr_pL {w1 w2 : Nat → Nat → Prop} {S T : fS} {b j : Nat} {x : Int64} (e : some (pL S b j x) = some T) (hw : w2 b j) : Fr w1 w2 S T := by
  obtain rfl := Option.some.inj e
  exact ⟨fun _ _ _ => rfl, fun a k n => fr_up (fun q => n (q.1 ▸ q.2 ▸ hw))⟩
theorem fr_cI {w1 w2 : Nat → Nat → Prop} {S T : fS} {c b n : Nat} (e : some (cI S c b n) = some T) (hw : ∀ k, w1 b k) : Fr w1 w2 S T := by
  obtain rfl := Option.some.inj e
  exact ⟨fun a k n => fr_row (fun q => n (q ▸ hw k)), fun _ _ _ => rfl⟩
theorem fr_cL {w1 w2 : Nat → Nat → Prop} {S T : fS} {c b n : Nat} (e : some (cL S c b n) = some T) (hw : ∀ k, w2 b k) : Fr w1 w2 S T := by
  obtain rfl := Option.some.inj e
  exact ⟨fun _ _ _ => rfl, fun a k n => fr_row (fun q => n (q ▸ hw k))⟩
theorem fr_sI {w1 w2 : Nat → Nat → Prop} {S T : fS} {b n : Nat} {i x : Int32} (e : sI S b n i x = some T) (hw : ∀ k, w1 b k) : Fr w1 w2 S T := fr_pI (ifn_some e).2 (hw _)
theorem fr_sL {w1 w2 : Nat → Nat → Prop} {S T : fS} {b n : Nat} {i : Int32} {x : Int64} (e : sL S b n i x = some T) (hw : ∀ k, w2 b k) : Fr w1 w2 S T := fr_pL (ifn_some e).2 (hw _)
theorem fr_ite {α : Type} {c : Prop} [Decidable c] {x y : Option α} {r : α} (h : (if c then x else y) = some r) : x = some r ∨ y = some r := by
  by_cases hc : c
  · rw [if_pos hc] at h; exact Or.inl h
  · rw [if_neg hc] at h; exact Or.inr h
theorem fr_e1 {w1 w2 : Nat → Nat → Prop} {S T r : fS} (e : some T = some r) (h : Fr w1 w2 S T) : Fr w1 w2 S r := by
  obtain rfl := Option.some.inj e
  exact h
theorem fr_e2 {α : Type} {w1 w2 : Nat → Nat → Prop} {S T : fS} {v : α} {r : α × fS} (e : some (v, T) = some r) (h : Fr w1 w2 S T) : Fr w1 w2 S r.2 := by
  obtain rfl := Option.some.inj e
  exact h
theorem fr_A22 {i : Int32} {b : Nat} (h : gA22 i = some b) : 51 ≤ b ∧ b ≤ 108 := by
  obtain ⟨h1, h2⟩ := ifn_some h
  cases h2
  have := fun q => h1 (Or.inr q)
  omega
theorem fr_A23 {i : Int32} {b : Nat} (h : gA23 i = some b) : 127 ≤ b ∧ b ≤ 142 := by
  obtain ⟨h1, h2⟩ := ifn_some h
  cases h2
  have := fun q => h1 (Or.inr q)
  omega
theorem fr_rON {v : Int32} {S : fS} {q : Option Nat} (h : f_X10_ruleOrNull v S = some q) : 127 ≤ q.getD 127 ∧ q.getD 127 ≤ 142 := by
  unfold f_X10_ruleOrNull at h
  obtain ⟨q1, -, h⟩ := Option.bind_eq_some_iff.mp h
  rcases fr_ite h with h | h
  · obtain rfl := Option.some.inj h
    exact ⟨by decide, by decide⟩
  · obtain ⟨a, e, h⟩ := Option.bind_eq_some_iff.mp h
    obtain rfl := Option.some.inj h
    exact fr_A23 e
def w1_lp_X7_put_3 (a k : Nat) : Prop := (a = 1 ∧ k = 1) ∨ a = 2
def w2_lp_X7_put_3 (a k : Nat) : Prop := False
theorem fr_lp_X7_put_3 {p1 : Int32} {K : fS → Option (fS)} {r : fS} {v1 v2 : Nat → Nat → Prop} (s1 : ∀ a k, w1_lp_X7_put_3 a k → v1 a k) (s2 : ∀ a k, w2_lp_X7_put_3 a k → v2 a k) (hK : ∀ (x0 : fS), K x0 = some r → Fr v1 v2 x0 r) : ∀ (n : Nat) (p2 : Int32) (S0 : fS), lp_X7_put_3 p1 K n p2 S0 = some r → Fr v1 v2 S0 r := by
  intro n
  induction n with
  | zero => intro p2 S0 h; exact mm_no h
  | succ n ih =>
    intro p2 S0 h
    rw [lp_X7_put_3.eq_2] at h
    rcases fr_ite h with h1 | h1
    ·
      exact (Fr.rf (S := S0)).tr (hK _ h1)
    ·
      rcases fr_ite h1 with h2 | h2
      ·
        exact (Fr.rf (S := S0)).tr (ih _ _ h2)
      ·
        obtain ⟨S3, e3, h4⟩ := Option.bind_eq_some_iff.mp h2
        have f5 : Fr v1 v2 S0 S3 := (Fr.rf (S := S0)).tr (fr_sI e3 (fun k => by refine s1 _ _ ?_; unfold w1_lp_X7_put_3; exact Or.inr ((rfl))))
        obtain ⟨S6, e6, h7⟩ := Option.bind_eq_some_iff.mp h4
        have f8 : Fr v1 v2 S0 S6 := f5.tr (fr_pI e6 (by refine s1 _ _ ?_; unfold w1_lp_X7_put_3; exact Or.inl (⟨rfl, rfl⟩)))
        exact f8.tr (ih _ _ h7)
def w1_f_X7_put (a k : Nat) : Prop := (a = 1 ∧ k = 1) ∨ a = 2
def w2_f_X7_put (a k : Nat) : Prop := False
theorem fr_f_X7_put {v1 : Int32} {S : fS} {r : fS} (h : f_X7_put v1 S = some r) : Fr (w1_f_X7_put) (w2_f_X7_put) S r := by
  unfold f_X7_put at h
  refine (Fr.rf (S := S)).tr (fr_lp_X7_put_3 (v1 := w1_f_X7_put) (v2 := w2_f_X7_put) (fun a k q => by unfold w1_lp_X7_put_3 at q; unfold w1_f_X7_put; rcases q with q | q; exact Or.inl (q); exact Or.inr ((q))) (fun _ _ q => False.elim q) (fun S9 h1 => ?_) _ _ _ h)
  exact fr_e1 h1 (Fr.rf (S := S9))
def w1_f_X10_feed (a k : Nat) : Prop := (a = 1 ∧ k = 1) ∨ a = 2
def w2_f_X10_feed (a k : Nat) : Prop := False
theorem fr_f_X10_feed {v1 : Int32} {v2 : Int32} {v3 : Int32} {v4 : Int32} {v5 : Int32} {S : fS} {r : Int32 × fS} (h : f_X10_feed v1 v2 v3 v4 v5 S = some r) : Fr (w1_f_X10_feed) (w2_f_X10_feed) S r.2 := by
  unfold f_X10_feed at h
  rcases fr_ite h with h1 | h1
  ·
    obtain ⟨q2, e2, h3⟩ := Option.bind_eq_some_iff.mp h1
    have f4 : Fr (w1_f_X10_feed) (w2_f_X10_feed) S q2 := (Fr.rf (S := S)).tr (Fr.mo (fr_f_X7_put e2) (fun a k q => by unfold w1_f_X7_put at q; unfold w1_f_X10_feed; rcases q with q | q; exact Or.inl (q); exact Or.inr ((q))) (fun _ _ q => False.elim q))
    obtain ⟨q5, e5, h6⟩ := Option.bind_eq_some_iff.mp h3
    have f7 : Fr (w1_f_X10_feed) (w2_f_X10_feed) S q5 := f4.tr (Fr.mo (fr_f_X7_put e5) (fun a k q => by unfold w1_f_X7_put at q; unfold w1_f_X10_feed; rcases q with q | q; exact Or.inl (q); exact Or.inr ((q))) (fun _ _ q => False.elim q))
    obtain ⟨q8, e8, h9⟩ := Option.bind_eq_some_iff.mp h6
    have f10 : Fr (w1_f_X10_feed) (w2_f_X10_feed) S q8 := f7.tr (Fr.mo (fr_f_X7_put e8) (fun a k q => by unfold w1_f_X7_put at q; unfold w1_f_X10_feed; rcases q with q | q; exact Or.inl (q); exact Or.inr ((q))) (fun _ _ q => False.elim q))
    obtain ⟨q11, e11, h12⟩ := Option.bind_eq_some_iff.mp h9
    have f13 : Fr (w1_f_X10_feed) (w2_f_X10_feed) S q11 := f10.tr (Fr.mo (fr_f_X7_put e11) (fun a k q => by unfold w1_f_X7_put at q; unfold w1_f_X10_feed; rcases q with q | q; exact Or.inl (q); exact Or.inr ((q))) (fun _ _ q => False.elim q))
    obtain ⟨q14, e14, h15⟩ := Option.bind_eq_some_iff.mp h12
    have f16 : Fr (w1_f_X10_feed) (w2_f_X10_feed) S q14 := f13.tr (Fr.mo (fr_f_X7_put e14) (fun a k q => by unfold w1_f_X7_put at q; unfold w1_f_X10_feed; rcases q with q | q; exact Or.inl (q); exact Or.inr ((q))) (fun _ _ q => False.elim q))
    exact fr_e2 h15 f16
  ·
    exact fr_e2 h1 (Fr.rf (S := S))
def w1_f_X10_end (a k : Nat) : Prop := (a = 1 ∧ k = 1)
def w2_f_X10_end (a k : Nat) : Prop := False
theorem fr_f_X10_end {v1 : Int32} {S : fS} {r : Int32 × fS} (h : f_X10_end v1 S = some r) : Fr (w1_f_X10_end) (w2_f_X10_end) S r.2 := by
  unfold f_X10_end at h
  obtain ⟨q1, e1, h2⟩ := Option.bind_eq_some_iff.mp h
  rcases fr_ite h2 with h3 | h3
  ·
    exact fr_e2 h3 (Fr.rf (S := S))
  ·
    obtain ⟨S5, e4, h5⟩ := Option.bind_eq_some_iff.mp h3
    have f6 : Fr (w1_f_X10_end) (w2_f_X10_end) S S5 := (Fr.rf (S := S)).tr (fr_pI e4 (by unfold w1_f_X10_end; exact ⟨rfl, rfl⟩))
    exact fr_e2 h5 f6
def w1_f_X7_rewind (a k : Nat) : Prop := (a = 1 ∧ k = 2) ∨ (a = 1 ∧ k = 3) ∨ (a = 1 ∧ k = 4)
def w2_f_X7_rewind (a k : Nat) : Prop := False
theorem fr_f_X7_rewind {S : fS} {r : fS} (h : f_X7_rewind S = some r) : Fr (w1_f_X7_rewind) (w2_f_X7_rewind) S r := by
  unfold f_X7_rewind at h
  obtain ⟨S1, e1, h2⟩ := Option.bind_eq_some_iff.mp h
  have f3 : Fr (w1_f_X7_rewind) (w2_f_X7_rewind) S S1 := (Fr.rf (S := S)).tr (fr_pI e1 (by unfold w1_f_X7_rewind; exact Or.inl (⟨rfl, rfl⟩)))
  obtain ⟨S4, e4, h5⟩ := Option.bind_eq_some_iff.mp h2
  have f6 : Fr (w1_f_X7_rewind) (w2_f_X7_rewind) S S4 := f3.tr (fr_pI e4 (by unfold w1_f_X7_rewind; exact Or.inr (Or.inl (⟨rfl, rfl⟩))))
  obtain ⟨S7, e7, h8⟩ := Option.bind_eq_some_iff.mp h5
  have f9 : Fr (w1_f_X7_rewind) (w2_f_X7_rewind) S S7 := f6.tr (fr_pI e7 (by unfold w1_f_X7_rewind; exact Or.inr (Or.inr ((⟨rfl, rfl⟩)))))
  exact fr_e1 h8 f9
def w1_lp_X7_skipBlanks_0 (a k : Nat) : Prop := (a = 1 ∧ k = 2)
def w2_lp_X7_skipBlanks_0 (a k : Nat) : Prop := False
theorem fr_lp_X7_skipBlanks_0 {K : fS → Option (fS)} {r : fS} {v1 v2 : Nat → Nat → Prop} (s1 : ∀ a k, w1_lp_X7_skipBlanks_0 a k → v1 a k) (s2 : ∀ a k, w2_lp_X7_skipBlanks_0 a k → v2 a k) (hK : ∀ (x0 : fS), K x0 = some r → Fr v1 v2 x0 r) : ∀ (n : Nat) (S0 : fS), lp_X7_skipBlanks_0 K n S0 = some r → Fr v1 v2 S0 r := by
  intro n
  induction n with
  | zero => intro S0 h; exact mm_no h
  | succ n ih =>
    intro S0 h
    rw [lp_X7_skipBlanks_0.eq_2] at h
    rcases fr_ite h with h1 | h1
    ·
      exact (Fr.rf (S := S0)).tr (hK _ h1)
    ·
      rcases fr_ite h1 with h2 | h2
      ·
        exact (Fr.rf (S := S0)).tr (hK _ h2)
      ·
        obtain ⟨a3, e3, h4⟩ := Option.bind_eq_some_iff.mp h2
        rcases fr_ite h4 with h5 | h5
        ·
          obtain ⟨S7, e6, h7⟩ := Option.bind_eq_some_iff.mp h5
          have f8 : Fr v1 v2 S0 S7 := (Fr.rf (S := S0)).tr (fr_pI e6 (by refine s1 _ _ ?_; unfold w1_lp_X7_skipBlanks_0; exact ⟨rfl, rfl⟩))
          exact f8.tr (ih _ h7)
        ·
          exact (Fr.rf (S := S0)).tr (hK _ h5)
def w1_f_X7_skipBlanks (a k : Nat) : Prop := (a = 1 ∧ k = 2)
def w2_f_X7_skipBlanks (a k : Nat) : Prop := False
theorem fr_f_X7_skipBlanks {S : fS} {r : fS} (h : f_X7_skipBlanks S = some r) : Fr (w1_f_X7_skipBlanks) (w2_f_X7_skipBlanks) S r := by
  unfold f_X7_skipBlanks at h
  refine (Fr.rf (S := S)).tr (fr_lp_X7_skipBlanks_0 (v1 := w1_f_X7_skipBlanks) (v2 := w2_f_X7_skipBlanks) (fun a k q => by unfold w1_lp_X7_skipBlanks_0 at q; unfold w1_f_X7_skipBlanks; exact q) (fun _ _ q => False.elim q) (fun S10 h1 => ?_) _ _ h)
  exact fr_e1 h1 (Fr.rf (S := S10))
def w1_lp_X7_takeWord_11 (p1 : Nat) (a k : Nat) : Prop := False
def w2_lp_X7_takeWord_11 (p1 : Nat) (a k : Nat) : Prop := False
theorem fr_lp_X7_takeWord_11 {p1 : Nat} {p2 : Int32} {K : fS → Option (Int32 × fS)} {r : Int32 × fS} {v1 v2 : Nat → Nat → Prop} (s1 : ∀ a k, w1_lp_X7_takeWord_11 p1 a k → v1 a k) (s2 : ∀ a k, w2_lp_X7_takeWord_11 p1 a k → v2 a k) (hK : ∀ (x0 : fS), K x0 = some r → Fr v1 v2 x0 r.2) : ∀ (n : Nat) (p3 : Int32) (S0 : fS), lp_X7_takeWord_11 p1 p2 K n p3 S0 = some r → Fr v1 v2 S0 r.2 := by
  intro n
  induction n with
  | zero => intro p3 S0 h; exact mm_no h
  | succ n ih =>
    intro p3 S0 h
    rw [lp_X7_takeWord_11.eq_2] at h
    rcases fr_ite h with h1 | h1
    ·
      exact (Fr.rf (S := S0)).tr (hK _ h1)
    ·
      obtain ⟨q8, e2, h3⟩ := Option.bind_eq_some_iff.mp h1
      obtain ⟨q11, e4, h5⟩ := Option.bind_eq_some_iff.mp h3
      rcases fr_ite h5 with h6 | h6
      ·
        exact (Fr.rf (S := S0)).tr (ih _ _ h6)
      ·
        exact fr_e2 h6 (Fr.rf (S := S0))
def w1_f_X7_takeWord (v1 : Nat) (a k : Nat) : Prop := (a = 1 ∧ k = 2) ∨ (a = 1 ∧ k = 3)
def w2_f_X7_takeWord (v1 : Nat) (a k : Nat) : Prop := False
theorem fr_f_X7_takeWord {v1 : Nat} {S : fS} {r : Int32 × fS} (h : f_X7_takeWord v1 S = some r) : Fr (w1_f_X7_takeWord v1) (w2_f_X7_takeWord v1) S r.2 := by
  unfold f_X7_takeWord at h
  obtain ⟨q1, e1, h2⟩ := Option.bind_eq_some_iff.mp h
  have f3 : Fr (w1_f_X7_takeWord v1) (w2_f_X7_takeWord v1) S q1 := (Fr.rf (S := S)).tr (Fr.mo (fr_f_X7_skipBlanks e1) (fun a k q => by unfold w1_f_X7_skipBlanks at q; unfold w1_f_X7_takeWord; exact Or.inl (q)) (fun _ _ q => False.elim q))
  obtain ⟨q4, e4, h5⟩ := Option.bind_eq_some_iff.mp h2
  refine f3.tr (fr_lp_X7_takeWord_11 (v1 := w1_f_X7_takeWord v1) (v2 := w2_f_X7_takeWord v1) (fun _ _ q => False.elim q) (fun _ _ q => False.elim q) (fun S15 h6 => ?_) _ _ _ h5)
  obtain ⟨q17, e7, h8⟩ := Option.bind_eq_some_iff.mp h6
  rcases fr_ite h8 with h9 | h9
  ·
    obtain ⟨S21, e10, h11⟩ := Option.bind_eq_some_iff.mp h9
    have f12 : Fr (w1_f_X7_takeWord v1) (w2_f_X7_takeWord v1) S15 S21 := (Fr.rf (S := S15)).tr (fr_pI e10 (by unfold w1_f_X7_takeWord; exact Or.inr ((⟨rfl, rfl⟩))))
    obtain ⟨S24, e13, h14⟩ := Option.bind_eq_some_iff.mp h11
    have f15 : Fr (w1_f_X7_takeWord v1) (w2_f_X7_takeWord v1) S15 S24 := f12.tr (fr_pI e13 (by unfold w1_f_X7_takeWord; exact Or.inl (⟨rfl, rfl⟩)))
    exact fr_e2 h14 f15
  ·
    rcases fr_ite h9 with h16 | h16
    ·
      obtain ⟨S28, e17, h18⟩ := Option.bind_eq_some_iff.mp h16
      have f19 : Fr (w1_f_X7_takeWord v1) (w2_f_X7_takeWord v1) S15 S28 := (Fr.rf (S := S15)).tr (fr_pI e17 (by unfold w1_f_X7_takeWord; exact Or.inr ((⟨rfl, rfl⟩))))
      obtain ⟨S31, e20, h21⟩ := Option.bind_eq_some_iff.mp h18
      have f22 : Fr (w1_f_X7_takeWord v1) (w2_f_X7_takeWord v1) S15 S31 := f19.tr (fr_pI e20 (by unfold w1_f_X7_takeWord; exact Or.inl (⟨rfl, rfl⟩)))
      exact fr_e2 h21 f22
    ·
      exact fr_e2 h16 (Fr.rf (S := S15))
def w1_f_X7_fail (a k : Nat) : Prop := (a = 1 ∧ k = 4)
def w2_f_X7_fail (a k : Nat) : Prop := False
theorem fr_f_X7_fail {v1 : Int32} {v2 : Int32} {S : fS} {r : Int32 × fS} (h : f_X7_fail v1 v2 S = some r) : Fr (w1_f_X7_fail) (w2_f_X7_fail) S r.2 := by
  unfold f_X7_fail at h
  obtain ⟨S1, e1, h2⟩ := Option.bind_eq_some_iff.mp h
  have f3 : Fr (w1_f_X7_fail) (w2_f_X7_fail) S S1 := (Fr.rf (S := S)).tr (fr_pI e1 (by unfold w1_f_X7_fail; exact ⟨rfl, rfl⟩))
  exact fr_e2 h2 f3
def w1_lp_X7_takeNumber_14 (a k : Nat) : Prop := (a = 1 ∧ k = 2)
def w2_lp_X7_takeNumber_14 (a k : Nat) : Prop := False
theorem fr_lp_X7_takeNumber_14 {p1 : Int32} {p2 : Int32} {K : Int32 → fS → Option (Int32 × fS)} {r : Int32 × fS} {v1 v2 : Nat → Nat → Prop} (s1 : ∀ a k, w1_lp_X7_takeNumber_14 a k → v1 a k) (s2 : ∀ a k, w2_lp_X7_takeNumber_14 a k → v2 a k) (hK : ∀ (x0 : Int32) (x1 : fS), K x0 x1 = some r → Fr v1 v2 x1 r.2) : ∀ (n : Nat) (p3 : Int32) (S0 : fS), lp_X7_takeNumber_14 p1 p2 K n p3 S0 = some r → Fr v1 v2 S0 r.2 := by
  intro n
  induction n with
  | zero => intro p3 S0 h; exact mm_no h
  | succ n ih =>
    intro p3 S0 h
    rw [lp_X7_takeNumber_14.eq_2] at h
    rcases fr_ite h with h1 | h1
    ·
      exact (Fr.rf (S := S0)).tr (hK _ _ h1)
    ·
      obtain ⟨q8, e2, h3⟩ := Option.bind_eq_some_iff.mp h1
      rcases fr_ite h3 with h4 | h4
      ·
        exact (Fr.rf (S := S0)).tr (hK _ _ h4)
      ·
        rcases fr_ite h4 with h5 | h5
        ·
          obtain ⟨S13, e6, h7⟩ := Option.bind_eq_some_iff.mp h5
          have f8 : Fr v1 v2 S0 S13 := (Fr.rf (S := S0)).tr (fr_pI e6 (by refine s1 _ _ ?_; unfold w1_lp_X7_takeNumber_14; exact ⟨rfl, rfl⟩))
          exact f8.tr (ih _ _ h7)
        ·
          obtain ⟨q16, e9, h10⟩ := Option.bind_eq_some_iff.mp h5
          obtain ⟨S19, e11, h12⟩ := Option.bind_eq_some_iff.mp h10
          have f13 : Fr v1 v2 S0 S19 := (Fr.rf (S := S0)).tr (fr_pI e11 (by refine s1 _ _ ?_; unfold w1_lp_X7_takeNumber_14; exact ⟨rfl, rfl⟩))
          exact f13.tr (ih _ _ h12)
def w1_f_X7_takeNumber (a k : Nat) : Prop := (a = 1 ∧ k = 2) ∨ (a = 1 ∧ k = 3) ∨ (a = 1 ∧ k = 4)
def w2_f_X7_takeNumber (a k : Nat) : Prop := False
theorem fr_f_X7_takeNumber {v1 : Int32} {v2 : Int32} {S : fS} {r : Int32 × fS} (h : f_X7_takeNumber v1 v2 S = some r) : Fr (w1_f_X7_takeNumber) (w2_f_X7_takeNumber) S r.2 := by
  unfold f_X7_takeNumber at h
  obtain ⟨q1, e1, h2⟩ := Option.bind_eq_some_iff.mp h
  have f3 : Fr (w1_f_X7_takeNumber) (w2_f_X7_takeNumber) S q1 := (Fr.rf (S := S)).tr (Fr.mo (fr_f_X7_skipBlanks e1) (fun a k q => by unfold w1_f_X7_skipBlanks at q; unfold w1_f_X7_takeNumber; exact Or.inl (q)) (fun _ _ q => False.elim q))
  obtain ⟨S4, e4, h5⟩ := Option.bind_eq_some_iff.mp h2
  have f6 : Fr (w1_f_X7_takeNumber) (w2_f_X7_takeNumber) S S4 := f3.tr (fr_pI e4 (by unfold w1_f_X7_takeNumber; exact Or.inr (Or.inl (⟨rfl, rfl⟩))))
  refine f6.tr (fr_lp_X7_takeNumber_14 (v1 := w1_f_X7_takeNumber) (v2 := w2_f_X7_takeNumber) (fun a k q => by unfold w1_lp_X7_takeNumber_14 at q; unfold w1_f_X7_takeNumber; exact Or.inl (q)) (fun _ _ q => False.elim q) (fun u22 S23 h7 => ?_) _ _ _ h5)
  rcases fr_ite h7 with h8 | h8
  ·
    obtain ⟨q37, e9, h10⟩ := Option.bind_eq_some_iff.mp h8
    have f11 : Fr (w1_f_X7_takeNumber) (w2_f_X7_takeNumber) S23 q37.2 := (Fr.rf (S := S23)).tr (Fr.mo (fr_f_X7_fail e9) (fun a k q => by unfold w1_f_X7_fail at q; unfold w1_f_X7_takeNumber; exact Or.inr (Or.inr ((q)))) (fun _ _ q => False.elim q))
    exact fr_e2 h10 f11
  ·
    rcases fr_ite h8 with h12 | h12
    ·
      obtain ⟨q27, e13, h14⟩ := Option.bind_eq_some_iff.mp h12
      have f15 : Fr (w1_f_X7_takeNumber) (w2_f_X7_takeNumber) S23 q27.2 := (Fr.rf (S := S23)).tr (Fr.mo (fr_f_X7_fail e13) (fun a k q => by unfold w1_f_X7_fail at q; unfold w1_f_X7_takeNumber; exact Or.inr (Or.inr ((q)))) (fun _ _ q => False.elim q))
      exact fr_e2 h14 f15
    ·
      obtain ⟨q30, e16, h17⟩ := Option.bind_eq_some_iff.mp h12
      rcases fr_ite h17 with h18 | h18
      ·
        obtain ⟨q34, e19, h20⟩ := Option.bind_eq_some_iff.mp h18
        have f21 : Fr (w1_f_X7_takeNumber) (w2_f_X7_takeNumber) S23 q34.2 := (Fr.rf (S := S23)).tr (Fr.mo (fr_f_X7_fail e19) (fun a k q => by unfold w1_f_X7_fail at q; unfold w1_f_X7_takeNumber; exact Or.inr (Or.inr ((q)))) (fun _ _ q => False.elim q))
        exact fr_e2 h20 f21
      ·
        exact fr_e2 h18 (Fr.rf (S := S23))
def w1_f_X9_readPace (a k : Nat) : Prop := (a = 1 ∧ k = 2) ∨ (a = 1 ∧ k = 3) ∨ (a = 1 ∧ k = 4)
def w2_f_X9_readPace (a k : Nat) : Prop := False
theorem fr_f_X9_readPace {S : fS} {r : Int64 × fS} (h : f_X9_readPace S = some r) : Fr (w1_f_X9_readPace) (w2_f_X9_readPace) S r.2 := by
  unfold f_X9_readPace at h
  obtain ⟨q1, e1, h2⟩ := Option.bind_eq_some_iff.mp h
  have f3 : Fr (w1_f_X9_readPace) (w2_f_X9_readPace) S q1.2 := (Fr.rf (S := S)).tr (Fr.mo (fr_f_X7_takeNumber e1) (fun a k q => by unfold w1_f_X7_takeNumber at q; unfold w1_f_X9_readPace; rcases q with q | q | q; exact Or.inl (q); exact Or.inr (Or.inl (q)); exact Or.inr (Or.inr ((q)))) (fun _ _ q => False.elim q))
  rcases fr_ite h2 with h4 | h4
  ·
    obtain ⟨q5, e5, h6⟩ := Option.bind_eq_some_iff.mp h4
    have f7 : Fr (w1_f_X9_readPace) (w2_f_X9_readPace) S q5.2 := f3.tr (Fr.mo (fr_f_X7_takeNumber e5) (fun a k q => by unfold w1_f_X7_takeNumber at q; unfold w1_f_X9_readPace; rcases q with q | q | q; exact Or.inl (q); exact Or.inr (Or.inl (q)); exact Or.inr (Or.inr ((q)))) (fun _ _ q => False.elim q))
    rcases fr_ite h6 with h8 | h8
    ·
      obtain ⟨a9, e9, h10⟩ := Option.bind_eq_some_iff.mp h8
      exact fr_e2 h10 f7
    ·
      exact fr_e2 h8 f7
  ·
    exact fr_e2 h4 f3
def w1_f_X9_readFloor (a k : Nat) : Prop := (a = 1 ∧ k = 2) ∨ (a = 1 ∧ k = 3) ∨ (a = 1 ∧ k = 4) ∨ (a = 24 ∧ k = 6)
def w2_f_X9_readFloor (a k : Nat) : Prop := a = 25
theorem fr_f_X9_readFloor {S : fS} {r : Int32 × fS} (h : f_X9_readFloor S = some r) : Fr (w1_f_X9_readFloor) (w2_f_X9_readFloor) S r.2 := by
  unfold f_X9_readFloor at h
  obtain ⟨q1, e1, h2⟩ := Option.bind_eq_some_iff.mp h
  have f3 : Fr (w1_f_X9_readFloor) (w2_f_X9_readFloor) S q1.2 := (Fr.rf (S := S)).tr (Fr.mo (fr_f_X9_readPace e1) (fun a k q => by unfold w1_f_X9_readPace at q; unfold w1_f_X9_readFloor; rcases q with q | q | q; exact Or.inl (q); exact Or.inr (Or.inl (q)); exact Or.inr (Or.inr (Or.inl (q)))) (fun _ _ q => False.elim q))
  rcases fr_ite h2 with h4 | h4
  ·
    obtain ⟨S5, e5, h6⟩ := Option.bind_eq_some_iff.mp h4
    have f7 : Fr (w1_f_X9_readFloor) (w2_f_X9_readFloor) S S5 := f3.tr (fr_sL e5 (fun k => by unfold w2_f_X9_readFloor; exact rfl))
    obtain ⟨S8, e8, h9⟩ := Option.bind_eq_some_iff.mp h6
    have f10 : Fr (w1_f_X9_readFloor) (w2_f_X9_readFloor) S S8 := f7.tr (fr_pI e8 (by unfold w1_f_X9_readFloor; exact Or.inr (Or.inr (Or.inr ((⟨rfl, rfl⟩))))))
    exact fr_e2 h9 f10
  ·
    exact fr_e2 h4 f3
def w1_f_X8_addStair (v0 : Nat) (a k : Nat) : Prop := (a = v0 ∧ k = 7) ∨ a = v0 + 2 ∨ a = v0 + 3 ∨ a = v0 + 4
def w2_f_X8_addStair (v0 : Nat) (a k : Nat) : Prop := a = v0 + 5
theorem fr_f_X8_addStair {v0 : Nat} {v1 : Int32} {v2 : Int32} {v3 : Int32} {v4 : Int64} {S : fS} {r : fS} (h : f_X8_addStair v0 v1 v2 v3 v4 S = some r) : Fr (w1_f_X8_addStair v0) (w2_f_X8_addStair v0) S r := by
  unfold f_X8_addStair at h
  rcases fr_ite h with h1 | h1
  ·
    exact fr_e1 h1 (Fr.rf (S := S))
  ·
    obtain ⟨S2, e2, h3⟩ := Option.bind_eq_some_iff.mp h1
    have f4 : Fr (w1_f_X8_addStair v0) (w2_f_X8_addStair v0) S S2 := (Fr.rf (S := S)).tr (fr_sI e2 (fun k => by unfold w1_f_X8_addStair; exact Or.inr (Or.inl (rfl))))
    obtain ⟨S5, e5, h6⟩ := Option.bind_eq_some_iff.mp h3
    have f7 : Fr (w1_f_X8_addStair v0) (w2_f_X8_addStair v0) S S5 := f4.tr (fr_sI e5 (fun k => by unfold w1_f_X8_addStair; exact Or.inr (Or.inr (Or.inl (rfl)))))
    obtain ⟨S8, e8, h9⟩ := Option.bind_eq_some_iff.mp h6
    have f10 : Fr (w1_f_X8_addStair v0) (w2_f_X8_addStair v0) S S8 := f7.tr (fr_sI e8 (fun k => by unfold w1_f_X8_addStair; exact Or.inr (Or.inr (Or.inr ((rfl))))))
    obtain ⟨S11, e11, h12⟩ := Option.bind_eq_some_iff.mp h9
    have f13 : Fr (w1_f_X8_addStair v0) (w2_f_X8_addStair v0) S S11 := f10.tr (fr_sL e11 (fun k => by unfold w2_f_X8_addStair; exact rfl))
    obtain ⟨S14, e14, h15⟩ := Option.bind_eq_some_iff.mp h12
    have f16 : Fr (w1_f_X8_addStair v0) (w2_f_X8_addStair v0) S S14 := f13.tr (fr_pI e14 (by unfold w1_f_X8_addStair; exact Or.inl (⟨rfl, rfl⟩)))
    exact fr_e1 h15 f16
def w1_f_X9_readStair (a k : Nat) : Prop := (a = 1 ∧ k = 2) ∨ (a = 1 ∧ k = 3) ∨ (a = 1 ∧ k = 4) ∨ (a = 24 ∧ k = 7) ∨ a = 26 ∨ a = 27 ∨ a = 28
def w2_f_X9_readStair (a k : Nat) : Prop := a = 29
theorem fr_f_X9_readStair {S : fS} {r : Int32 × fS} (h : f_X9_readStair S = some r) : Fr (w1_f_X9_readStair) (w2_f_X9_readStair) S r.2 := by
  unfold f_X9_readStair at h
  obtain ⟨q1, e1, h2⟩ := Option.bind_eq_some_iff.mp h
  have f3 : Fr (w1_f_X9_readStair) (w2_f_X9_readStair) S q1.2 := (Fr.rf (S := S)).tr (Fr.mo (fr_f_X7_takeNumber e1) (fun a k q => by unfold w1_f_X7_takeNumber at q; unfold w1_f_X9_readStair; rcases q with q | q | q; exact Or.inl (q); exact Or.inr (Or.inl (q)); exact Or.inr (Or.inr (Or.inl (q)))) (fun _ _ q => False.elim q))
  rcases fr_ite h2 with h4 | h4
  ·
    obtain ⟨q5, e5, h6⟩ := Option.bind_eq_some_iff.mp h4
    have f7 : Fr (w1_f_X9_readStair) (w2_f_X9_readStair) S q5.2 := f3.tr (Fr.mo (fr_f_X7_takeNumber e5) (fun a k q => by unfold w1_f_X7_takeNumber at q; unfold w1_f_X9_readStair; rcases q with q | q | q; exact Or.inl (q); exact Or.inr (Or.inl (q)); exact Or.inr (Or.inr (Or.inl (q)))) (fun _ _ q => False.elim q))
    rcases fr_ite h6 with h8 | h8
    ·
      rcases fr_ite h8 with h9 | h9
      ·
        obtain ⟨q21, e10, h11⟩ := Option.bind_eq_some_iff.mp h9
        have f12 : Fr (w1_f_X9_readStair) (w2_f_X9_readStair) S q21.2 := f7.tr (Fr.mo (fr_f_X7_fail e10) (fun a k q => by unfold w1_f_X7_fail at q; unfold w1_f_X9_readStair; exact Or.inr (Or.inr (Or.inl (q)))) (fun _ _ q => False.elim q))
        obtain ⟨z24, e13, h14⟩ := Option.bind_eq_some_iff.mp h11
        exact fr_e2 h14 f12
      ·
        obtain ⟨q10, e15, h16⟩ := Option.bind_eq_some_iff.mp h9
        have f17 : Fr (w1_f_X9_readStair) (w2_f_X9_readStair) S q10.2 := f7.tr (Fr.mo (fr_f_X7_takeNumber e15) (fun a k q => by unfold w1_f_X7_takeNumber at q; unfold w1_f_X9_readStair; rcases q with q | q | q; exact Or.inl (q); exact Or.inr (Or.inl (q)); exact Or.inr (Or.inr (Or.inl (q)))) (fun _ _ q => False.elim q))
        rcases fr_ite h16 with h18 | h18
        ·
          obtain ⟨q14, e19, h20⟩ := Option.bind_eq_some_iff.mp h18
          have f21 : Fr (w1_f_X9_readStair) (w2_f_X9_readStair) S q14.2 := f17.tr (Fr.mo (fr_f_X9_readPace e19) (fun a k q => by unfold w1_f_X9_readPace at q; unfold w1_f_X9_readStair; rcases q with q | q | q; exact Or.inl (q); exact Or.inr (Or.inl (q)); exact Or.inr (Or.inr (Or.inl (q)))) (fun _ _ q => False.elim q))
          rcases fr_ite h20 with h22 | h22
          ·
            obtain ⟨q18, e23, h24⟩ := Option.bind_eq_some_iff.mp h22
            have f25 : Fr (w1_f_X9_readStair) (w2_f_X9_readStair) S q18 := f21.tr (Fr.mo (fr_f_X8_addStair e23) (fun a k q => by unfold w1_f_X8_addStair at q; unfold w1_f_X9_readStair; rcases q with q | q | q | q; exact Or.inr (Or.inr (Or.inr (Or.inl (q)))); exact Or.inr (Or.inr (Or.inr (Or.inr (Or.inl (q))))); exact Or.inr (Or.inr (Or.inr (Or.inr (Or.inr (Or.inl (q)))))); exact Or.inr (Or.inr (Or.inr (Or.inr (Or.inr (Or.inr ((q)))))))) (fun a k q => by unfold w2_f_X8_addStair at q; unfold w2_f_X9_readStair; exact q))
            exact fr_e2 h24 f25
          ·
            exact fr_e2 h22 f21
        ·
          exact fr_e2 h18 f17
    ·
      exact fr_e2 h8 f7
  ·
    exact fr_e2 h4 f3
def w1_f_X0_putOn (v0 : Nat) (a k : Nat) : Prop := a = v0 + 1 ∨ a = v0 + 2 ∨ a = v0 + 3 ∨ a = v0 + 4
def w2_f_X0_putOn (v0 : Nat) (a k : Nat) : Prop := False
theorem fr_f_X0_putOn {v0 : Nat} {v1 : Int32} {v2 : Int32} {S : fS} {r : fS} (h : f_X0_putOn v0 v1 v2 S = some r) : Fr (w1_f_X0_putOn v0) (w2_f_X0_putOn v0) S r := by
  unfold f_X0_putOn at h
  obtain ⟨S1, e1, h2⟩ := Option.bind_eq_some_iff.mp h
  have f3 : Fr (w1_f_X0_putOn v0) (w2_f_X0_putOn v0) S S1 := (Fr.rf (S := S)).tr (fr_sI e1 (fun k => by unfold w1_f_X0_putOn; exact Or.inl (rfl)))
  obtain ⟨S4, e4, h5⟩ := Option.bind_eq_some_iff.mp h2
  have f6 : Fr (w1_f_X0_putOn v0) (w2_f_X0_putOn v0) S S4 := f3.tr (fr_sI e4 (fun k => by unfold w1_f_X0_putOn; exact Or.inr (Or.inl (rfl))))
  obtain ⟨S7, e7, h8⟩ := Option.bind_eq_some_iff.mp h5
  have f9 : Fr (w1_f_X0_putOn v0) (w2_f_X0_putOn v0) S S7 := f6.tr (fr_sI e7 (fun k => by unfold w1_f_X0_putOn; exact Or.inr (Or.inr (Or.inl (rfl)))))
  obtain ⟨S10, e10, h11⟩ := Option.bind_eq_some_iff.mp h8
  have f12 : Fr (w1_f_X0_putOn v0) (w2_f_X0_putOn v0) S S10 := f9.tr (fr_sI e10 (fun k => by unfold w1_f_X0_putOn; exact Or.inr (Or.inr (Or.inr ((rfl))))))
  exact fr_e1 h11 f12
def w1_f_X0_addThing (v0 : Nat) (a k : Nat) : Prop := (a = v0 ∧ k = 5) ∨ a = v0 + 1 ∨ a = v0 + 2 ∨ a = v0 + 3 ∨ a = v0 + 4
def w2_f_X0_addThing (v0 : Nat) (a k : Nat) : Prop := a = v0 + 5
theorem fr_f_X0_addThing {v0 : Nat} {v1 : Int32} {S : fS} {r : fS} (h : f_X0_addThing v0 v1 S = some r) : Fr (w1_f_X0_addThing v0) (w2_f_X0_addThing v0) S r := by
  unfold f_X0_addThing at h
  rcases fr_ite h with h1 | h1
  ·
    exact fr_e1 h1 (Fr.rf (S := S))
  ·
    obtain ⟨q2, e2, h3⟩ := Option.bind_eq_some_iff.mp h1
    have f4 : Fr (w1_f_X0_addThing v0) (w2_f_X0_addThing v0) S q2 := (Fr.rf (S := S)).tr (Fr.mo (fr_f_X0_putOn e2) (fun a k q => by unfold w1_f_X0_putOn at q; unfold w1_f_X0_addThing; rcases q with q | q | q | q; exact Or.inr (Or.inl (q)); exact Or.inr (Or.inr (Or.inl (q))); exact Or.inr (Or.inr (Or.inr (Or.inl (q)))); exact Or.inr (Or.inr (Or.inr (Or.inr ((q)))))) (fun _ _ q => False.elim q))
    obtain ⟨S5, e5, h6⟩ := Option.bind_eq_some_iff.mp h3
    have f7 : Fr (w1_f_X0_addThing v0) (w2_f_X0_addThing v0) S S5 := f4.tr (fr_sL e5 (fun k => by unfold w2_f_X0_addThing; exact rfl))
    obtain ⟨S8, e8, h9⟩ := Option.bind_eq_some_iff.mp h6
    have f10 : Fr (w1_f_X0_addThing v0) (w2_f_X0_addThing v0) S S8 := f7.tr (fr_pI e8 (by unfold w1_f_X0_addThing; exact Or.inl (⟨rfl, rfl⟩)))
    exact fr_e1 h9 f10
def w1_f_X9_readThing (a k : Nat) : Prop := (a = 1 ∧ k = 2) ∨ (a = 1 ∧ k = 3) ∨ (a = 1 ∧ k = 4) ∨ (a = 31 ∧ k = 5) ∨ a = 32 ∨ a = 33 ∨ a = 34 ∨ a = 35
def w2_f_X9_readThing (a k : Nat) : Prop := a = 36
theorem fr_f_X9_readThing {S : fS} {r : Int32 × fS} (h : f_X9_readThing S = some r) : Fr (w1_f_X9_readThing) (w2_f_X9_readThing) S r.2 := by
  unfold f_X9_readThing at h
  obtain ⟨q1, e1, h2⟩ := Option.bind_eq_some_iff.mp h
  have f3 : Fr (w1_f_X9_readThing) (w2_f_X9_readThing) S q1.2 := (Fr.rf (S := S)).tr (Fr.mo (fr_f_X7_takeNumber e1) (fun a k q => by unfold w1_f_X7_takeNumber at q; unfold w1_f_X9_readThing; rcases q with q | q | q; exact Or.inl (q); exact Or.inr (Or.inl (q)); exact Or.inr (Or.inr (Or.inl (q)))) (fun _ _ q => False.elim q))
  rcases fr_ite h2 with h4 | h4
  ·
    obtain ⟨q5, e5, h6⟩ := Option.bind_eq_some_iff.mp h4
    have f7 : Fr (w1_f_X9_readThing) (w2_f_X9_readThing) S q5 := f3.tr (Fr.mo (fr_f_X0_addThing e5) (fun a k q => by unfold w1_f_X0_addThing at q; unfold w1_f_X9_readThing; rcases q with q | q | q | q | q; exact Or.inr (Or.inr (Or.inr (Or.inl (q)))); exact Or.inr (Or.inr (Or.inr (Or.inr (Or.inl (q))))); exact Or.inr (Or.inr (Or.inr (Or.inr (Or.inr (Or.inl (q)))))); exact Or.inr (Or.inr (Or.inr (Or.inr (Or.inr (Or.inr (Or.inl (q))))))); exact Or.inr (Or.inr (Or.inr (Or.inr (Or.inr (Or.inr (Or.inr ((q))))))))) (fun a k q => by unfold w2_f_X0_addThing at q; unfold w2_f_X9_readThing; exact q))
    exact fr_e2 h6 f7
  ·
    exact fr_e2 h4 f3
def w1_j_X9_readClause_155 (a k : Nat) : Prop := (a = 1 ∧ k = 4)
def w2_j_X9_readClause_155 (a k : Nat) : Prop := False
theorem fr_j_X9_readClause_155 {S : fS} {r : Int32 × fS} (h : j_X9_readClause_155 S = some r) : Fr (w1_j_X9_readClause_155) (w2_j_X9_readClause_155) S r.2 := by
  unfold j_X9_readClause_155 at h
  obtain ⟨q11, e1, h2⟩ := Option.bind_eq_some_iff.mp h
  have f3 : Fr (w1_j_X9_readClause_155) (w2_j_X9_readClause_155) S q11.2 := (Fr.rf (S := S)).tr (Fr.mo (fr_f_X7_fail e1) (fun a k q => by unfold w1_f_X7_fail at q; unfold w1_j_X9_readClause_155; exact q) (fun _ _ q => False.elim q))
  obtain ⟨z14, e4, h5⟩ := Option.bind_eq_some_iff.mp h2
  exact fr_e2 h5 f3
def w1_j_X9_readClause_195 (a k : Nat) : Prop := False
def w2_j_X9_readClause_195 (a k : Nat) : Prop := False
theorem fr_j_X9_readClause_195 {s0 : Int32} {S : fS} {r : Int32 × fS} (h : j_X9_readClause_195 s0 S = some r) : Fr (w1_j_X9_readClause_195) (w2_j_X9_readClause_195) S r.2 := by
  unfold j_X9_readClause_195 at h
  obtain ⟨z25, e1, h2⟩ := Option.bind_eq_some_iff.mp h
  exact fr_e2 h2 (Fr.rf (S := S))
def w1_j_X9_readClause_142 (a k : Nat) : Prop := (a = 1 ∧ k = 2) ∨ (a = 1 ∧ k = 3) ∨ (a = 1 ∧ k = 4) ∨ (a = 24 ∧ k = 6) ∨ (a = 24 ∧ k = 7) ∨ a = 26 ∨ a = 27 ∨ a = 28 ∨ (a = 31 ∧ k = 5) ∨ a = 32 ∨ a = 33 ∨ a = 34 ∨ a = 35
def w2_j_X9_readClause_142 (a k : Nat) : Prop := a = 25 ∨ a = 29 ∨ a = 36
theorem fr_j_X9_readClause_142 {p1 : Int32} {p2 : Int32} {p3 : Int32} {s0 : Int32} {S : fS} {r : Int32 × fS} (h : j_X9_readClause_142 p1 p2 p3 s0 S = some r) : Fr (w1_j_X9_readClause_142) (w2_j_X9_readClause_142) S r.2 := by
  unfold j_X9_readClause_142 at h
  rcases fr_ite h with h1 | h1
  ·
    rcases fr_ite h1 with h2 | h2
    ·
      rcases fr_ite h2 with h3 | h3
      ·
        rcases fr_ite h3 with h4 | h4
        ·
          obtain ⟨q22, e5, h6⟩ := Option.bind_eq_some_iff.mp h4
          have f7 : Fr (w1_j_X9_readClause_142) (w2_j_X9_readClause_142) S q22.2 := (Fr.rf (S := S)).tr (Fr.mo (fr_f_X9_readThing e5) (fun a k q => by unfold w1_f_X9_readThing at q; unfold w1_j_X9_readClause_142; rcases q with q | q | q | q | q | q | q | q; exact Or.inl (q); exact Or.inr (Or.inl (q)); exact Or.inr (Or.inr (Or.inl (q))); exact Or.inr (Or.inr (Or.inr (Or.inr (Or.inr (Or.inr (Or.inr (Or.inr (Or.inl (q))))))))); exact Or.inr (Or.inr (Or.inr (Or.inr (Or.inr (Or.inr (Or.inr (Or.inr (Or.inr (Or.inl (q)))))))))); exact Or.inr (Or.inr (Or.inr (Or.inr (Or.inr (Or.inr (Or.inr (Or.inr (Or.inr (Or.inr (Or.inl (q))))))))))); exact Or.inr (Or.inr (Or.inr (Or.inr (Or.inr (Or.inr (Or.inr (Or.inr (Or.inr (Or.inr (Or.inr (Or.inl (q)))))))))))); exact Or.inr (Or.inr (Or.inr (Or.inr (Or.inr (Or.inr (Or.inr (Or.inr (Or.inr (Or.inr (Or.inr (Or.inr ((q)))))))))))))) (fun a k q => by unfold w2_f_X9_readThing at q; unfold w2_j_X9_readClause_142; exact Or.inr (Or.inr ((q)))))
          exact f7.tr (Fr.mo (fr_j_X9_readClause_195 h6) (fun _ _ q => False.elim q) (fun _ _ q => False.elim q))
        ·
          obtain ⟨q30, e8, h9⟩ := Option.bind_eq_some_iff.mp h4
          have f10 : Fr (w1_j_X9_readClause_142) (w2_j_X9_readClause_142) S q30.2 := (Fr.rf (S := S)).tr (Fr.mo (fr_f_X9_readStair e8) (fun a k q => by unfold w1_f_X9_readStair at q; unfold w1_j_X9_readClause_142; rcases q with q | q | q | q | q | q | q; exact Or.inl (q); exact Or.inr (Or.inl (q)); exact Or.inr (Or.inr (Or.inl (q))); exact Or.inr (Or.inr (Or.inr (Or.inr (Or.inl (q))))); exact Or.inr (Or.inr (Or.inr (Or.inr (Or.inr (Or.inl (q)))))); exact Or.inr (Or.inr (Or.inr (Or.inr (Or.inr (Or.inr (Or.inl (q))))))); exact Or.inr (Or.inr (Or.inr (Or.inr (Or.inr (Or.inr (Or.inr (Or.inl (q))))))))) (fun a k q => by unfold w2_f_X9_readStair at q; unfold w2_j_X9_readClause_142; exact Or.inr (Or.inl (q))))
          exact f10.tr (Fr.mo (fr_j_X9_readClause_195 h9) (fun _ _ q => False.elim q) (fun _ _ q => False.elim q))
      ·
        obtain ⟨q33, e11, h12⟩ := Option.bind_eq_some_iff.mp h3
        have f13 : Fr (w1_j_X9_readClause_142) (w2_j_X9_readClause_142) S q33.2 := (Fr.rf (S := S)).tr (Fr.mo (fr_f_X9_readFloor e11) (fun a k q => by unfold w1_f_X9_readFloor at q; unfold w1_j_X9_readClause_142; rcases q with q | q | q | q; exact Or.inl (q); exact Or.inr (Or.inl (q)); exact Or.inr (Or.inr (Or.inl (q))); exact Or.inr (Or.inr (Or.inr (Or.inl (q))))) (fun a k q => by unfold w2_f_X9_readFloor at q; unfold w2_j_X9_readClause_142; exact Or.inl (q)))
        obtain ⟨z36, e14, h15⟩ := Option.bind_eq_some_iff.mp h12
        exact fr_e2 h15 f13
    ·
      exact (Fr.rf (S := S)).tr (Fr.mo (fr_j_X9_readClause_155 h2) (fun a k q => by unfold w1_j_X9_readClause_155 at q; unfold w1_j_X9_readClause_142; exact Or.inr (Or.inr (Or.inl (q)))) (fun _ _ q => False.elim q))
  ·
    exact (Fr.rf (S := S)).tr (Fr.mo (fr_j_X9_readClause_155 h1) (fun a k q => by unfold w1_j_X9_readClause_155 at q; unfold w1_j_X9_readClause_142; exact Or.inr (Or.inr (Or.inl (q)))) (fun _ _ q => False.elim q))
def w1_j_X9_readClause_141 (a k : Nat) : Prop := (a = 1 ∧ k = 2) ∨ (a = 1 ∧ k = 3) ∨ (a = 1 ∧ k = 4) ∨ (a = 24 ∧ k = 6) ∨ (a = 24 ∧ k = 7) ∨ a = 26 ∨ a = 27 ∨ a = 28 ∨ (a = 31 ∧ k = 5) ∨ a = 32 ∨ a = 33 ∨ a = 34 ∨ a = 35
def w2_j_X9_readClause_141 (a k : Nat) : Prop := a = 25 ∨ a = 29 ∨ a = 36
theorem fr_j_X9_readClause_141 {p1 : Int32} {p2 : Int32} {p3 : Int32} {S : fS} {r : Int32 × fS} (h : j_X9_readClause_141 p1 p2 p3 S = some r) : Fr (w1_j_X9_readClause_141) (w2_j_X9_readClause_141) S r.2 := by
  unfold j_X9_readClause_141 at h
  exact (Fr.rf (S := S)).tr (Fr.mo (fr_j_X9_readClause_142 h) (fun a k q => by unfold w1_j_X9_readClause_142 at q; unfold w1_j_X9_readClause_141; rcases q with q | q | q | q | q | q | q | q | q | q | q | q | q; exact Or.inl (q); exact Or.inr (Or.inl (q)); exact Or.inr (Or.inr (Or.inl (q))); exact Or.inr (Or.inr (Or.inr (Or.inl (q)))); exact Or.inr (Or.inr (Or.inr (Or.inr (Or.inl (q))))); exact Or.inr (Or.inr (Or.inr (Or.inr (Or.inr (Or.inl (q)))))); exact Or.inr (Or.inr (Or.inr (Or.inr (Or.inr (Or.inr (Or.inl (q))))))); exact Or.inr (Or.inr (Or.inr (Or.inr (Or.inr (Or.inr (Or.inr (Or.inl (q)))))))); exact Or.inr (Or.inr (Or.inr (Or.inr (Or.inr (Or.inr (Or.inr (Or.inr (Or.inl (q))))))))); exact Or.inr (Or.inr (Or.inr (Or.inr (Or.inr (Or.inr (Or.inr (Or.inr (Or.inr (Or.inl (q)))))))))); exact Or.inr (Or.inr (Or.inr (Or.inr (Or.inr (Or.inr (Or.inr (Or.inr (Or.inr (Or.inr (Or.inl (q))))))))))); exact Or.inr (Or.inr (Or.inr (Or.inr (Or.inr (Or.inr (Or.inr (Or.inr (Or.inr (Or.inr (Or.inr (Or.inl (q)))))))))))); exact Or.inr (Or.inr (Or.inr (Or.inr (Or.inr (Or.inr (Or.inr (Or.inr (Or.inr (Or.inr (Or.inr (Or.inr ((q)))))))))))))) (fun a k q => by unfold w2_j_X9_readClause_142 at q; unfold w2_j_X9_readClause_141; rcases q with q | q | q; exact Or.inl (q); exact Or.inr (Or.inl (q)); exact Or.inr (Or.inr ((q)))))
def w1_j_X9_readClause_137 (a k : Nat) : Prop := (a = 1 ∧ k = 2) ∨ (a = 1 ∧ k = 3) ∨ (a = 1 ∧ k = 4) ∨ (a = 24 ∧ k = 6) ∨ (a = 24 ∧ k = 7) ∨ a = 26 ∨ a = 27 ∨ a = 28 ∨ (a = 31 ∧ k = 5) ∨ a = 32 ∨ a = 33 ∨ a = 34 ∨ a = 35
def w2_j_X9_readClause_137 (a k : Nat) : Prop := a = 25 ∨ a = 29 ∨ a = 36
theorem fr_j_X9_readClause_137 {p1 : Int32} {p2 : Int32} {p3 : Int32} {S : fS} {r : Int32 × fS} (h : j_X9_readClause_137 p1 p2 p3 S = some r) : Fr (w1_j_X9_readClause_137) (w2_j_X9_readClause_137) S r.2 := by
  unfold j_X9_readClause_137 at h
  exact (Fr.rf (S := S)).tr (Fr.mo (fr_j_X9_readClause_142 h) (fun a k q => by unfold w1_j_X9_readClause_142 at q; unfold w1_j_X9_readClause_137; rcases q with q | q | q | q | q | q | q | q | q | q | q | q | q; exact Or.inl (q); exact Or.inr (Or.inl (q)); exact Or.inr (Or.inr (Or.inl (q))); exact Or.inr (Or.inr (Or.inr (Or.inl (q)))); exact Or.inr (Or.inr (Or.inr (Or.inr (Or.inl (q))))); exact Or.inr (Or.inr (Or.inr (Or.inr (Or.inr (Or.inl (q)))))); exact Or.inr (Or.inr (Or.inr (Or.inr (Or.inr (Or.inr (Or.inl (q))))))); exact Or.inr (Or.inr (Or.inr (Or.inr (Or.inr (Or.inr (Or.inr (Or.inl (q)))))))); exact Or.inr (Or.inr (Or.inr (Or.inr (Or.inr (Or.inr (Or.inr (Or.inr (Or.inl (q))))))))); exact Or.inr (Or.inr (Or.inr (Or.inr (Or.inr (Or.inr (Or.inr (Or.inr (Or.inr (Or.inl (q)))))))))); exact Or.inr (Or.inr (Or.inr (Or.inr (Or.inr (Or.inr (Or.inr (Or.inr (Or.inr (Or.inr (Or.inl (q))))))))))); exact Or.inr (Or.inr (Or.inr (Or.inr (Or.inr (Or.inr (Or.inr (Or.inr (Or.inr (Or.inr (Or.inr (Or.inl (q)))))))))))); exact Or.inr (Or.inr (Or.inr (Or.inr (Or.inr (Or.inr (Or.inr (Or.inr (Or.inr (Or.inr (Or.inr (Or.inr ((q)))))))))))))) (fun a k q => by unfold w2_j_X9_readClause_142 at q; unfold w2_j_X9_readClause_137; rcases q with q | q | q; exact Or.inl (q); exact Or.inr (Or.inl (q)); exact Or.inr (Or.inr ((q)))))
def w1_j_X9_readClause_120 (a k : Nat) : Prop := (a = 1 ∧ k = 2) ∨ (a = 1 ∧ k = 3) ∨ (a = 1 ∧ k = 4) ∨ (a = 24 ∧ k = 6) ∨ (a = 24 ∧ k = 7) ∨ a = 26 ∨ a = 27 ∨ a = 28 ∨ (a = 31 ∧ k = 5) ∨ a = 32 ∨ a = 33 ∨ a = 34 ∨ a = 35
def w2_j_X9_readClause_120 (a k : Nat) : Prop := a = 25 ∨ a = 29 ∨ a = 36
theorem fr_j_X9_readClause_120 {p1 : Int32} {p2 : Int32} {p3 : Int32} {p4 : Int32} {S : fS} {r : Int32 × fS} (h : j_X9_readClause_120 p1 p2 p3 p4 S = some r) : Fr (w1_j_X9_readClause_120) (w2_j_X9_readClause_120) S r.2 := by
  unfold j_X9_readClause_120 at h
  rcases fr_ite h with h1 | h1
  ·
    exact (Fr.rf (S := S)).tr (Fr.mo (fr_j_X9_readClause_141 h1) (fun a k q => by unfold w1_j_X9_readClause_141 at q; unfold w1_j_X9_readClause_120; rcases q with q | q | q | q | q | q | q | q | q | q | q | q | q; exact Or.inl (q); exact Or.inr (Or.inl (q)); exact Or.inr (Or.inr (Or.inl (q))); exact Or.inr (Or.inr (Or.inr (Or.inl (q)))); exact Or.inr (Or.inr (Or.inr (Or.inr (Or.inl (q))))); exact Or.inr (Or.inr (Or.inr (Or.inr (Or.inr (Or.inl (q)))))); exact Or.inr (Or.inr (Or.inr (Or.inr (Or.inr (Or.inr (Or.inl (q))))))); exact Or.inr (Or.inr (Or.inr (Or.inr (Or.inr (Or.inr (Or.inr (Or.inl (q)))))))); exact Or.inr (Or.inr (Or.inr (Or.inr (Or.inr (Or.inr (Or.inr (Or.inr (Or.inl (q))))))))); exact Or.inr (Or.inr (Or.inr (Or.inr (Or.inr (Or.inr (Or.inr (Or.inr (Or.inr (Or.inl (q)))))))))); exact Or.inr (Or.inr (Or.inr (Or.inr (Or.inr (Or.inr (Or.inr (Or.inr (Or.inr (Or.inr (Or.inl (q))))))))))); exact Or.inr (Or.inr (Or.inr (Or.inr (Or.inr (Or.inr (Or.inr (Or.inr (Or.inr (Or.inr (Or.inr (Or.inl (q)))))))))))); exact Or.inr (Or.inr (Or.inr (Or.inr (Or.inr (Or.inr (Or.inr (Or.inr (Or.inr (Or.inr (Or.inr (Or.inr ((q)))))))))))))) (fun a k q => by unfold w2_j_X9_readClause_141 at q; unfold w2_j_X9_readClause_120; rcases q with q | q | q; exact Or.inl (q); exact Or.inr (Or.inl (q)); exact Or.inr (Or.inr ((q)))))
  ·
    rcases fr_ite h1 with h2 | h2
    ·
      exact (Fr.rf (S := S)).tr (Fr.mo (fr_j_X9_readClause_141 h2) (fun a k q => by unfold w1_j_X9_readClause_141 at q; unfold w1_j_X9_readClause_120; rcases q with q | q | q | q | q | q | q | q | q | q | q | q | q; exact Or.inl (q); exact Or.inr (Or.inl (q)); exact Or.inr (Or.inr (Or.inl (q))); exact Or.inr (Or.inr (Or.inr (Or.inl (q)))); exact Or.inr (Or.inr (Or.inr (Or.inr (Or.inl (q))))); exact Or.inr (Or.inr (Or.inr (Or.inr (Or.inr (Or.inl (q)))))); exact Or.inr (Or.inr (Or.inr (Or.inr (Or.inr (Or.inr (Or.inl (q))))))); exact Or.inr (Or.inr (Or.inr (Or.inr (Or.inr (Or.inr (Or.inr (Or.inl (q)))))))); exact Or.inr (Or.inr (Or.inr (Or.inr (Or.inr (Or.inr (Or.inr (Or.inr (Or.inl (q))))))))); exact Or.inr (Or.inr (Or.inr (Or.inr (Or.inr (Or.inr (Or.inr (Or.inr (Or.inr (Or.inl (q)))))))))); exact Or.inr (Or.inr (Or.inr (Or.inr (Or.inr (Or.inr (Or.inr (Or.inr (Or.inr (Or.inr (Or.inl (q))))))))))); exact Or.inr (Or.inr (Or.inr (Or.inr (Or.inr (Or.inr (Or.inr (Or.inr (Or.inr (Or.inr (Or.inr (Or.inl (q)))))))))))); exact Or.inr (Or.inr (Or.inr (Or.inr (Or.inr (Or.inr (Or.inr (Or.inr (Or.inr (Or.inr (Or.inr (Or.inr ((q)))))))))))))) (fun a k q => by unfold w2_j_X9_readClause_141 at q; unfold w2_j_X9_readClause_120; rcases q with q | q | q; exact Or.inl (q); exact Or.inr (Or.inl (q)); exact Or.inr (Or.inr ((q)))))
    ·
      exact (Fr.rf (S := S)).tr (Fr.mo (fr_j_X9_readClause_137 h2) (fun a k q => by unfold w1_j_X9_readClause_137 at q; unfold w1_j_X9_readClause_120; rcases q with q | q | q | q | q | q | q | q | q | q | q | q | q; exact Or.inl (q); exact Or.inr (Or.inl (q)); exact Or.inr (Or.inr (Or.inl (q))); exact Or.inr (Or.inr (Or.inr (Or.inl (q)))); exact Or.inr (Or.inr (Or.inr (Or.inr (Or.inl (q))))); exact Or.inr (Or.inr (Or.inr (Or.inr (Or.inr (Or.inl (q)))))); exact Or.inr (Or.inr (Or.inr (Or.inr (Or.inr (Or.inr (Or.inl (q))))))); exact Or.inr (Or.inr (Or.inr (Or.inr (Or.inr (Or.inr (Or.inr (Or.inl (q)))))))); exact Or.inr (Or.inr (Or.inr (Or.inr (Or.inr (Or.inr (Or.inr (Or.inr (Or.inl (q))))))))); exact Or.inr (Or.inr (Or.inr (Or.inr (Or.inr (Or.inr (Or.inr (Or.inr (Or.inr (Or.inl (q)))))))))); exact Or.inr (Or.inr (Or.inr (Or.inr (Or.inr (Or.inr (Or.inr (Or.inr (Or.inr (Or.inr (Or.inl (q))))))))))); exact Or.inr (Or.inr (Or.inr (Or.inr (Or.inr (Or.inr (Or.inr (Or.inr (Or.inr (Or.inr (Or.inr (Or.inl (q)))))))))))); exact Or.inr (Or.inr (Or.inr (Or.inr (Or.inr (Or.inr (Or.inr (Or.inr (Or.inr (Or.inr (Or.inr (Or.inr ((q)))))))))))))) (fun a k q => by unfold w2_j_X9_readClause_137 at q; unfold w2_j_X9_readClause_120; rcases q with q | q | q; exact Or.inl (q); exact Or.inr (Or.inl (q)); exact Or.inr (Or.inr ((q)))))
def w1_j_X9_readClause_104 (a k : Nat) : Prop := (a = 1 ∧ k = 2) ∨ (a = 1 ∧ k = 3) ∨ (a = 1 ∧ k = 4) ∨ (a = 24 ∧ k = 6) ∨ (a = 24 ∧ k = 7) ∨ a = 26 ∨ a = 27 ∨ a = 28 ∨ (a = 31 ∧ k = 5) ∨ a = 32 ∨ a = 33 ∨ a = 34 ∨ a = 35
def w2_j_X9_readClause_104 (a k : Nat) : Prop := a = 25 ∨ a = 29 ∨ a = 36
theorem fr_j_X9_readClause_104 {p1 : Int32} {p2 : Int32} {p3 : Int32} {p4 : Int32} {S : fS} {r : Int32 × fS} (h : j_X9_readClause_104 p1 p2 p3 p4 S = some r) : Fr (w1_j_X9_readClause_104) (w2_j_X9_readClause_104) S r.2 := by
  unfold j_X9_readClause_104 at h
  rcases fr_ite h with h1 | h1
  ·
    exact (Fr.rf (S := S)).tr (Fr.mo (fr_j_X9_readClause_120 h1) (fun a k q => by unfold w1_j_X9_readClause_120 at q; unfold w1_j_X9_readClause_104; rcases q with q | q | q | q | q | q | q | q | q | q | q | q | q; exact Or.inl (q); exact Or.inr (Or.inl (q)); exact Or.inr (Or.inr (Or.inl (q))); exact Or.inr (Or.inr (Or.inr (Or.inl (q)))); exact Or.inr (Or.inr (Or.inr (Or.inr (Or.inl (q))))); exact Or.inr (Or.inr (Or.inr (Or.inr (Or.inr (Or.inl (q)))))); exact Or.inr (Or.inr (Or.inr (Or.inr (Or.inr (Or.inr (Or.inl (q))))))); exact Or.inr (Or.inr (Or.inr (Or.inr (Or.inr (Or.inr (Or.inr (Or.inl (q)))))))); exact Or.inr (Or.inr (Or.inr (Or.inr (Or.inr (Or.inr (Or.inr (Or.inr (Or.inl (q))))))))); exact Or.inr (Or.inr (Or.inr (Or.inr (Or.inr (Or.inr (Or.inr (Or.inr (Or.inr (Or.inl (q)))))))))); exact Or.inr (Or.inr (Or.inr (Or.inr (Or.inr (Or.inr (Or.inr (Or.inr (Or.inr (Or.inr (Or.inl (q))))))))))); exact Or.inr (Or.inr (Or.inr (Or.inr (Or.inr (Or.inr (Or.inr (Or.inr (Or.inr (Or.inr (Or.inr (Or.inl (q)))))))))))); exact Or.inr (Or.inr (Or.inr (Or.inr (Or.inr (Or.inr (Or.inr (Or.inr (Or.inr (Or.inr (Or.inr (Or.inr ((q)))))))))))))) (fun a k q => by unfold w2_j_X9_readClause_120 at q; unfold w2_j_X9_readClause_104; rcases q with q | q | q; exact Or.inl (q); exact Or.inr (Or.inl (q)); exact Or.inr (Or.inr ((q)))))
  ·
    rcases fr_ite h1 with h2 | h2
    ·
      exact (Fr.rf (S := S)).tr (Fr.mo (fr_j_X9_readClause_137 h2) (fun a k q => by unfold w1_j_X9_readClause_137 at q; unfold w1_j_X9_readClause_104; rcases q with q | q | q | q | q | q | q | q | q | q | q | q | q; exact Or.inl (q); exact Or.inr (Or.inl (q)); exact Or.inr (Or.inr (Or.inl (q))); exact Or.inr (Or.inr (Or.inr (Or.inl (q)))); exact Or.inr (Or.inr (Or.inr (Or.inr (Or.inl (q))))); exact Or.inr (Or.inr (Or.inr (Or.inr (Or.inr (Or.inl (q)))))); exact Or.inr (Or.inr (Or.inr (Or.inr (Or.inr (Or.inr (Or.inl (q))))))); exact Or.inr (Or.inr (Or.inr (Or.inr (Or.inr (Or.inr (Or.inr (Or.inl (q)))))))); exact Or.inr (Or.inr (Or.inr (Or.inr (Or.inr (Or.inr (Or.inr (Or.inr (Or.inl (q))))))))); exact Or.inr (Or.inr (Or.inr (Or.inr (Or.inr (Or.inr (Or.inr (Or.inr (Or.inr (Or.inl (q)))))))))); exact Or.inr (Or.inr (Or.inr (Or.inr (Or.inr (Or.inr (Or.inr (Or.inr (Or.inr (Or.inr (Or.inl (q))))))))))); exact Or.inr (Or.inr (Or.inr (Or.inr (Or.inr (Or.inr (Or.inr (Or.inr (Or.inr (Or.inr (Or.inr (Or.inl (q)))))))))))); exact Or.inr (Or.inr (Or.inr (Or.inr (Or.inr (Or.inr (Or.inr (Or.inr (Or.inr (Or.inr (Or.inr (Or.inr ((q)))))))))))))) (fun a k q => by unfold w2_j_X9_readClause_137 at q; unfold w2_j_X9_readClause_104; rcases q with q | q | q; exact Or.inl (q); exact Or.inr (Or.inl (q)); exact Or.inr (Or.inr ((q)))))
    ·
      exact (Fr.rf (S := S)).tr (Fr.mo (fr_j_X9_readClause_120 h2) (fun a k q => by unfold w1_j_X9_readClause_120 at q; unfold w1_j_X9_readClause_104; rcases q with q | q | q | q | q | q | q | q | q | q | q | q | q; exact Or.inl (q); exact Or.inr (Or.inl (q)); exact Or.inr (Or.inr (Or.inl (q))); exact Or.inr (Or.inr (Or.inr (Or.inl (q)))); exact Or.inr (Or.inr (Or.inr (Or.inr (Or.inl (q))))); exact Or.inr (Or.inr (Or.inr (Or.inr (Or.inr (Or.inl (q)))))); exact Or.inr (Or.inr (Or.inr (Or.inr (Or.inr (Or.inr (Or.inl (q))))))); exact Or.inr (Or.inr (Or.inr (Or.inr (Or.inr (Or.inr (Or.inr (Or.inl (q)))))))); exact Or.inr (Or.inr (Or.inr (Or.inr (Or.inr (Or.inr (Or.inr (Or.inr (Or.inl (q))))))))); exact Or.inr (Or.inr (Or.inr (Or.inr (Or.inr (Or.inr (Or.inr (Or.inr (Or.inr (Or.inl (q)))))))))); exact Or.inr (Or.inr (Or.inr (Or.inr (Or.inr (Or.inr (Or.inr (Or.inr (Or.inr (Or.inr (Or.inl (q))))))))))); exact Or.inr (Or.inr (Or.inr (Or.inr (Or.inr (Or.inr (Or.inr (Or.inr (Or.inr (Or.inr (Or.inr (Or.inl (q)))))))))))); exact Or.inr (Or.inr (Or.inr (Or.inr (Or.inr (Or.inr (Or.inr (Or.inr (Or.inr (Or.inr (Or.inr (Or.inr ((q)))))))))))))) (fun a k q => by unfold w2_j_X9_readClause_120 at q; unfold w2_j_X9_readClause_104; rcases q with q | q | q; exact Or.inl (q); exact Or.inr (Or.inl (q)); exact Or.inr (Or.inr ((q)))))
def w1_j_X9_readClause_88 (a k : Nat) : Prop := (a = 1 ∧ k = 2) ∨ (a = 1 ∧ k = 3) ∨ (a = 1 ∧ k = 4) ∨ (a = 24 ∧ k = 6) ∨ (a = 24 ∧ k = 7) ∨ a = 26 ∨ a = 27 ∨ a = 28 ∨ (a = 31 ∧ k = 5) ∨ a = 32 ∨ a = 33 ∨ a = 34 ∨ a = 35
def w2_j_X9_readClause_88 (a k : Nat) : Prop := a = 25 ∨ a = 29 ∨ a = 36
theorem fr_j_X9_readClause_88 {p1 : Int32} {p2 : Int32} {p3 : Int32} {p4 : Int32} {S : fS} {r : Int32 × fS} (h : j_X9_readClause_88 p1 p2 p3 p4 S = some r) : Fr (w1_j_X9_readClause_88) (w2_j_X9_readClause_88) S r.2 := by
  unfold j_X9_readClause_88 at h
  rcases fr_ite h with h1 | h1
  ·
    exact (Fr.rf (S := S)).tr (Fr.mo (fr_j_X9_readClause_104 h1) (fun a k q => by unfold w1_j_X9_readClause_104 at q; unfold w1_j_X9_readClause_88; rcases q with q | q | q | q | q | q | q | q | q | q | q | q | q; exact Or.inl (q); exact Or.inr (Or.inl (q)); exact Or.inr (Or.inr (Or.inl (q))); exact Or.inr (Or.inr (Or.inr (Or.inl (q)))); exact Or.inr (Or.inr (Or.inr (Or.inr (Or.inl (q))))); exact Or.inr (Or.inr (Or.inr (Or.inr (Or.inr (Or.inl (q)))))); exact Or.inr (Or.inr (Or.inr (Or.inr (Or.inr (Or.inr (Or.inl (q))))))); exact Or.inr (Or.inr (Or.inr (Or.inr (Or.inr (Or.inr (Or.inr (Or.inl (q)))))))); exact Or.inr (Or.inr (Or.inr (Or.inr (Or.inr (Or.inr (Or.inr (Or.inr (Or.inl (q))))))))); exact Or.inr (Or.inr (Or.inr (Or.inr (Or.inr (Or.inr (Or.inr (Or.inr (Or.inr (Or.inl (q)))))))))); exact Or.inr (Or.inr (Or.inr (Or.inr (Or.inr (Or.inr (Or.inr (Or.inr (Or.inr (Or.inr (Or.inl (q))))))))))); exact Or.inr (Or.inr (Or.inr (Or.inr (Or.inr (Or.inr (Or.inr (Or.inr (Or.inr (Or.inr (Or.inr (Or.inl (q)))))))))))); exact Or.inr (Or.inr (Or.inr (Or.inr (Or.inr (Or.inr (Or.inr (Or.inr (Or.inr (Or.inr (Or.inr (Or.inr ((q)))))))))))))) (fun a k q => by unfold w2_j_X9_readClause_104 at q; unfold w2_j_X9_readClause_88; rcases q with q | q | q; exact Or.inl (q); exact Or.inr (Or.inl (q)); exact Or.inr (Or.inr ((q)))))
  ·
    rcases fr_ite h1 with h2 | h2
    ·
      exact (Fr.rf (S := S)).tr (Fr.mo (fr_j_X9_readClause_137 h2) (fun a k q => by unfold w1_j_X9_readClause_137 at q; unfold w1_j_X9_readClause_88; rcases q with q | q | q | q | q | q | q | q | q | q | q | q | q; exact Or.inl (q); exact Or.inr (Or.inl (q)); exact Or.inr (Or.inr (Or.inl (q))); exact Or.inr (Or.inr (Or.inr (Or.inl (q)))); exact Or.inr (Or.inr (Or.inr (Or.inr (Or.inl (q))))); exact Or.inr (Or.inr (Or.inr (Or.inr (Or.inr (Or.inl (q)))))); exact Or.inr (Or.inr (Or.inr (Or.inr (Or.inr (Or.inr (Or.inl (q))))))); exact Or.inr (Or.inr (Or.inr (Or.inr (Or.inr (Or.inr (Or.inr (Or.inl (q)))))))); exact Or.inr (Or.inr (Or.inr (Or.inr (Or.inr (Or.inr (Or.inr (Or.inr (Or.inl (q))))))))); exact Or.inr (Or.inr (Or.inr (Or.inr (Or.inr (Or.inr (Or.inr (Or.inr (Or.inr (Or.inl (q)))))))))); exact Or.inr (Or.inr (Or.inr (Or.inr (Or.inr (Or.inr (Or.inr (Or.inr (Or.inr (Or.inr (Or.inl (q))))))))))); exact Or.inr (Or.inr (Or.inr (Or.inr (Or.inr (Or.inr (Or.inr (Or.inr (Or.inr (Or.inr (Or.inr (Or.inl (q)))))))))))); exact Or.inr (Or.inr (Or.inr (Or.inr (Or.inr (Or.inr (Or.inr (Or.inr (Or.inr (Or.inr (Or.inr (Or.inr ((q)))))))))))))) (fun a k q => by unfold w2_j_X9_readClause_137 at q; unfold w2_j_X9_readClause_88; rcases q with q | q | q; exact Or.inl (q); exact Or.inr (Or.inl (q)); exact Or.inr (Or.inr ((q)))))
    ·
      exact (Fr.rf (S := S)).tr (Fr.mo (fr_j_X9_readClause_104 h2) (fun a k q => by unfold w1_j_X9_readClause_104 at q; unfold w1_j_X9_readClause_88; rcases q with q | q | q | q | q | q | q | q | q | q | q | q | q; exact Or.inl (q); exact Or.inr (Or.inl (q)); exact Or.inr (Or.inr (Or.inl (q))); exact Or.inr (Or.inr (Or.inr (Or.inl (q)))); exact Or.inr (Or.inr (Or.inr (Or.inr (Or.inl (q))))); exact Or.inr (Or.inr (Or.inr (Or.inr (Or.inr (Or.inl (q)))))); exact Or.inr (Or.inr (Or.inr (Or.inr (Or.inr (Or.inr (Or.inl (q))))))); exact Or.inr (Or.inr (Or.inr (Or.inr (Or.inr (Or.inr (Or.inr (Or.inl (q)))))))); exact Or.inr (Or.inr (Or.inr (Or.inr (Or.inr (Or.inr (Or.inr (Or.inr (Or.inl (q))))))))); exact Or.inr (Or.inr (Or.inr (Or.inr (Or.inr (Or.inr (Or.inr (Or.inr (Or.inr (Or.inl (q)))))))))); exact Or.inr (Or.inr (Or.inr (Or.inr (Or.inr (Or.inr (Or.inr (Or.inr (Or.inr (Or.inr (Or.inl (q))))))))))); exact Or.inr (Or.inr (Or.inr (Or.inr (Or.inr (Or.inr (Or.inr (Or.inr (Or.inr (Or.inr (Or.inr (Or.inl (q)))))))))))); exact Or.inr (Or.inr (Or.inr (Or.inr (Or.inr (Or.inr (Or.inr (Or.inr (Or.inr (Or.inr (Or.inr (Or.inr ((q)))))))))))))) (fun a k q => by unfold w2_j_X9_readClause_104 at q; unfold w2_j_X9_readClause_88; rcases q with q | q | q; exact Or.inl (q); exact Or.inr (Or.inl (q)); exact Or.inr (Or.inr ((q)))))
def w1_j_X9_readClause_57 (a k : Nat) : Prop := (a = 1 ∧ k = 2) ∨ (a = 1 ∧ k = 3) ∨ (a = 1 ∧ k = 4) ∨ (a = 24 ∧ k = 6) ∨ (a = 24 ∧ k = 7) ∨ a = 26 ∨ a = 27 ∨ a = 28 ∨ (a = 31 ∧ k = 5) ∨ a = 32 ∨ a = 33 ∨ a = 34 ∨ a = 35
def w2_j_X9_readClause_57 (a k : Nat) : Prop := a = 25 ∨ a = 29 ∨ a = 36
theorem fr_j_X9_readClause_57 {p1 : Int32} {p2 : Int32} {p3 : Int32} {s0 : Int32} {S : fS} {r : Int32 × fS} (h : j_X9_readClause_57 p1 p2 p3 s0 S = some r) : Fr (w1_j_X9_readClause_57) (w2_j_X9_readClause_57) S r.2 := by
  unfold j_X9_readClause_57 at h
  rcases fr_ite h with h1 | h1
  ·
    rcases fr_ite h1 with h2 | h2
    ·
      rcases fr_ite h2 with h3 | h3
      ·
        obtain ⟨q46, e4, h5⟩ := Option.bind_eq_some_iff.mp h3
        have f6 : Fr (w1_j_X9_readClause_57) (w2_j_X9_readClause_57) S q46.2 := (Fr.rf (S := S)).tr (Fr.mo (fr_f_X7_fail e4) (fun a k q => by unfold w1_f_X7_fail at q; unfold w1_j_X9_readClause_57; exact Or.inr (Or.inr (Or.inl (q)))) (fun _ _ q => False.elim q))
        obtain ⟨z49, e7, h8⟩ := Option.bind_eq_some_iff.mp h5
        exact fr_e2 h8 f6
      ·
        exact (Fr.rf (S := S)).tr (Fr.mo (fr_j_X9_readClause_88 h3) (fun a k q => by unfold w1_j_X9_readClause_88 at q; unfold w1_j_X9_readClause_57; rcases q with q | q | q | q | q | q | q | q | q | q | q | q | q; exact Or.inl (q); exact Or.inr (Or.inl (q)); exact Or.inr (Or.inr (Or.inl (q))); exact Or.inr (Or.inr (Or.inr (Or.inl (q)))); exact Or.inr (Or.inr (Or.inr (Or.inr (Or.inl (q))))); exact Or.inr (Or.inr (Or.inr (Or.inr (Or.inr (Or.inl (q)))))); exact Or.inr (Or.inr (Or.inr (Or.inr (Or.inr (Or.inr (Or.inl (q))))))); exact Or.inr (Or.inr (Or.inr (Or.inr (Or.inr (Or.inr (Or.inr (Or.inl (q)))))))); exact Or.inr (Or.inr (Or.inr (Or.inr (Or.inr (Or.inr (Or.inr (Or.inr (Or.inl (q))))))))); exact Or.inr (Or.inr (Or.inr (Or.inr (Or.inr (Or.inr (Or.inr (Or.inr (Or.inr (Or.inl (q)))))))))); exact Or.inr (Or.inr (Or.inr (Or.inr (Or.inr (Or.inr (Or.inr (Or.inr (Or.inr (Or.inr (Or.inl (q))))))))))); exact Or.inr (Or.inr (Or.inr (Or.inr (Or.inr (Or.inr (Or.inr (Or.inr (Or.inr (Or.inr (Or.inr (Or.inl (q)))))))))))); exact Or.inr (Or.inr (Or.inr (Or.inr (Or.inr (Or.inr (Or.inr (Or.inr (Or.inr (Or.inr (Or.inr (Or.inr ((q)))))))))))))) (fun a k q => by unfold w2_j_X9_readClause_88 at q; unfold w2_j_X9_readClause_57; rcases q with q | q | q; exact Or.inl (q); exact Or.inr (Or.inl (q)); exact Or.inr (Or.inr ((q)))))
    ·
      exact (Fr.rf (S := S)).tr (Fr.mo (fr_j_X9_readClause_88 h2) (fun a k q => by unfold w1_j_X9_readClause_88 at q; unfold w1_j_X9_readClause_57; rcases q with q | q | q | q | q | q | q | q | q | q | q | q | q; exact Or.inl (q); exact Or.inr (Or.inl (q)); exact Or.inr (Or.inr (Or.inl (q))); exact Or.inr (Or.inr (Or.inr (Or.inl (q)))); exact Or.inr (Or.inr (Or.inr (Or.inr (Or.inl (q))))); exact Or.inr (Or.inr (Or.inr (Or.inr (Or.inr (Or.inl (q)))))); exact Or.inr (Or.inr (Or.inr (Or.inr (Or.inr (Or.inr (Or.inl (q))))))); exact Or.inr (Or.inr (Or.inr (Or.inr (Or.inr (Or.inr (Or.inr (Or.inl (q)))))))); exact Or.inr (Or.inr (Or.inr (Or.inr (Or.inr (Or.inr (Or.inr (Or.inr (Or.inl (q))))))))); exact Or.inr (Or.inr (Or.inr (Or.inr (Or.inr (Or.inr (Or.inr (Or.inr (Or.inr (Or.inl (q)))))))))); exact Or.inr (Or.inr (Or.inr (Or.inr (Or.inr (Or.inr (Or.inr (Or.inr (Or.inr (Or.inr (Or.inl (q))))))))))); exact Or.inr (Or.inr (Or.inr (Or.inr (Or.inr (Or.inr (Or.inr (Or.inr (Or.inr (Or.inr (Or.inr (Or.inl (q)))))))))))); exact Or.inr (Or.inr (Or.inr (Or.inr (Or.inr (Or.inr (Or.inr (Or.inr (Or.inr (Or.inr (Or.inr (Or.inr ((q)))))))))))))) (fun a k q => by unfold w2_j_X9_readClause_88 at q; unfold w2_j_X9_readClause_57; rcases q with q | q | q; exact Or.inl (q); exact Or.inr (Or.inl (q)); exact Or.inr (Or.inr ((q)))))
  ·
    exact (Fr.rf (S := S)).tr (Fr.mo (fr_j_X9_readClause_88 h1) (fun a k q => by unfold w1_j_X9_readClause_88 at q; unfold w1_j_X9_readClause_57; rcases q with q | q | q | q | q | q | q | q | q | q | q | q | q; exact Or.inl (q); exact Or.inr (Or.inl (q)); exact Or.inr (Or.inr (Or.inl (q))); exact Or.inr (Or.inr (Or.inr (Or.inl (q)))); exact Or.inr (Or.inr (Or.inr (Or.inr (Or.inl (q))))); exact Or.inr (Or.inr (Or.inr (Or.inr (Or.inr (Or.inl (q)))))); exact Or.inr (Or.inr (Or.inr (Or.inr (Or.inr (Or.inr (Or.inl (q))))))); exact Or.inr (Or.inr (Or.inr (Or.inr (Or.inr (Or.inr (Or.inr (Or.inl (q)))))))); exact Or.inr (Or.inr (Or.inr (Or.inr (Or.inr (Or.inr (Or.inr (Or.inr (Or.inl (q))))))))); exact Or.inr (Or.inr (Or.inr (Or.inr (Or.inr (Or.inr (Or.inr (Or.inr (Or.inr (Or.inl (q)))))))))); exact Or.inr (Or.inr (Or.inr (Or.inr (Or.inr (Or.inr (Or.inr (Or.inr (Or.inr (Or.inr (Or.inl (q))))))))))); exact Or.inr (Or.inr (Or.inr (Or.inr (Or.inr (Or.inr (Or.inr (Or.inr (Or.inr (Or.inr (Or.inr (Or.inl (q)))))))))))); exact Or.inr (Or.inr (Or.inr (Or.inr (Or.inr (Or.inr (Or.inr (Or.inr (Or.inr (Or.inr (Or.inr (Or.inr ((q)))))))))))))) (fun a k q => by unfold w2_j_X9_readClause_88 at q; unfold w2_j_X9_readClause_57; rcases q with q | q | q; exact Or.inl (q); exact Or.inr (Or.inl (q)); exact Or.inr (Or.inr ((q)))))
def w1_j_X9_readClause_56 (a k : Nat) : Prop := (a = 1 ∧ k = 2) ∨ (a = 1 ∧ k = 3) ∨ (a = 1 ∧ k = 4) ∨ (a = 24 ∧ k = 6) ∨ (a = 24 ∧ k = 7) ∨ a = 26 ∨ a = 27 ∨ a = 28 ∨ (a = 31 ∧ k = 5) ∨ a = 32 ∨ a = 33 ∨ a = 34 ∨ a = 35
def w2_j_X9_readClause_56 (a k : Nat) : Prop := a = 25 ∨ a = 29 ∨ a = 36
theorem fr_j_X9_readClause_56 {p1 : Int32} {p2 : Int32} {p3 : Int32} {S : fS} {r : Int32 × fS} (h : j_X9_readClause_56 p1 p2 p3 S = some r) : Fr (w1_j_X9_readClause_56) (w2_j_X9_readClause_56) S r.2 := by
  unfold j_X9_readClause_56 at h
  exact (Fr.rf (S := S)).tr (Fr.mo (fr_j_X9_readClause_57 h) (fun a k q => by unfold w1_j_X9_readClause_57 at q; unfold w1_j_X9_readClause_56; rcases q with q | q | q | q | q | q | q | q | q | q | q | q | q; exact Or.inl (q); exact Or.inr (Or.inl (q)); exact Or.inr (Or.inr (Or.inl (q))); exact Or.inr (Or.inr (Or.inr (Or.inl (q)))); exact Or.inr (Or.inr (Or.inr (Or.inr (Or.inl (q))))); exact Or.inr (Or.inr (Or.inr (Or.inr (Or.inr (Or.inl (q)))))); exact Or.inr (Or.inr (Or.inr (Or.inr (Or.inr (Or.inr (Or.inl (q))))))); exact Or.inr (Or.inr (Or.inr (Or.inr (Or.inr (Or.inr (Or.inr (Or.inl (q)))))))); exact Or.inr (Or.inr (Or.inr (Or.inr (Or.inr (Or.inr (Or.inr (Or.inr (Or.inl (q))))))))); exact Or.inr (Or.inr (Or.inr (Or.inr (Or.inr (Or.inr (Or.inr (Or.inr (Or.inr (Or.inl (q)))))))))); exact Or.inr (Or.inr (Or.inr (Or.inr (Or.inr (Or.inr (Or.inr (Or.inr (Or.inr (Or.inr (Or.inl (q))))))))))); exact Or.inr (Or.inr (Or.inr (Or.inr (Or.inr (Or.inr (Or.inr (Or.inr (Or.inr (Or.inr (Or.inr (Or.inl (q)))))))))))); exact Or.inr (Or.inr (Or.inr (Or.inr (Or.inr (Or.inr (Or.inr (Or.inr (Or.inr (Or.inr (Or.inr (Or.inr ((q)))))))))))))) (fun a k q => by unfold w2_j_X9_readClause_57 at q; unfold w2_j_X9_readClause_56; rcases q with q | q | q; exact Or.inl (q); exact Or.inr (Or.inl (q)); exact Or.inr (Or.inr ((q)))))
def w1_j_X9_readClause_31 (a k : Nat) : Prop := (a = 1 ∧ k = 2) ∨ (a = 1 ∧ k = 3) ∨ (a = 1 ∧ k = 4) ∨ (a = 24 ∧ k = 6) ∨ (a = 24 ∧ k = 7) ∨ a = 26 ∨ a = 27 ∨ a = 28 ∨ (a = 31 ∧ k = 5) ∨ a = 32 ∨ a = 33 ∨ a = 34 ∨ a = 35
def w2_j_X9_readClause_31 (a k : Nat) : Prop := a = 25 ∨ a = 29 ∨ a = 36
theorem fr_j_X9_readClause_31 {p1 : Int32} {p2 : Int32} {s0 : Int32} {S : fS} {r : Int32 × fS} (h : j_X9_readClause_31 p1 p2 s0 S = some r) : Fr (w1_j_X9_readClause_31) (w2_j_X9_readClause_31) S r.2 := by
  unfold j_X9_readClause_31 at h
  rcases fr_ite h with h1 | h1
  ·
    rcases fr_ite h1 with h2 | h2
    ·
      obtain ⟨q55, e3, h4⟩ := Option.bind_eq_some_iff.mp h2
      have f5 : Fr (w1_j_X9_readClause_31) (w2_j_X9_readClause_31) S q55.2 := (Fr.rf (S := S)).tr (Fr.mo (fr_f_X7_takeWord e3) (fun a k q => by unfold w1_f_X7_takeWord at q; unfold w1_j_X9_readClause_31; rcases q with q | q; exact Or.inl (q); exact Or.inr (Or.inl (q))) (fun _ _ q => False.elim q))
      rcases fr_ite h4 with h6 | h6
      ·
        exact f5.tr (Fr.mo (fr_j_X9_readClause_56 h6) (fun a k q => by unfold w1_j_X9_readClause_56 at q; unfold w1_j_X9_readClause_31; rcases q with q | q | q | q | q | q | q | q | q | q | q | q | q; exact Or.inl (q); exact Or.inr (Or.inl (q)); exact Or.inr (Or.inr (Or.inl (q))); exact Or.inr (Or.inr (Or.inr (Or.inl (q)))); exact Or.inr (Or.inr (Or.inr (Or.inr (Or.inl (q))))); exact Or.inr (Or.inr (Or.inr (Or.inr (Or.inr (Or.inl (q)))))); exact Or.inr (Or.inr (Or.inr (Or.inr (Or.inr (Or.inr (Or.inl (q))))))); exact Or.inr (Or.inr (Or.inr (Or.inr (Or.inr (Or.inr (Or.inr (Or.inl (q)))))))); exact Or.inr (Or.inr (Or.inr (Or.inr (Or.inr (Or.inr (Or.inr (Or.inr (Or.inl (q))))))))); exact Or.inr (Or.inr (Or.inr (Or.inr (Or.inr (Or.inr (Or.inr (Or.inr (Or.inr (Or.inl (q)))))))))); exact Or.inr (Or.inr (Or.inr (Or.inr (Or.inr (Or.inr (Or.inr (Or.inr (Or.inr (Or.inr (Or.inl (q))))))))))); exact Or.inr (Or.inr (Or.inr (Or.inr (Or.inr (Or.inr (Or.inr (Or.inr (Or.inr (Or.inr (Or.inr (Or.inl (q)))))))))))); exact Or.inr (Or.inr (Or.inr (Or.inr (Or.inr (Or.inr (Or.inr (Or.inr (Or.inr (Or.inr (Or.inr (Or.inr ((q)))))))))))))) (fun a k q => by unfold w2_j_X9_readClause_56 at q; unfold w2_j_X9_readClause_31; rcases q with q | q | q; exact Or.inl (q); exact Or.inr (Or.inl (q)); exact Or.inr (Or.inr ((q)))))
      ·
        exact f5.tr (Fr.mo (fr_j_X9_readClause_57 h6) (fun a k q => by unfold w1_j_X9_readClause_57 at q; unfold w1_j_X9_readClause_31; rcases q with q | q | q | q | q | q | q | q | q | q | q | q | q; exact Or.inl (q); exact Or.inr (Or.inl (q)); exact Or.inr (Or.inr (Or.inl (q))); exact Or.inr (Or.inr (Or.inr (Or.inl (q)))); exact Or.inr (Or.inr (Or.inr (Or.inr (Or.inl (q))))); exact Or.inr (Or.inr (Or.inr (Or.inr (Or.inr (Or.inl (q)))))); exact Or.inr (Or.inr (Or.inr (Or.inr (Or.inr (Or.inr (Or.inl (q))))))); exact Or.inr (Or.inr (Or.inr (Or.inr (Or.inr (Or.inr (Or.inr (Or.inl (q)))))))); exact Or.inr (Or.inr (Or.inr (Or.inr (Or.inr (Or.inr (Or.inr (Or.inr (Or.inl (q))))))))); exact Or.inr (Or.inr (Or.inr (Or.inr (Or.inr (Or.inr (Or.inr (Or.inr (Or.inr (Or.inl (q)))))))))); exact Or.inr (Or.inr (Or.inr (Or.inr (Or.inr (Or.inr (Or.inr (Or.inr (Or.inr (Or.inr (Or.inl (q))))))))))); exact Or.inr (Or.inr (Or.inr (Or.inr (Or.inr (Or.inr (Or.inr (Or.inr (Or.inr (Or.inr (Or.inr (Or.inl (q)))))))))))); exact Or.inr (Or.inr (Or.inr (Or.inr (Or.inr (Or.inr (Or.inr (Or.inr (Or.inr (Or.inr (Or.inr (Or.inr ((q)))))))))))))) (fun a k q => by unfold w2_j_X9_readClause_57 at q; unfold w2_j_X9_readClause_31; rcases q with q | q | q; exact Or.inl (q); exact Or.inr (Or.inl (q)); exact Or.inr (Or.inr ((q)))))
    ·
      exact (Fr.rf (S := S)).tr (Fr.mo (fr_j_X9_readClause_56 h2) (fun a k q => by unfold w1_j_X9_readClause_56 at q; unfold w1_j_X9_readClause_31; rcases q with q | q | q | q | q | q | q | q | q | q | q | q | q; exact Or.inl (q); exact Or.inr (Or.inl (q)); exact Or.inr (Or.inr (Or.inl (q))); exact Or.inr (Or.inr (Or.inr (Or.inl (q)))); exact Or.inr (Or.inr (Or.inr (Or.inr (Or.inl (q))))); exact Or.inr (Or.inr (Or.inr (Or.inr (Or.inr (Or.inl (q)))))); exact Or.inr (Or.inr (Or.inr (Or.inr (Or.inr (Or.inr (Or.inl (q))))))); exact Or.inr (Or.inr (Or.inr (Or.inr (Or.inr (Or.inr (Or.inr (Or.inl (q)))))))); exact Or.inr (Or.inr (Or.inr (Or.inr (Or.inr (Or.inr (Or.inr (Or.inr (Or.inl (q))))))))); exact Or.inr (Or.inr (Or.inr (Or.inr (Or.inr (Or.inr (Or.inr (Or.inr (Or.inr (Or.inl (q)))))))))); exact Or.inr (Or.inr (Or.inr (Or.inr (Or.inr (Or.inr (Or.inr (Or.inr (Or.inr (Or.inr (Or.inl (q))))))))))); exact Or.inr (Or.inr (Or.inr (Or.inr (Or.inr (Or.inr (Or.inr (Or.inr (Or.inr (Or.inr (Or.inr (Or.inl (q)))))))))))); exact Or.inr (Or.inr (Or.inr (Or.inr (Or.inr (Or.inr (Or.inr (Or.inr (Or.inr (Or.inr (Or.inr (Or.inr ((q)))))))))))))) (fun a k q => by unfold w2_j_X9_readClause_56 at q; unfold w2_j_X9_readClause_31; rcases q with q | q | q; exact Or.inl (q); exact Or.inr (Or.inl (q)); exact Or.inr (Or.inr ((q)))))
  ·
    exact (Fr.rf (S := S)).tr (Fr.mo (fr_j_X9_readClause_56 h1) (fun a k q => by unfold w1_j_X9_readClause_56 at q; unfold w1_j_X9_readClause_31; rcases q with q | q | q | q | q | q | q | q | q | q | q | q | q; exact Or.inl (q); exact Or.inr (Or.inl (q)); exact Or.inr (Or.inr (Or.inl (q))); exact Or.inr (Or.inr (Or.inr (Or.inl (q)))); exact Or.inr (Or.inr (Or.inr (Or.inr (Or.inl (q))))); exact Or.inr (Or.inr (Or.inr (Or.inr (Or.inr (Or.inl (q)))))); exact Or.inr (Or.inr (Or.inr (Or.inr (Or.inr (Or.inr (Or.inl (q))))))); exact Or.inr (Or.inr (Or.inr (Or.inr (Or.inr (Or.inr (Or.inr (Or.inl (q)))))))); exact Or.inr (Or.inr (Or.inr (Or.inr (Or.inr (Or.inr (Or.inr (Or.inr (Or.inl (q))))))))); exact Or.inr (Or.inr (Or.inr (Or.inr (Or.inr (Or.inr (Or.inr (Or.inr (Or.inr (Or.inl (q)))))))))); exact Or.inr (Or.inr (Or.inr (Or.inr (Or.inr (Or.inr (Or.inr (Or.inr (Or.inr (Or.inr (Or.inl (q))))))))))); exact Or.inr (Or.inr (Or.inr (Or.inr (Or.inr (Or.inr (Or.inr (Or.inr (Or.inr (Or.inr (Or.inr (Or.inl (q)))))))))))); exact Or.inr (Or.inr (Or.inr (Or.inr (Or.inr (Or.inr (Or.inr (Or.inr (Or.inr (Or.inr (Or.inr (Or.inr ((q)))))))))))))) (fun a k q => by unfold w2_j_X9_readClause_56 at q; unfold w2_j_X9_readClause_31; rcases q with q | q | q; exact Or.inl (q); exact Or.inr (Or.inl (q)); exact Or.inr (Or.inr ((q)))))
