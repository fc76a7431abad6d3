/-! frames: what each function may write -/
def Fr (w1 w2 : Nat → Nat → Prop) (S T : fS) : Prop := (∀ a k, ¬ w1 a k → T.1 a k = S.1 a k) ∧ (∀ a k, ¬ w2 a k → T.2 a k = S.2 a k)
theorem Fr.rf {w1 w2 : Nat → Nat → Prop} {S : fS} : Fr w1 w2 S S := ⟨fun _ _ _ => rfl, fun _ _ _ => rfl⟩
theorem Fr.tr {w1 w2 : Nat → Nat → Prop} {S T U : fS} (h : Fr w1 w2 S T) (g : Fr w1 w2 T U) : Fr w1 w2 S U := ⟨fun a k n => (g.1 a k n).trans (h.1 a k n), fun a k n => (g.2 a k n).trans (h.2 a k n)⟩
theorem Fr.mo {w1 w2 v1 v2 : Nat → Nat → Prop} {S T : fS} (h : Fr w1 w2 S T) (s1 : ∀ a k, w1 a k → v1 a k) (s2 : ∀ a k, w2 a k → v2 a k) : Fr v1 v2 S T := ⟨fun a k n => h.1 a k (fun q => n (s1 a k q)), fun a k n => h.2 a k (fun q => n (s2 a k q))⟩
theorem fr_up {α : Type} {f : Nat → Nat → α} {b j : Nat} {x : α} {a k : Nat} (h : ¬ (a = b ∧ k = j)) : mm_up f b j x a k = f a k := by
  unfold mm_up
  by_cases ha : a = b
  · rw [if_pos ha]
    have hk : ¬ k = j := fun q => h ⟨ha, q⟩
    show (if k = j then x else f b k) = _
    rw [if_neg hk, ha]
  · rw [if_neg ha]
theorem fr_row {α : Type} {f : Nat → Nat → α} {b : Nat} {r : Nat → α} {a k : Nat} (h : ¬ a = b) : mm_row f b r a k = f a k := by
  unfold mm_row
  rw [if_neg h]
theorem fr_pI {w1 w2 : Nat → Nat → Prop} {S T : fS} {b j : Nat} {x : Int32} (e : some (pI S b j x) = some T) (hw : w1 b j) : Fr w1 w2 S T := by
  obtain rfl := Option.some.inj e
  exact ⟨fun a k n => fr_up (fun q => n (q.1 ▸ q.2 ▸ hw)), fun _ _ _ => rfl⟩
theorem fr_pL {w1 w2 : Nat → Nat → Prop} {S T : fS} {b j : Nat} {x : Int64} (e : some (pL S b j x) = some T) (hw : w2 b j) : Fr w1 w2 S T := by
  obtain rfl := Option.some.inj e
  exact ⟨fun _ _ _ => rfl, fun a k n => fr_up (fun q => n (q.1 ▸ q.2 ▸ hw))⟩
theorem fr_cI {w1 w2 : Nat → Nat → Prop} {S T : fS} {c b n : Nat} (e : some (cI S c b n) = some T) (hw : ∀ k, w1 b k) : Fr w1 w2 S T := by
  obtain rfl := Option.some.inj e
  exact ⟨fun a k n => fr_row (fun q => n (q ▸ hw k)), fun _ _ _ => rfl⟩
theorem fr_cL {w1 w2 : Nat → Nat → Prop} {S T : fS} {c b n : Nat} (e : some (cL S c b n) = some T) (hw : ∀ k, w2 b k) : Fr w1 w2 S T := by
  obtain rfl := Option.some.inj e
  exact ⟨fun _ _ _ => rfl, fun a k n => fr_row (fun q => n (q ▸ hw k))⟩
theorem fr_sI {w1 w2 : Nat → Nat → Prop} {S T : fS} {b n : Nat} {i x : Int32} (e : sI S b n i x = some T) (hw : ∀ k, w1 b k) : Fr w1 w2 S T := fr_pI (ifn_some e).2 (hw _)
theorem fr_sL {w1 w2 : Nat → Nat → Prop} {S T : fS} {b n : Nat} {i : Int32} {x : Int64} (e : sL S b n i x = some T) (hw : ∀ k, w2 b k) : Fr w1 w2 S T := fr_pL (ifn_some e).2 (hw _)
theorem fr_ite {α : Type} {c : Prop} [Decidable c] {x y : Option α} {r : α} (h : (if c then x else y) = some r) : x = some r ∨ y = some r := by
  by_cases hc : c
  · rw [if_pos hc] at h; exact Or.inl h
  · rw [if_neg hc] at h; exact Or.inr h
theorem fr_e1 {w1 w2 : Nat → Nat → Prop} {S T r : fS} (e : some T = some r) (h : Fr w1 w2 S T) : Fr w1 w2 S r := by
  obtain rfl := Option.some.inj e
  exact h
theorem fr_e2 {α : Type} {w1 w2 : Nat → Nat → Prop} {S T : fS} {v : α} {r : α × fS} (e : some (v, T) = some r) (h : Fr w1 w2 S T) : Fr w1 w2 S r.2 := by
  obtain rfl := Option.some.inj e
  exact h
theorem fr_A22 {i : Int32} {b : Nat} (h : gA22 i = some b) : 51 ≤ b ∧ b ≤ 108 := by
  obtain ⟨h1, h2⟩ := ifn_some h
  cases h2
  have := fun q => h1 (Or.inr q)
  omega
theorem fr_A23 {i : Int32} {b : Nat} (h : gA23 i = some b) : 127 ≤ b ∧ b ≤ 142 := by
  obtain ⟨h1, h2⟩ := ifn_some h
  cases h2
  have := fun q => h1 (Or.inr q)
  omega
theorem fr_rON {v : Int32} {S : fS} {q : Option Nat} (h : f_X10_ruleOrNull v S = some q) : 127 ≤ q.getD 127 ∧ q.getD 127 ≤ 142 := by
  unfold f_X10_ruleOrNull at h
  obtain ⟨q1, -, h⟩ := Option.bind_eq_some_iff.mp h
  rcases fr_ite h with h | h
  · obtain rfl := Option.some.inj h
    exact ⟨by decide, by decide⟩
  · obtain ⟨a, e, h⟩ := Option.bind_eq_some_iff.mp h
    obtain rfl := Option.some.inj h
    exact fr_A23 e
def w1_lp_X7_put_3 (a k : Nat) : Prop := (a = 1 ∧ k = 1) ∨ a = 2
def w2_lp_X7_put_3 (a k : Nat) : Prop := False
theorem fr_lp_X7_put_3 {p1 : Int32} {K : fS → Option (fS)} {r : fS} {v1 v2 : Nat → Nat → Prop} (s1 : ∀ a k, w1_lp_X7_put_3 a k → v1 a k) (s2 : ∀ a k, w2_lp_X7_put_3 a k → v2 a k) (hK : ∀ (x0 : fS), K x0 = some r → Fr v1 v2 x0 r) : ∀ (n : Nat) (p2 : Int32) (S0 : fS), lp_X7_put_3 p1 K n p2 S0 = some r → Fr v1 v2 S0 r := by
  intro n
  induction n with
  | zero => intro p2 S0 h; exact mm_no h
  | succ n ih =>
    intro p2 S0 h
    rw [lp_X7_put_3.eq_2] at h
    rcases fr_ite h with h1 | h1
    ·
      exact (Fr.rf (S := S0)).tr (hK _ h1)
    ·
      rcases fr_ite h1 with h2 | h2
      ·
        exact (Fr.rf (S := S0)).tr (ih _ _ h2)
      ·
        obtain ⟨S3, e3, h4⟩ := Option.bind_eq_some_iff.mp h2
        have f5 : Fr v1 v2 S0 S3 := (Fr.rf (S := S0)).tr (fr_sI e3 (fun k => by refine s1 _ _ ?_; unfold w1_lp_X7_put_3; exact Or.inr ((rfl))))
        obtain ⟨S6, e6, h7⟩ := Option.bind_eq_some_iff.mp h4
        have f8 : Fr v1 v2 S0 S6 := f5.tr (fr_pI e6 (by refine s1 _ _ ?_; unfold w1_lp_X7_put_3; exact Or.inl (⟨rfl, rfl⟩)))
        exact f8.tr (ih _ _ h7)
def w1_f_X7_put (a k : Nat) : Prop := (a = 1 ∧ k = 1) ∨ a = 2
def w2_f_X7_put (a k : Nat) : Prop := False
theorem fr_f_X7_put {v1 : Int32} {S : fS} {r : fS} (h : f_X7_put v1 S = some r) : Fr (w1_f_X7_put) (w2_f_X7_put) S r := by
  unfold f_X7_put at h
  refine (Fr.rf (S := S)).tr (fr_lp_X7_put_3 (v1 := w1_f_X7_put) (v2 := w2_f_X7_put) (fun a k q => by unfold w1_lp_X7_put_3 at q; unfold w1_f_X7_put; rcases q with q | q; exact Or.inl (q); exact Or.inr ((q))) (fun _ _ q => False.elim q) (fun S9 h1 => ?_) _ _ _ h)
  exact fr_e1 h1 (Fr.rf (S := S9))
def w1_f_X10_feed (a k : Nat) : Prop := (a = 1 ∧ k = 1) ∨ a = 2
def w2_f_X10_feed (a k : Nat) : Prop := False
theorem fr_f_X10_feed {v1 : Int32} {v2 : Int32} {v3 : Int32} {v4 : Int32} {v5 : Int32} {S : fS} {r : Int32 × fS} (h : f_X10_feed v1 v2 v3 v4 v5 S = some r) : Fr (w1_f_X10_feed) (w2_f_X10_feed) S r.2 := by
  unfold f_X10_feed at h
  rcases fr_ite h with h1 | h1
  ·
    obtain ⟨q2, e2, h3⟩ := Option.bind_eq_some_iff.mp h1
    have f4 : Fr (w1_f_X10_feed) (w2_f_X10_feed) S q2 := (Fr.rf (S := S)).tr (Fr.mo (fr_f_X7_put e2) (fun a k q => by unfold w1_f_X7_put at q; unfold w1_f_X10_feed; rcases q with q | q; exact Or.inl (q); exact Or.inr ((q))) (fun _ _ q => False.elim q))
    obtain ⟨q5, e5, h6⟩ := Option.bind_eq_some_iff.mp h3
    have f7 : Fr (w1_f_X10_feed) (w2_f_X10_feed) S q5 := f4.tr (Fr.mo (fr_f_X7_put e5) (fun a k q => by unfold w1_f_X7_put at q; unfold w1_f_X10_feed; rcases q with q | q; exact Or.inl (q); exact Or.inr ((q))) (fun _ _ q => False.elim q))
    obtain ⟨q8, e8, h9⟩ := Option.bind_eq_some_iff.mp h6
    have f10 : Fr (w1_f_X10_feed) (w2_f_X10_feed) S q8 := f7.tr (Fr.mo (fr_f_X7_put e8) (fun a k q => by unfold w1_f_X7_put at q; unfold w1_f_X10_feed; rcases q with q | q; exact Or.inl (q); exact Or.inr ((q))) (fun _ _ q => False.elim q))
    obtain ⟨q11, e11, h12⟩ := Option.bind_eq_some_iff.mp h9
    have f13 : Fr (w1_f_X10_feed) (w2_f_X10_feed) S q11 := f10.tr (Fr.mo (fr_f_X7_put e11) (fun a k q => by unfold w1_f_X7_put at q; unfold w1_f_X10_feed; rcases q with q | q; exact Or.inl (q); exact Or.inr ((q))) (fun _ _ q => False.elim q))
    obtain ⟨q14, e14, h15⟩ := Option.bind_eq_some_iff.mp h12
    have f16 : Fr (w1_f_X10_feed) (w2_f_X10_feed) S q14 := f13.tr (Fr.mo (fr_f_X7_put e14) (fun a k q => by unfold w1_f_X7_put at q; unfold w1_f_X10_feed; rcases q with q | q; exact Or.inl (q); exact Or.inr ((q))) (fun _ _ q => False.elim q))
    exact fr_e2 h15 f16
  ·
    exact fr_e2 h1 (Fr.rf (S := S))
def w1_f_X10_end (a k : Nat) : Prop := (a = 1 ∧ k = 1)
def w2_f_X10_end (a k : Nat) : Prop := False
theorem fr_f_X10_end {v1 : Int32} {S : fS} {r : Int32 × fS} (h : f_X10_end v1 S = some r) : Fr (w1_f_X10_end) (w2_f_X10_end) S r.2 := by
  unfold f_X10_end at h
  obtain ⟨q1, e1, h2⟩ := Option.bind_eq_some_iff.mp h
  rcases fr_ite h2 with h3 | h3
  ·
    exact fr_e2 h3 (Fr.rf (S := S))
  ·
    obtain ⟨S5, e4, h5⟩ := Option.bind_eq_some_iff.mp h3
    have f6 : Fr (w1_f_X10_end) (w2_f_X10_end) S S5 := (Fr.rf (S := S)).tr (fr_pI e4 (by unfold w1_f_X10_end; exact ⟨rfl, rfl⟩))
    exact fr_e2 h5 f6
def w1_f_X7_rewind (a k : Nat) : Prop := (a = 1 ∧ k = 2) ∨ (a = 1 ∧ k = 3) ∨ (a = 1 ∧ k = 4)
def w2_f_X7_rewind (a k : Nat) : Prop := False
theorem fr_f_X7_rewind {S : fS} {r : fS} (h : f_X7_rewind S = some r) : Fr (w1_f_X7_rewind) (w2_f_X7_rewind) S r := by
  unfold f_X7_rewind at h
  obtain ⟨S1, e1, h2⟩ := Option.bind_eq_some_iff.mp h
  have f3 : Fr (w1_f_X7_rewind) (w2_f_X7_rewind) S S1 := (Fr.rf (S := S)).tr (fr_pI e1 (by unfold w1_f_X7_rewind; exact Or.inl (⟨rfl, rfl⟩)))
  obtain ⟨S4, e4, h5⟩ := Option.bind_eq_some_iff.mp h2
  have f6 : Fr (w1_f_X7_rewind) (w2_f_X7_rewind) S S4 := f3.tr (fr_pI e4 (by unfold w1_f_X7_rewind; exact Or.inr (Or.inl (⟨rfl, rfl⟩))))
  obtain ⟨S7, e7, h8⟩ := Option.bind_eq_some_iff.mp h5
  have f9 : Fr (w1_f_X7_rewind) (w2_f_X7_rewind) S S7 := f6.tr (fr_pI e7 (by unfold w1_f_X7_rewind; exact Or.inr (Or.inr ((⟨rfl, rfl⟩)))))
  exact fr_e1 h8 f9
def w1_lp_X7_skipBlanks_0 (a k : Nat) : Prop := (a = 1 ∧ k = 2)
def w2_lp_X7_skipBlanks_0 (a k : Nat) : Prop := False
theorem fr_lp_X7_skipBlanks_0 {K : fS → Option (fS)} {r : fS} {v1 v2 : Nat → Nat → Prop} (s1 : ∀ a k, w1_lp_X7_skipBlanks_0 a k → v1 a k) (s2 : ∀ a k, w2_lp_X7_skipBlanks_0 a k → v2 a k) (hK : ∀ (x0 : fS), K x0 = some r → Fr v1 v2 x0 r) : ∀ (n : Nat) (S0 : fS), lp_X7_skipBlanks_0 K n S0 = some r → Fr v1 v2 S0 r := by
  intro n
  induction n with
  | zero => intro S0 h; exact mm_no h
  | succ n ih =>
    intro S0 h
    rw [lp_X7_skipBlanks_0.eq_2] at h
    rcases fr_ite h with h1 | h1
    ·
      exact (Fr.rf (S := S0)).tr (hK _ h1)
    ·
      rcases fr_ite h1 with h2 | h2
      ·
        exact (Fr.rf (S := S0)).tr (hK _ h2)
      ·
        obtain ⟨a3, e3, h4⟩ := Option.bind_eq_some_iff.mp h2
        rcases fr_ite h4 with h5 | h5
        ·
          obtain ⟨S7, e6, h7⟩ := Option.bind_eq_some_iff.mp h5
          have f8 : Fr v1 v2 S0 S7 := (Fr.rf (S := S0)).tr (fr_pI e6 (by refine s1 _ _ ?_; unfold w1_lp_X7_skipBlanks_0; exact ⟨rfl, rfl⟩))
          exact f8.tr (ih _ h7)
        ·
          exact (Fr.rf (S := S0)).tr (hK _ h5)
def w1_f_X7_skipBlanks (a k : Nat) : Prop := (a = 1 ∧ k = 2)
def w2_f_X7_skipBlanks (a k : Nat) : Prop := False
theorem fr_f_X7_skipBlanks {S : fS} {r : fS} (h : f_X7_skipBlanks S = some r) : Fr (w1_f_X7_skipBlanks) (w2_f_X7_skipBlanks) S r := by
  unfold f_X7_skipBlanks at h
  refine (Fr.rf (S := S)).tr (fr_lp_X7_skipBlanks_0 (v1 := w1_f_X7_skipBlanks) (v2 := w2_f_X7_skipBlanks) (fun a k q => by unfold w1_lp_X7_skipBlanks_0 at q; unfold w1_f_X7_skipBlanks; exact q) (fun _ _ q => False.elim q) (fun S10 h1 => ?_) _ _ h)
  exact fr_e1 h1 (Fr.rf (S := S10))
def w1_lp_X7_takeWord_11 (p1 : Nat) (a k : Nat) : Prop := False
def w2_lp_X7_takeWord_11 (p1 : Nat) (a k : Nat) : Prop := False
theorem fr_lp_X7_takeWord_11 {p1 : Nat} {p2 : Int32} {K : fS → Option (Int32 × fS)} {r : Int32 × fS} {v1 v2 : Nat → Nat → Prop} (s1 : ∀ a k, w1_lp_X7_takeWord_11 p1 a k → v1 a k) (s2 : ∀ a k, w2_lp_X7_takeWord_11 p1 a k → v2 a k) (hK : ∀ (x0 : fS), K x0 = some r → Fr v1 v2 x0 r.2) : ∀ (n : Nat) (p3 : Int32) (S0 : fS), lp_X7_takeWord_11 p1 p2 K n p3 S0 = some r → Fr v1 v2 S0 r.2 := by
  intro n
  induction n with
  | zero => intro p3 S0 h; exact mm_no h
  | succ n ih =>
    intro p3 S0 h
    rw [lp_X7_takeWord_11.eq_2] at h
    rcases fr_ite h with h1 | h1
    ·
      exact (Fr.rf (S := S0)).tr (hK _ h1)
    ·
      obtain ⟨q8, e2, h3⟩ := Option.bind_eq_some_iff.mp h1
      obtain ⟨q11, e4, h5⟩ := Option.bind_eq_some_iff.mp h3
      rcases fr_ite h5 with h6 | h6
      ·
        exact (Fr.rf (S := S0)).tr (ih _ _ h6)
      ·
        exact fr_e2 h6 (Fr.rf (S := S0))
def w1_f_X7_takeWord (v1 : Nat) (a k : Nat) : Prop := (a = 1 ∧ k = 2) ∨ (a = 1 ∧ k = 3)
def w2_f_X7_takeWord (v1 : Nat) (a k : Nat) : Prop := False
theorem fr_f_X7_takeWord {v1 : Nat} {S : fS} {r : Int32 × fS} (h : f_X7_takeWord v1 S = some r) : Fr (w1_f_X7_takeWord v1) (w2_f_X7_takeWord v1) S r.2 := by
  unfold f_X7_takeWord at h
  obtain ⟨q1, e1, h2⟩ := Option.bind_eq_some_iff.mp h
  have f3 : Fr (w1_f_X7_takeWord v1) (w2_f_X7_takeWord v1) S q1 := (Fr.rf (S := S)).tr (Fr.mo (fr_f_X7_skipBlanks e1) (fun a k q => by unfold w1_f_X7_skipBlanks at q; unfold w1_f_X7_takeWord; exact Or.inl (q)) (fun _ _ q => False.elim q))
  obtain ⟨q4, e4, h5⟩ := Option.bind_eq_some_iff.mp h2
  refine f3.tr (fr_lp_X7_takeWord_11 (v1 := w1_f_X7_takeWord v1) (v2 := w2_f_X7_takeWord v1) (fun _ _ q => False.elim q) (fun _ _ q => False.elim q) (fun S15 h6 => ?_) _ _ _ h5)
  obtain ⟨q17, e7, h8⟩ := Option.bind_eq_some_iff.mp h6
  rcases fr_ite h8 with h9 | h9
  ·
    obtain ⟨S21, e10, h11⟩ := Option.bind_eq_some_iff.mp h9
    have f12 : Fr (w1_f_X7_takeWord v1) (w2_f_X7_takeWord v1) S15 S21 := (Fr.rf (S := S15)).tr (fr_pI e10 (by unfold w1_f_X7_takeWord; exact Or.inr ((⟨rfl, rfl⟩))))
    obtain ⟨S24, e13, h14⟩ := Option.bind_eq_some_iff.mp h11
    have f15 : Fr (w1_f_X7_takeWord v1) (w2_f_X7_takeWord v1) S15 S24 := f12.tr (fr_pI e13 (by unfold w1_f_X7_takeWord; exact Or.inl (⟨rfl, rfl⟩)))
    exact fr_e2 h14 f15
  ·
    rcases fr_ite h9 with h16 | h16
    ·
      obtain ⟨S28, e17, h18⟩ := Option.bind_eq_some_iff.mp h16
      have f19 : Fr (w1_f_X7_takeWord v1) (w2_f_X7_takeWord v1) S15 S28 := (Fr.rf (S := S15)).tr (fr_pI e17 (by unfold w1_f_X7_takeWord; exact Or.inr ((⟨rfl, rfl⟩))))
      obtain ⟨S31, e20, h21⟩ := Option.bind_eq_some_iff.mp h18
      have f22 : Fr (w1_f_X7_takeWord v1) (w2_f_X7_takeWord v1) S15 S31 := f19.tr (fr_pI e20 (by unfold w1_f_X7_takeWord; exact Or.inl (⟨rfl, rfl⟩)))
      exact fr_e2 h21 f22
    ·
      exact fr_e2 h16 (Fr.rf (S := S15))
def w1_f_X7_fail (a k : Nat) : Prop := (a = 1 ∧ k = 4)
def w2_f_X7_fail (a k : Nat) : Prop := False
theorem fr_f_X7_fail {v1 : Int32} {v2 : Int32} {S : fS} {r : Int32 × fS} (h : f_X7_fail v1 v2 S = some r) : Fr (w1_f_X7_fail) (w2_f_X7_fail) S r.2 := by
  unfold f_X7_fail at h
  obtain ⟨S1, e1, h2⟩ := Option.bind_eq_some_iff.mp h
  have f3 : Fr (w1_f_X7_fail) (w2_f_X7_fail) S S1 := (Fr.rf (S := S)).tr (fr_pI e1 (by unfold w1_f_X7_fail; exact ⟨rfl, rfl⟩))
  exact fr_e2 h2 f3
def w1_lp_X7_takeNumber_14 (a k : Nat) : Prop := (a = 1 ∧ k = 2)
def w2_lp_X7_takeNumber_14 (a k : Nat) : Prop := False
theorem fr_lp_X7_takeNumber_14 {p1 : Int32} {p2 : Int32} {K : Int32 → fS → Option (Int32 × fS)} {r : Int32 × fS} {v1 v2 : Nat → Nat → Prop} (s1 : ∀ a k, w1_lp_X7_takeNumber_14 a k → v1 a k) (s2 : ∀ a k, w2_lp_X7_takeNumber_14 a k → v2 a k) (hK : ∀ (x0 : Int32) (x1 : fS), K x0 x1 = some r → Fr v1 v2 x1 r.2) : ∀ (n : Nat) (p3 : Int32) (S0 : fS), lp_X7_takeNumber_14 p1 p2 K n p3 S0 = some r → Fr v1 v2 S0 r.2 := by
  intro n
  induction n with
  | zero => intro p3 S0 h; exact mm_no h
  | succ n ih =>
    intro p3 S0 h
    rw [lp_X7_takeNumber_14.eq_2] at h
    rcases fr_ite h with h1 | h1
    ·
      exact (Fr.rf (S := S0)).tr (hK _ _ h1)
    ·
      obtain ⟨q8, e2, h3⟩ := Option.bind_eq_some_iff.mp h1
      rcases fr_ite h3 with h4 | h4
      ·
        exact (Fr.rf (S := S0)).tr (hK _ _ h4)
      ·
        rcases fr_ite h4 with h5 | h5
        ·
          obtain ⟨S13, e6, h7⟩ := Option.bind_eq_some_iff.mp h5
          have f8 : Fr v1 v2 S0 S13 := (Fr.rf (S := S0)).tr (fr_pI e6 (by refine s1 _ _ ?_; unfold w1_lp_X7_takeNumber_14; exact ⟨rfl, rfl⟩))
          exact f8.tr (ih _ _ h7)
        ·
          obtain ⟨q16, e9, h10⟩ := Option.bind_eq_some_iff.mp h5
          obtain ⟨S19, e11, h12⟩ := Option.bind_eq_some_iff.mp h10
          have f13 : Fr v1 v2 S0 S19 := (Fr.rf (S := S0)).tr (fr_pI e11 (by refine s1 _ _ ?_; unfold w1_lp_X7_takeNumber_14; exact ⟨rfl, rfl⟩))
          exact f13.tr (ih _ _ h12)
def w1_f_X7_takeNumber (a k : Nat) : Prop := (a = 1 ∧ k = 2) ∨ (a = 1 ∧ k = 3) ∨ (a = 1 ∧ k = 4)
def w2_f_X7_takeNumber (a k : Nat) : Prop := False
theorem fr_f_X7_takeNumber {v1 : Int32} {v2 : Int32} {S : fS} {r : Int32 × fS} (h : f_X7_takeNumber v1 v2 S = some r) : Fr (w1_f_X7_takeNumber) (w2_f_X7_takeNumber) S r.2 := by
  unfold f_X7_takeNumber at h
  obtain ⟨q1, e1, h2⟩ := Option.bind_eq_some_iff.mp h
  have f3 : Fr (w1_f_X7_takeNumber) (w2_f_X7_takeNumber) S q1 := (Fr.rf (S := S)).tr (Fr.mo (fr_f_X7_skipBlanks e1) (fun a k q => by unfold w1_f_X7_skipBlanks at q; unfold w1_f_X7_takeNumber; exact Or.inl (q)) (fun _ _ q => False.elim q))
  obtain ⟨S4, e4, h5⟩ := Option.bind_eq_some_iff.mp h2
  have f6 : Fr (w1_f_X7_takeNumber) (w2_f_X7_takeNumber) S S4 := f3.tr (fr_pI e4 (by unfold w1_f_X7_takeNumber; exact Or.inr (Or.inl (⟨rfl, rfl⟩))))
  refine f6.tr (fr_lp_X7_takeNumber_14 (v1 := w1_f_X7_takeNumber) (v2 := w2_f_X7_takeNumber) (fun a k q => by unfold w1_lp_X7_takeNumber_14 at q; unfold w1_f_X7_takeNumber; exact Or.inl (q)) (fun _ _ q => False.elim q) (fun u22 S23 h7 => ?_) _ _ _ h5)
  rcases fr_ite h7 with h8 | h8
  ·
    obtain ⟨q37, e9, h10⟩ := Option.bind_eq_some_iff.mp h8
    have f11 : Fr (w1_f_X7_takeNumber) (w2_f_X7_takeNumber) S23 q37.2 := (Fr.rf (S := S23)).tr (Fr.mo (fr_f_X7_fail e9) (fun a k q => by unfold w1_f_X7_fail at q; unfold w1_f_X7_takeNumber; exact Or.inr (Or.inr ((q)))) (fun _ _ q => False.elim q))
    exact fr_e2 h10 f11
  ·
    rcases fr_ite h8 with h12 | h12
    ·
      obtain ⟨q27, e13, h14⟩ := Option.bind_eq_some_iff.mp h12
      have f15 : Fr (w1_f_X7_takeNumber) (w2_f_X7_takeNumber) S23 q27.2 := (Fr.rf (S := S23)).tr (Fr.mo (fr_f_X7_fail e13) (fun a k q => by unfold w1_f_X7_fail at q; unfold w1_f_X7_takeNumber; exact Or.inr (Or.inr ((q)))) (fun _ _ q => False.elim q))
      exact fr_e2 h14 f15
    ·
      obtain ⟨q30, e16, h17⟩ := Option.bind_eq_some_iff.mp h12
      rcases fr_ite h17 with h18 | h18
      ·
        obtain ⟨q34, e19, h20⟩ := Option.bind_eq_some_iff.mp h18
        have f21 : Fr (w1_f_X7_takeNumber) (w2_f_X7_takeNumber) S23 q34.2 := (Fr.rf (S := S23)).tr (Fr.mo (fr_f_X7_fail e19) (fun a k q => by unfold w1_f_X7_fail at q; unfold w1_f_X7_takeNumber; exact Or.inr (Or.inr ((q)))) (fun _ _ q => False.elim q))
        exact fr_e2 h20 f21
      ·
        exact fr_e2 h18 (Fr.rf (S := S23))
def w1_f_X9_readPace (a k : Nat) : Prop := (a = 1 ∧ k = 2) ∨ (a = 1 ∧ k = 3) ∨ (a = 1 ∧ k = 4)
def w2_f_X9_readPace (a k : Nat) : Prop := False
theorem fr_f_X9_readPace {S : fS} {r : Int64 × fS} (h : f_X9_readPace S = some r) : Fr (w1_f_X9_readPace) (w2_f_X9_readPace) S r.2 := by
  unfold f_X9_readPace at h
  obtain ⟨q1, e1, h2⟩ := Option.bind_eq_some_iff.mp h
  have f3 : Fr (w1_f_X9_readPace) (w2_f_X9_readPace) S q1.2 := (Fr.rf (S := S)).tr (Fr.mo (fr_f_X7_takeNumber e1) (fun a k q => by unfold w1_f_X7_takeNumber at q; unfold w1_f_X9_readPace; rcases q with q | q | q; exact Or.inl (q); exact Or.inr (Or.inl (q)); exact Or.inr (Or.inr ((q)))) (fun _ _ q => False.elim q))
  rcases fr_ite h2 with h4 | h4
  ·
    obtain ⟨q5, e5, h6⟩ := Option.bind_eq_some_iff.mp h4
    have f7 : Fr (w1_f_X9_readPace) (w2_f_X9_readPace) S q5.2 := f3.tr (Fr.mo (fr_f_X7_takeNumber e5) (fun a k q => by unfold w1_f_X7_takeNumber at q; unfold w1_f_X9_readPace; rcases q with q | q | q; exact Or.inl (q); exact Or.inr (Or.inl (q)); exact Or.inr (Or.inr ((q)))) (fun _ _ q => False.elim q))
    rcases fr_ite h6 with h8 | h8
    ·
      obtain ⟨a9, e9, h10⟩ := Option.bind_eq_some_iff.mp h8
      exact fr_e2 h10 f7
    ·
      exact fr_e2 h8 f7
  ·
    exact fr_e2 h4 f3
def w1_f_X9_readFloor (a k : Nat) : Prop := (a = 1 ∧ k = 2) ∨ (a = 1 ∧ k = 3) ∨ (a = 1 ∧ k = 4) ∨ (a = 24 ∧ k = 6)
def w2_f_X9_readFloor (a k : Nat) : Prop := a = 25
theorem fr_f_X9_readFloor {S : fS} {r : Int32 × fS} (h : f_X9_readFloor S = some r) : Fr (w1_f_X9_readFloor) (w2_f_X9_readFloor) S r.2 := by
  unfold f_X9_readFloor at h
  obtain ⟨q1, e1, h2⟩ := Option.bind_eq_some_iff.mp h
  have f3 : Fr (w1_f_X9_readFloor) (w2_f_X9_readFloor) S q1.2 := (Fr.rf (S := S)).tr (Fr.mo (fr_f_X9_readPace e1) (fun a k q => by unfold w1_f_X9_readPace at q; unfold w1_f_X9_readFloor; rcases q with q | q | q; exact Or.inl (q); exact Or.inr (Or.inl (q)); exact Or.inr (Or.inr (Or.inl (q)))) (fun _ _ q => False.elim q))
  rcases fr_ite h2 with h4 | h4
  ·
    obtain ⟨S5, e5, h6⟩ := Option.bind_eq_some_iff.mp h4
    have f7 : Fr (w1_f_X9_readFloor) (w2_f_X9_readFloor) S S5 := f3.tr (fr_sL e5 (fun k => by unfold w2_f_X9_readFloor; exact rfl))
    obtain ⟨S8, e8, h9⟩ := Option.bind_eq_some_iff.mp h6
    have f10 : Fr (w1_f_X9_readFloor) (w2_f_X9_readFloor) S S8 := f7.tr (fr_pI e8 (by unfold w1_f_X9_readFloor; exact Or.inr (Or.inr (Or.inr ((⟨rfl, rfl⟩))))))
    exact fr_e2 h9 f10
  ·
    exact fr_e2 h4 f3
def w1_f_X8_addStair (v0 : Nat) (a k : Nat) : Prop := (a = v0 ∧ k = 7) ∨ a = v0 + 2 ∨ a = v0 + 3 ∨ a = v0 + 4
def w2_f_X8_addStair (v0 : Nat) (a k : Nat) : Prop := a = v0 + 5
theorem fr_f_X8_addStair {v0 : Nat} {v1 : Int32} {v2 : Int32} {v3 : Int32} {v4 : Int64} {S : fS} {r : fS} (h : f_X8_addStair v0 v1 v2 v3 v4 S = some r) : Fr (w1_f_X8_addStair v0) (w2_f_X8_addStair v0) S r := by
  unfold f_X8_addStair at h
  rcases fr_ite h with h1 | h1
  ·
    exact fr_e1 h1 (Fr.rf (S := S))
  ·
    obtain ⟨S2, e2, h3⟩ := Option.bind_eq_some_iff.mp h1
    have f4 : Fr (w1_f_X8_addStair v0) (w2_f_X8_addStair v0) S S2 := (Fr.rf (S := S)).tr (fr_sI e2 (fun k => by unfold w1_f_X8_addStair; exact Or.inr (Or.inl (rfl))))
    obtain ⟨S5, e5, h6⟩ := Option.bind_eq_some_iff.mp h3
    have f7 : Fr (w1_f_X8_addStair v0) (w2_f_X8_addStair v0) S S5 := f4.tr (fr_sI e5 (fun k => by unfold w1_f_X8_addStair; exact Or.inr (Or.inr (Or.inl (rfl)))))
    obtain ⟨S8, e8, h9⟩ := Option.bind_eq_some_iff.mp h6
    have f10 : Fr (w1_f_X8_addStair v0) (w2_f_X8_addStair v0) S S8 := f7.tr (fr_sI e8 (fun k => by unfold w1_f_X8_addStair; exact Or.inr (Or.inr (Or.inr ((rfl))))))
    obtain ⟨S11, e11, h12⟩ := Option.bind_eq_some_iff.mp h9
    have f13 : Fr (w1_f_X8_addStair v0) (w2_f_X8_addStair v0) S S11 := f10.tr (fr_sL e11 (fun k => by unfold w2_f_X8_addStair; exact rfl))
    obtain ⟨S14, e14, h15⟩ := Option.bind_eq_some_iff.mp h12
    have f16 : Fr (w1_f_X8_addStair v0) (w2_f_X8_addStair v0) S S14 := f13.tr (fr_pI e14 (by unfold w1_f_X8_addStair; exact Or.inl (⟨rfl, rfl⟩)))
    exact fr_e1 h15 f16
def w1_f_X9_readStair (a k : Nat) : Prop := (a = 1 ∧ k = 2) ∨ (a = 1 ∧ k = 3) ∨ (a = 1 ∧ k = 4) ∨ (a = 24 ∧ k = 7) ∨ a = 26 ∨ a = 27 ∨ a = 28
def w2_f_X9_readStair (a k : Nat) : Prop := a = 29
theorem fr_f_X9_readStair {S : fS} {r : Int32 × fS} (h : f_X9_readStair S = some r) : Fr (w1_f_X9_readStair) (w2_f_X9_readStair) S r.2 := by
  unfold f_X9_readStair at h
  obtain ⟨q1, e1, h2⟩ := Option.bind_eq_some_iff.mp h
  have f3 : Fr (w1_f_X9_readStair) (w2_f_X9_readStair) S q1.2 := (Fr.rf (S := S)).tr (Fr.mo (fr_f_X7_takeNumber e1) (fun a k q => by unfold w1_f_X7_takeNumber at q; unfold w1_f_X9_readStair; rcases q with q | q | q; exact Or.inl (q); exact Or.inr (Or.inl (q)); exact Or.inr (Or.inr (Or.inl (q)))) (fun _ _ q => False.elim q))
  rcases fr_ite h2 with h4 | h4
  ·
    obtain ⟨q5, e5, h6⟩ := Option.bind_eq_some_iff.mp h4
    have f7 : Fr (w1_f_X9_readStair) (w2_f_X9_readStair) S q5.2 := f3.tr (Fr.mo (fr_f_X7_takeNumber e5) (fun a k q => by unfold w1_f_X7_takeNumber at q; unfold w1_f_X9_readStair; rcases q with q | q | q; exact Or.inl (q); exact Or.inr (Or.inl (q)); exact Or.inr (Or.inr (Or.inl (q)))) (fun _ _ q => False.elim q))
    rcases fr_ite h6 with h8 | h8
    ·
      rcases fr_ite h8 with h9 | h9
      ·
        obtain ⟨q21, e10, h11⟩ := Option.bind_eq_some_iff.mp h9
        have f12 : Fr (w1_f_X9_readStair) (w2_f_X9_readStair) S q21.2 := f7.tr (Fr.mo (fr_f_X7_fail e10) (fun a k q => by unfold w1_f_X7_fail at q; unfold w1_f_X9_readStair; exact Or.inr (Or.inr (Or.inl (q)))) (fun _ _ q => False.elim q))
        obtain ⟨z24, e13, h14⟩ := Option.bind_eq_some_iff.mp h11
        exact fr_e2 h14 f12
      ·
        obtain ⟨q10, e15, h16⟩ := Option.bind_eq_some_iff.mp h9
        have f17 : Fr (w1_f_X9_readStair) (w2_f_X9_readStair) S q10.2 := f7.tr (Fr.mo (fr_f_X7_takeNumber e15) (fun a k q => by unfold w1_f_X7_takeNumber at q; unfold w1_f_X9_readStair; rcases q with q | q | q; exact Or.inl (q); exact Or.inr (Or.inl (q)); exact Or.inr (Or.inr (Or.inl (q)))) (fun _ _ q => False.elim q))
        rcases fr_ite h16 with h18 | h18
        ·
          obtain ⟨q14, e19, h20⟩ := Option.bind_eq_some_iff.mp h18
          have f21 : Fr (w1_f_X9_readStair) (w2_f_X9_readStair) S q14.2 := f17.tr (Fr.mo (fr_f_X9_readPace e19) (fun a k q => by unfold w1_f_X9_readPace at q; unfold w1_f_X9_readStair; rcases q with q | q | q; exact Or.inl (q); exact Or.inr (Or.inl (q)); exact Or.inr (Or.inr (Or.inl (q)))) (fun _ _ q => False.elim q))
          rcases fr_ite h20 with h22 | h22
          ·
            obtain ⟨q18, e23, h24⟩ := Option.bind_eq_some_iff.mp h22
            have f25 : Fr (w1_f_X9_readStair) (w2_f_X9_readStair) S q18 := f21.tr (Fr.mo (fr_f_X8_addStair e23) (fun a k q => by unfold w1_f_X8_addStair at q; unfold w1_f_X9_readStair; rcases q with q | q | q | q; exact Or.inr (Or.inr (Or.inr (Or.inl (q)))); exact Or.inr (Or.inr (Or.inr (Or.inr (Or.inl (q))))); exact Or.inr (Or.inr (Or.inr (Or.inr (Or.inr (Or.inl (q)))))); exact Or.inr (Or.inr (Or.inr (Or.inr (Or.inr (Or.inr ((q)))))))) (fun a k q => by unfold w2_f_X8_addStair at q; unfold w2_f_X9_readStair; exact q))
            exact fr_e2 h24 f25
          ·
            exact fr_e2 h22 f21
        ·
          exact fr_e2 h18 f17
    ·
      exact fr_e2 h8 f7
  ·
    exact fr_e2 h4 f3
def w1_f_X0_putOn (v0 : Nat) (a k : Nat) : Prop := a = v0 + 1 ∨ a = v0 + 2 ∨ a = v0 + 3 ∨ a = v0 + 4
def w2_f_X0_putOn (v0 : Nat) (a k : Nat) : Prop := False
theorem fr_f_X0_putOn {v0 : Nat} {v1 : Int32} {v2 : Int32} {S : fS} {r : fS} (h : f_X0_putOn v0 v1 v2 S = some r) : Fr (w1_f_X0_putOn v0) (w2_f_X0_putOn v0) S r := by
  unfold f_X0_putOn at h
  obtain ⟨S1, e1, h2⟩ := Option.bind_eq_some_iff.mp h
  have f3 : Fr (w1_f_X0_putOn v0) (w2_f_X0_putOn v0) S S1 := (Fr.rf (S := S)).tr (fr_sI e1 (fun k => by unfold w1_f_X0_putOn; exact Or.inl (rfl)))
  obtain ⟨S4, e4, h5⟩ := Option.bind_eq_some_iff.mp h2
  have f6 : Fr (w1_f_X0_putOn v0) (w2_f_X0_putOn v0) S S4 := f3.tr (fr_sI e4 (fun k => by unfold w1_f_X0_putOn; exact Or.inr (Or.inl (rfl))))
  obtain ⟨S7, e7, h8⟩ := Option.bind_eq_some_iff.mp h5
  have f9 : Fr (w1_f_X0_putOn v0) (w2_f_X0_putOn v0) S S7 := f6.tr (fr_sI e7 (fun k => by unfold w1_f_X0_putOn; exact Or.inr (Or.inr (Or.inl (rfl)))))
  obtain ⟨S10, e10, h11⟩ := Option.bind_eq_some_iff.mp h8
  have f12 : Fr (w1_f_X0_putOn v0) (w2_f_X0_putOn v0) S S10 := f9.tr (fr_sI e10 (fun k => by unfold w1_f_X0_putOn; exact Or.inr (Or.inr (Or.inr ((rfl))))))
  exact fr_e1 h11 f12
def w1_f_X0_addThing (v0 : Nat) (a k : Nat) : Prop := (a = v0 ∧ k = 5) ∨ a = v0 + 1 ∨ a = v0 + 2 ∨ a = v0 + 3 ∨ a = v0 + 4
def w2_f_X0_addThing (v0 : Nat) (a k : Nat) : Prop := a = v0 + 5
theorem fr_f_X0_addThing {v0 : Nat} {v1 : Int32} {S : fS} {r : fS} (h : f_X0_addThing v0 v1 S = some r) : Fr (w1_f_X0_addThing v0) (w2_f_X0_addThing v0) S r := by
  unfold f_X0_addThing at h
  rcases fr_ite h with h1 | h1
  ·
    exact fr_e1 h1 (Fr.rf (S := S))
  ·
    obtain ⟨q2, e2, h3⟩ := Option.bind_eq_some_iff.mp h1
    have f4 : Fr (w1_f_X0_addThing v0) (w2_f_X0_addThing v0) S q2 := (Fr.rf (S := S)).tr (Fr.mo (fr_f_X0_putOn e2) (fun a k q => by unfold w1_f_X0_putOn at q; unfold w1_f_X0_addThing; rcases q with q | q | q | q; exact Or.inr (Or.inl (q)); exact Or.inr (Or.inr (Or.inl (q))); exact Or.inr (Or.inr (Or.inr (Or.inl (q)))); exact Or.inr (Or.inr (Or.inr (Or.inr ((q)))))) (fun _ _ q => False.elim q))
    obtain ⟨S5, e5, h6⟩ := Option.bind_eq_some_iff.mp h3
    have f7 : Fr (w1_f_X0_addThing v0) (w2_f_X0_addThing v0) S S5 := f4.tr (fr_sL e5 (fun k => by unfold w2_f_X0_addThing; exact rfl))
    obtain ⟨S8, e8, h9⟩ := Option.bind_eq_some_iff.mp h6
    have f10 : Fr (w1_f_X0_addThing v0) (w2_f_X0_addThing v0) S S8 := f7.tr (fr_pI e8 (by unfold w1_f_X0_addThing; exact Or.inl (⟨rfl, rfl⟩)))
    exact fr_e1 h9 f10
def w1_f_X9_readThing (a k : Nat) : Prop := (a = 1 ∧ k = 2) ∨ (a = 1 ∧ k = 3) ∨ (a = 1 ∧ k = 4) ∨ (a = 31 ∧ k = 5) ∨ a = 32 ∨ a = 33 ∨ a = 34 ∨ a = 35
def w2_f_X9_readThing (a k : Nat) : Prop := a = 36
theorem fr_f_X9_readThing {S : fS} {r : Int32 × fS} (h : f_X9_readThing S = some r) : Fr (w1_f_X9_readThing) (w2_f_X9_readThing) S r.2 := by
  unfold f_X9_readThing at h
  obtain ⟨q1, e1, h2⟩ := Option.bind_eq_some_iff.mp h
  have f3 : Fr (w1_f_X9_readThing) (w2_f_X9_readThing) S q1.2 := (Fr.rf (S := S)).tr (Fr.mo (fr_f_X7_takeNumber e1) (fun a k q => by unfold w1_f_X7_takeNumber at q; unfold w1_f_X9_readThing; rcases q with q | q | q; exact Or.inl (q); exact Or.inr (Or.inl (q)); exact Or.inr (Or.inr (Or.inl (q)))) (fun _ _ q => False.elim q))
  rcases fr_ite h2 with h4 | h4
  ·
    obtain ⟨q5, e5, h6⟩ := Option.bind_eq_some_iff.mp h4
    have f7 : Fr (w1_f_X9_readThing) (w2_f_X9_readThing) S q5 := f3.tr (Fr.mo (fr_f_X0_addThing e5) (fun a k q => by unfold w1_f_X0_addThing at q; unfold w1_f_X9_readThing; rcases q with q | q | q | q | q; exact Or.inr (Or.inr (Or.inr (Or.inl (q)))); exact Or.inr (Or.inr (Or.inr (Or.inr (Or.inl (q))))); exact Or.inr (Or.inr (Or.inr (Or.inr (Or.inr (Or.inl (q)))))); exact Or.inr (Or.inr (Or.inr (Or.inr (Or.inr (Or.inr (Or.inl (q))))))); exact Or.inr (Or.inr (Or.inr (Or.inr (Or.inr (Or.inr (Or.inr ((q))))))))) (fun a k q => by unfold w2_f_X0_addThing at q; unfold w2_f_X9_readThing; exact q))
    exact fr_e2 h6 f7
  ·
    exact fr_e2 h4 f3
def w1_j_X9_readClause_155 (a k : Nat) : Prop := (a = 1 ∧ k = 4)
def w2_j_X9_readClause_155 (a k : Nat) : Prop := False
theorem fr_j_X9_readClause_155 {S : fS} {r : Int32 × fS} (h : j_X9_readClause_155 S = some r) : Fr (w1_j_X9_readClause_155) (w2_j_X9_readClause_155) S r.2 := by
  unfold j_X9_readClause_155 at h
  obtain ⟨q11, e1, h2⟩ := Option.bind_eq_some_iff.mp h
  have f3 : Fr (w1_j_X9_readClause_155) (w2_j_X9_readClause_155) S q11.2 := (Fr.rf (S := S)).tr (Fr.mo (fr_f_X7_fail e1) (fun a k q => by unfold w1_f_X7_fail at q; unfold w1_j_X9_readClause_155; exact q) (fun _ _ q => False.elim q))
  obtain ⟨z14, e4, h5⟩ := Option.bind_eq_some_iff.mp h2
  exact fr_e2 h5 f3
def w1_j_X9_readClause_195 (a k : Nat) : Prop := False
def w2_j_X9_readClause_195 (a k : Nat) : Prop := False
theorem fr_j_X9_readClause_195 {s0 : Int32} {S : fS} {r : Int32 × fS} (h : j_X9_readClause_195 s0 S = some r) : Fr (w1_j_X9_readClause_195) (w2_j_X9_readClause_195) S r.2 := by
  unfold j_X9_readClause_195 at h
  obtain ⟨z25, e1, h2⟩ := Option.bind_eq_some_iff.mp h
  exact fr_e2 h2 (Fr.rf (S := S))
def w1_j_X9_readClause_142 (a k : Nat) : Prop := (a = 1 ∧ k = 2) ∨ (a = 1 ∧ k = 3) ∨ (a = 1 ∧ k = 4) ∨ (a = 24 ∧ k = 6) ∨ (a = 24 ∧ k = 7) ∨ a = 26 ∨ a = 27 ∨ a = 28 ∨ (a = 31 ∧ k = 5) ∨ a = 32 ∨ a = 33 ∨ a = 34 ∨ a = 35
def w2_j_X9_readClause_142 (a k : Nat) : Prop := a = 25 ∨ a = 29 ∨ a = 36
theorem fr_j_X9_readClause_142 {p1 : Int32} {p2 : Int32} {p3 : Int32} {s0 : Int32} {S : fS} {r : Int32 × fS} (h : j_X9_readClause_142 p1 p2 p3 s0 S = some r) : Fr (w1_j_X9_readClause_142) (w2_j_X9_readClause_142) S r.2 := by
  unfold j_X9_readClause_142 at h
  rcases fr_ite h with h1 | h1
  ·
    rcases fr_ite h1 with h2 | h2
    ·
      rcases fr_ite h2 with h3 | h3
      ·
        rcases fr_ite h3 with h4 | h4
        ·
          obtain ⟨q22, e5, h6⟩ := Option.bind_eq_some_iff.mp h4
          have f7 : Fr (w1_j_X9_readClause_142) (w2_j_X9_readClause_142) S q22.2 := (Fr.rf (S := S)).tr (Fr.mo (fr_f_X9_readThing e5) (fun a k q => by unfold w1_f_X9_readThing at q; unfold w1_j_X9_readClause_142; rcases q with q | q | q | q | q | q | q | q; exact Or.inl (q); exact Or.inr (Or.inl (q)); exact Or.inr (Or.inr (Or.inl (q))); exact Or.inr (Or.inr (Or.inr (Or.inr (Or.inr (Or.inr (Or.inr (Or.inr (Or.inl (q))))))))); exact Or.inr (Or.inr (Or.inr (Or.inr (Or.inr (Or.inr (Or.inr (Or.inr (Or.inr (Or.inl (q)))))))))); exact Or.inr (Or.inr (Or.inr (Or.inr (Or.inr (Or.inr (Or.inr (Or.inr (Or.inr (Or.inr (Or.inl (q))))))))))); exact Or.inr (Or.inr (Or.inr (Or.inr (Or.inr (Or.inr (Or.inr (Or.inr (Or.inr (Or.inr (Or.inr (Or.inl (q)))))))))))); exact Or.inr (Or.inr (Or.inr (Or.inr (Or.inr (Or.inr (Or.inr (Or.inr (Or.inr (Or.inr (Or.inr (Or.inr ((q)))))))))))))) (fun a k q => by unfold w2_f_X9_readThing at q; unfold w2_j_X9_readClause_142; exact Or.inr (Or.inr ((q)))))
          exact f7.tr (Fr.mo (fr_j_X9_readClause_195 h6) (fun _ _ q => False.elim q) (fun _ _ q => False.elim q))
        ·
          obtain ⟨q30, e8, h9⟩ := Option.bind_eq_some_iff.mp h4
          have f10 : Fr (w1_j_X9_readClause_142) (w2_j_X9_readClause_142) S q30.2 := (Fr.rf (S := S)).tr (Fr.mo (fr_f_X9_readStair e8) (fun a k q => by unfold w1_f_X9_readStair at q; unfold w1_j_X9_readClause_142; rcases q with q | q | q | q | q | q | q; exact Or.inl (q); exact Or.inr (Or.inl (q)); exact Or.inr (Or.inr (Or.inl (q))); exact Or.inr (Or.inr (Or.inr (Or.inr (Or.inl (q))))); exact Or.inr (Or.inr (Or.inr (Or.inr (Or.inr (Or.inl (q)))))); exact Or.inr (Or.inr (Or.inr (Or.inr (Or.inr (Or.inr (Or.inl (q))))))); exact Or.inr (Or.inr (Or.inr (Or.inr (Or.inr (Or.inr (Or.inr (Or.inl (q))))))))) (fun a k q => by unfold w2_f_X9_readStair at q; unfold w2_j_X9_readClause_142; exact Or.inr (Or.inl (q))))
          exact f10.tr (Fr.mo (fr_j_X9_readClause_195 h9) (fun _ _ q => False.elim q) (fun _ _ q => False.elim q))
      ·
        obtain ⟨q33, e11, h12⟩ := Option.bind_eq_some_iff.mp h3
        have f13 : Fr (w1_j_X9_readClause_142) (w2_j_X9_readClause_142) S q33.2 := (Fr.rf (S := S)).tr (Fr.mo (fr_f_X9_readFloor e11) (fun a k q => by unfold w1_f_X9_readFloor at q; unfold w1_j_X9_readClause_142; rcases q with q | q | q | q; exact Or.inl (q); exact Or.inr (Or.inl (q)); exact Or.inr (Or.inr (Or.inl (q))); exact Or.inr (Or.inr (Or.inr (Or.inl (q))))) (fun a k q => by unfold w2_f_X9_readFloor at q; unfold w2_j_X9_readClause_142; exact Or.inl (q)))
        obtain ⟨z36, e14, h15⟩ := Option.bind_eq_some_iff.mp h12
        exact fr_e2 h15 f13
    ·
      exact (Fr.rf (S := S)).tr (Fr.mo (fr_j_X9_readClause_155 h2) (fun a k q => by unfold w1_j_X9_readClause_155 at q; unfold w1_j_X9_readClause_142; exact Or.inr (Or.inr (Or.inl (q)))) (fun _ _ q => False.elim q))
  ·
    exact (Fr.rf (S := S)).tr (Fr.mo (fr_j_X9_readClause_155 h1) (fun a k q => by unfold w1_j_X9_readClause_155 at q; unfold w1_j_X9_readClause_142; exact Or.inr (Or.inr (Or.inl (q)))) (fun _ _ q => False.elim q))
def w1_j_X9_readClause_141 (a k : Nat) : Prop := (a = 1 ∧ k = 2) ∨ (a = 1 ∧ k = 3) ∨ (a = 1 ∧ k = 4) ∨ (a = 24 ∧ k = 6) ∨ (a = 24 ∧ k = 7) ∨ a = 26 ∨ a = 27 ∨ a = 28 ∨ (a = 31 ∧ k = 5) ∨ a = 32 ∨ a = 33 ∨ a = 34 ∨ a = 35
def w2_j_X9_readClause_141 (a k : Nat) : Prop := a = 25 ∨ a = 29 ∨ a = 36
theorem fr_j_X9_readClause_141 {p1 : Int32} {p2 : Int32} {p3 : Int32} {S : fS} {r : Int32 × fS} (h : j_X9_readClause_141 p1 p2 p3 S = some r) : Fr (w1_j_X9_readClause_141) (w2_j_X9_readClause_141) S r.2 := by
  unfold j_X9_readClause_141 at h
  exact (Fr.rf (S := S)).tr (Fr.mo (fr_j_X9_readClause_142 h) (fun a k q => by unfold w1_j_X9_readClause_142 at q; unfold w1_j_X9_readClause_141; rcases q with q | q | q | q | q | q | q | q | q | q | q | q | q; exact Or.inl (q); exact Or.inr (Or.inl (q)); exact Or.inr (Or.inr (Or.inl (q))); exact Or.inr (Or.inr (Or.inr (Or.inl (q)))); exact Or.inr (Or.inr (Or.inr (Or.inr (Or.inl (q))))); exact Or.inr (Or.inr (Or.inr (Or.inr (Or.inr (Or.inl (q)))))); exact Or.inr (Or.inr (Or.inr (Or.inr (Or.inr (Or.inr (Or.inl (q))))))); exact Or.inr (Or.inr (Or.inr (Or.inr (Or.inr (Or.inr (Or.inr (Or.inl (q)))))))); exact Or.inr (Or.inr (Or.inr (Or.inr (Or.inr (Or.inr (Or.inr (Or.inr (Or.inl (q))))))))); exact Or.inr (Or.inr (Or.inr (Or.inr (Or.inr (Or.inr (Or.inr (Or.inr (Or.inr (Or.inl (q)))))))))); exact Or.inr (Or.inr (Or.inr (Or.inr (Or.inr (Or.inr (Or.inr (Or.inr (Or.inr (Or.inr (Or.inl (q))))))))))); exact Or.inr (Or.inr (Or.inr (Or.inr (Or.inr (Or.inr (Or.inr (Or.inr (Or.inr (Or.inr (Or.inr (Or.inl (q)))))))))))); exact Or.inr (Or.inr (Or.inr (Or.inr (Or.inr (Or.inr (Or.inr (Or.inr (Or.inr (Or.inr (Or.inr (Or.inr ((q)))))))))))))) (fun a k q => by unfold w2_j_X9_readClause_142 at q; unfold w2_j_X9_readClause_141; rcases q with q | q | q; exact Or.inl (q); exact Or.inr (Or.inl (q)); exact Or.inr (Or.inr ((q)))))
def w1_j_X9_readClause_137 (a k : Nat) : Prop := (a = 1 ∧ k = 2) ∨ (a = 1 ∧ k = 3) ∨ (a = 1 ∧ k = 4) ∨ (a = 24 ∧ k = 6) ∨ (a = 24 ∧ k = 7) ∨ a = 26 ∨ a = 27 ∨ a = 28 ∨ (a = 31 ∧ k = 5) ∨ a = 32 ∨ a = 33 ∨ a = 34 ∨ a = 35
def w2_j_X9_readClause_137 (a k : Nat) : Prop := a = 25 ∨ a = 29 ∨ a = 36
theorem fr_j_X9_readClause_137 {p1 : Int32} {p2 : Int32} {p3 : Int32} {S : fS} {r : Int32 × fS} (h : j_X9_readClause_137 p1 p2 p3 S = some r) : Fr (w1_j_X9_readClause_137) (w2_j_X9_readClause_137) S r.2 := by
  unfold j_X9_readClause_137 at h
  exact (Fr.rf (S := S)).tr (Fr.mo (fr_j_X9_readClause_142 h) (fun a k q => by unfold w1_j_X9_readClause_142 at q; unfold w1_j_X9_readClause_137; rcases q with q | q | q | q | q | q | q | q | q | q | q | q | q; exact Or.inl (q); exact Or.inr (Or.inl (q)); exact Or.inr (Or.inr (Or.inl (q))); exact Or.inr (Or.inr (Or.inr (Or.inl (q)))); exact Or.inr (Or.inr (Or.inr (Or.inr (Or.inl (q))))); exact Or.inr (Or.inr (Or.inr (Or.inr (Or.inr (Or.inl (q)))))); exact Or.inr (Or.inr (Or.inr (Or.inr (Or.inr (Or.inr (Or.inl (q))))))); exact Or.inr (Or.inr (Or.inr (Or.inr (Or.inr (Or.inr (Or.inr (Or.inl (q)))))))); exact Or.inr (Or.inr (Or.inr (Or.inr (Or.inr (Or.inr (Or.inr (Or.inr (Or.inl (q))))))))); exact Or.inr (Or.inr (Or.inr (Or.inr (Or.inr (Or.inr (Or.inr (Or.inr (Or.inr (Or.inl (q)))))))))); exact Or.inr (Or.inr (Or.inr (Or.inr (Or.inr (Or.inr (Or.inr (Or.inr (Or.inr (Or.inr (Or.inl (q))))))))))); exact Or.inr (Or.inr (Or.inr (Or.inr (Or.inr (Or.inr (Or.inr (Or.inr (Or.inr (Or.inr (Or.inr (Or.inl (q)))))))))))); exact Or.inr (Or.inr (Or.inr (Or.inr (Or.inr (Or.inr (Or.inr (Or.inr (Or.inr (Or.inr (Or.inr (Or.inr ((q)))))))))))))) (fun a k q => by unfold w2_j_X9_readClause_142 at q; unfold w2_j_X9_readClause_137; rcases q with q | q | q; exact Or.inl (q); exact Or.inr (Or.inl (q)); exact Or.inr (Or.inr ((q)))))
def w1_j_X9_readClause_120 (a k : Nat) : Prop := (a = 1 ∧ k = 2) ∨ (a = 1 ∧ k = 3) ∨ (a = 1 ∧ k = 4) ∨ (a = 24 ∧ k = 6) ∨ (a = 24 ∧ k = 7) ∨ a = 26 ∨ a = 27 ∨ a = 28 ∨ (a = 31 ∧ k = 5) ∨ a = 32 ∨ a = 33 ∨ a = 34 ∨ a = 35
def w2_j_X9_readClause_120 (a k : Nat) : Prop := a = 25 ∨ a = 29 ∨ a = 36
theorem fr_j_X9_readClause_120 {p1 : Int32} {p2 : Int32} {p3 : Int32} {p4 : Int32} {S : fS} {r : Int32 × fS} (h : j_X9_readClause_120 p1 p2 p3 p4 S = some r) : Fr (w1_j_X9_readClause_120) (w2_j_X9_readClause_120) S r.2 := by
  unfold j_X9_readClause_120 at h
  rcases fr_ite h with h1 | h1
  ·
    exact (Fr.rf (S := S)).tr (Fr.mo (fr_j_X9_readClause_141 h1) (fun a k q => by unfold w1_j_X9_readClause_141 at q; unfold w1_j_X9_readClause_120; rcases q with q | q | q | q | q | q | q | q | q | q | q | q | q; exact Or.inl (q); exact Or.inr (Or.inl (q)); exact Or.inr (Or.inr (Or.inl (q))); exact Or.inr (Or.inr (Or.inr (Or.inl (q)))); exact Or.inr (Or.inr (Or.inr (Or.inr (Or.inl (q))))); exact Or.inr (Or.inr (Or.inr (Or.inr (Or.inr (Or.inl (q)))))); exact Or.inr (Or.inr (Or.inr (Or.inr (Or.inr (Or.inr (Or.inl (q))))))); exact Or.inr (Or.inr (Or.inr (Or.inr (Or.inr (Or.inr (Or.inr (Or.inl (q)))))))); exact Or.inr (Or.inr (Or.inr (Or.inr (Or.inr (Or.inr (Or.inr (Or.inr (Or.inl (q))))))))); exact Or.inr (Or.inr (Or.inr (Or.inr (Or.inr (Or.inr (Or.inr (Or.inr (Or.inr (Or.inl (q)))))))))); exact Or.inr (Or.inr (Or.inr (Or.inr (Or.inr (Or.inr (Or.inr (Or.inr (Or.inr (Or.inr (Or.inl (q))))))))))); exact Or.inr (Or.inr (Or.inr (Or.inr (Or.inr (Or.inr (Or.inr (Or.inr (Or.inr (Or.inr (Or.inr (Or.inl (q)))))))))))); exact Or.inr (Or.inr (Or.inr (Or.inr (Or.inr (Or.inr (Or.inr (Or.inr (Or.inr (Or.inr (Or.inr (Or.inr ((q)))))))))))))) (fun a k q => by unfold w2_j_X9_readClause_141 at q; unfold w2_j_X9_readClause_120; rcases q with q | q | q; exact Or.inl (q); exact Or.inr (Or.inl (q)); exact Or.inr (Or.inr ((q)))))
  ·
    rcases fr_ite h1 with h2 | h2
    ·
      exact (Fr.rf (S := S)).tr (Fr.mo (fr_j_X9_readClause_141 h2) (fun a k q => by unfold w1_j_X9_readClause_141 at q; unfold w1_j_X9_readClause_120; rcases q with q | q | q | q | q | q | q | q | q | q | q | q | q; exact Or.inl (q); exact Or.inr (Or.inl (q)); exact Or.inr (Or.inr (Or.inl (q))); exact Or.inr (Or.inr (Or.inr (Or.inl (q)))); exact Or.inr (Or.inr (Or.inr (Or.inr (Or.inl (q))))); exact Or.inr (Or.inr (Or.inr (Or.inr (Or.inr (Or.inl (q)))))); exact Or.inr (Or.inr (Or.inr (Or.inr (Or.inr (Or.inr (Or.inl (q))))))); exact Or.inr (Or.inr (Or.inr (Or.inr (Or.inr (Or.inr (Or.inr (Or.inl (q)))))))); exact Or.inr (Or.inr (Or.inr (Or.inr (Or.inr (Or.inr (Or.inr (Or.inr (Or.inl (q))))))))); exact Or.inr (Or.inr (Or.inr (Or.inr (Or.inr (Or.inr (Or.inr (Or.inr (Or.inr (Or.inl (q)))))))))); exact Or.inr (Or.inr (Or.inr (Or.inr (Or.inr (Or.inr (Or.inr (Or.inr (Or.inr (Or.inr (Or.inl (q))))))))))); exact Or.inr (Or.inr (Or.inr (Or.inr (Or.inr (Or.inr (Or.inr (Or.inr (Or.inr (Or.inr (Or.inr (Or.inl (q)))))))))))); exact Or.inr (Or.inr (Or.inr (Or.inr (Or.inr (Or.inr (Or.inr (Or.inr (Or.inr (Or.inr (Or.inr (Or.inr ((q)))))))))))))) (fun a k q => by unfold w2_j_X9_readClause_141 at q; unfold w2_j_X9_readClause_120; rcases q with q | q | q; exact Or.inl (q); exact Or.inr (Or.inl (q)); exact Or.inr (Or.inr ((q)))))
    ·
      exact (Fr.rf (S := S)).tr (Fr.mo (fr_j_X9_readClause_137 h2) (fun a k q => by unfold w1_j_X9_readClause_137 at q; unfold w1_j_X9_readClause_120; rcases q with q | q | q | q | q | q | q | q | q | q | q | q | q; exact Or.inl (q); exact Or.inr (Or.inl (q)); exact Or.inr (Or.inr (Or.inl (q))); exact Or.inr (Or.inr (Or.inr (Or.inl (q)))); exact Or.inr (Or.inr (Or.inr (Or.inr (Or.inl (q))))); exact Or.inr (Or.inr (Or.inr (Or.inr (Or.inr (Or.inl (q)))))); exact Or.inr (Or.inr (Or.inr (Or.inr (Or.inr (Or.inr (Or.inl (q))))))); exact Or.inr (Or.inr (Or.inr (Or.inr (Or.inr (Or.inr (Or.inr (Or.inl (q)))))))); exact Or.inr (Or.inr (Or.inr (Or.inr (Or.inr (Or.inr (Or.inr (Or.inr (Or.inl (q))))))))); exact Or.inr (Or.inr (Or.inr (Or.inr (Or.inr (Or.inr (Or.inr (Or.inr (Or.inr (Or.inl (q)))))))))); exact Or.inr (Or.inr (Or.inr (Or.inr (Or.inr (Or.inr (Or.inr (Or.inr (Or.inr (Or.inr (Or.inl (q))))))))))); exact Or.inr (Or.inr (Or.inr (Or.inr (Or.inr (Or.inr (Or.inr (Or.inr (Or.inr (Or.inr (Or.inr (Or.inl (q)))))))))))); exact Or.inr (Or.inr (Or.inr (Or.inr (Or.inr (Or.inr (Or.inr (Or.inr (Or.inr (Or.inr (Or.inr (Or.inr ((q)))))))))))))) (fun a k q => by unfold w2_j_X9_readClause_137 at q; unfold w2_j_X9_readClause_120; rcases q with q | q | q; exact Or.inl (q); exact Or.inr (Or.inl (q)); exact Or.inr (Or.inr ((q)))))
def w1_j_X9_readClause_104 (a k : Nat) : Prop := (a = 1 ∧ k = 2) ∨ (a = 1 ∧ k = 3) ∨ (a = 1 ∧ k = 4) ∨ (a = 24 ∧ k = 6) ∨ (a = 24 ∧ k = 7) ∨ a = 26 ∨ a = 27 ∨ a = 28 ∨ (a = 31 ∧ k = 5) ∨ a = 32 ∨ a = 33 ∨ a = 34 ∨ a = 35
def w2_j_X9_readClause_104 (a k : Nat) : Prop := a = 25 ∨ a = 29 ∨ a = 36
theorem fr_j_X9_readClause_104 {p1 : Int32} {p2 : Int32} {p3 : Int32} {p4 : Int32} {S : fS} {r : Int32 × fS} (h : j_X9_readClause_104 p1 p2 p3 p4 S = some r) : Fr (w1_j_X9_readClause_104) (w2_j_X9_readClause_104) S r.2 := by
  unfold j_X9_readClause_104 at h
  rcases fr_ite h with h1 | h1
  ·
    exact (Fr.rf (S := S)).tr (Fr.mo (fr_j_X9_readClause_120 h1) (fun a k q => by unfold w1_j_X9_readClause_120 at q; unfold w1_j_X9_readClause_104; rcases q with q | q | q | q | q | q | q | q | q | q | q | q | q; exact Or.inl (q); exact Or.inr (Or.inl (q)); exact Or.inr (Or.inr (Or.inl (q))); exact Or.inr (Or.inr (Or.inr (Or.inl (q)))); exact Or.inr (Or.inr (Or.inr (Or.inr (Or.inl (q))))); exact Or.inr (Or.inr (Or.inr (Or.inr (Or.inr (Or.inl (q)))))); exact Or.inr (Or.inr (Or.inr (Or.inr (Or.inr (Or.inr (Or.inl (q))))))); exact Or.inr (Or.inr (Or.inr (Or.inr (Or.inr (Or.inr (Or.inr (Or.inl (q)))))))); exact Or.inr (Or.inr (Or.inr (Or.inr (Or.inr (Or.inr (Or.inr (Or.inr (Or.inl (q))))))))); exact Or.inr (Or.inr (Or.inr (Or.inr (Or.inr (Or.inr (Or.inr (Or.inr (Or.inr (Or.inl (q)))))))))); exact Or.inr (Or.inr (Or.inr (Or.inr (Or.inr (Or.inr (Or.inr (Or.inr (Or.inr (Or.inr (Or.inl (q))))))))))); exact Or.inr (Or.inr (Or.inr (Or.inr (Or.inr (Or.inr (Or.inr (Or.inr (Or.inr (Or.inr (Or.inr (Or.inl (q)))))))))))); exact Or.inr (Or.inr (Or.inr (Or.inr (Or.inr (Or.inr (Or.inr (Or.inr (Or.inr (Or.inr (Or.inr (Or.inr ((q)))))))))))))) (fun a k q => by unfold w2_j_X9_readClause_120 at q; unfold w2_j_X9_readClause_104; rcases q with q | q | q; exact Or.inl (q); exact Or.inr (Or.inl (q)); exact Or.inr (Or.inr ((q)))))
  ·
    rcases fr_ite h1 with h2 | h2
    ·
      exact (Fr.rf (S := S)).tr (Fr.mo (fr_j_X9_readClause_137 h2) (fun a k q => by unfold w1_j_X9_readClause_137 at q; unfold w1_j_X9_readClause_104; rcases q with q | q | q | q | q | q | q | q | q | q | q | q | q; exact Or.inl (q); exact Or.inr (Or.inl (q)); exact Or.inr (Or.inr (Or.inl (q))); exact Or.inr (Or.inr (Or.inr (Or.inl (q)))); exact Or.inr (Or.inr (Or.inr (Or.inr (Or.inl (q))))); exact Or.inr (Or.inr (Or.inr (Or.inr (Or.inr (Or.inl (q)))))); exact Or.inr (Or.inr (Or.inr (Or.inr (Or.inr (Or.inr (Or.inl (q))))))); exact Or.inr (Or.inr (Or.inr (Or.inr (Or.inr (Or.inr (Or.inr (Or.inl (q)))))))); exact Or.inr (Or.inr (Or.inr (Or.inr (Or.inr (Or.inr (Or.inr (Or.inr (Or.inl (q))))))))); exact Or.inr (Or.inr (Or.inr (Or.inr (Or.inr (Or.inr (Or.inr (Or.inr (Or.inr (Or.inl (q)))))))))); exact Or.inr (Or.inr (Or.inr (Or.inr (Or.inr (Or.inr (Or.inr (Or.inr (Or.inr (Or.inr (Or.inl (q))))))))))); exact Or.inr (Or.inr (Or.inr (Or.inr (Or.inr (Or.inr (Or.inr (Or.inr (Or.inr (Or.inr (Or.inr (Or.inl (q)))))))))))); exact Or.inr (Or.inr (Or.inr (Or.inr (Or.inr (Or.inr (Or.inr (Or.inr (Or.inr (Or.inr (Or.inr (Or.inr ((q)))))))))))))) (fun a k q => by unfold w2_j_X9_readClause_137 at q; unfold w2_j_X9_readClause_104; rcases q with q | q | q; exact Or.inl (q); exact Or.inr (Or.inl (q)); exact Or.inr (Or.inr ((q)))))
    ·
      exact (Fr.rf (S := S)).tr (Fr.mo (fr_j_X9_readClause_120 h2) (fun a k q => by unfold w1_j_X9_readClause_120 at q; unfold w1_j_X9_readClause_104; rcases q with q | q | q | q | q | q | q | q | q | q | q | q | q; exact Or.inl (q); exact Or.inr (Or.inl (q)); exact Or.inr (Or.inr (Or.inl (q))); exact Or.inr (Or.inr (Or.inr (Or.inl (q)))); exact Or.inr (Or.inr (Or.inr (Or.inr (Or.inl (q))))); exact Or.inr (Or.inr (Or.inr (Or.inr (Or.inr (Or.inl (q)))))); exact Or.inr (Or.inr (Or.inr (Or.inr (Or.inr (Or.inr (Or.inl (q))))))); exact Or.inr (Or.inr (Or.inr (Or.inr (Or.inr (Or.inr (Or.inr (Or.inl (q)))))))); exact Or.inr (Or.inr (Or.inr (Or.inr (Or.inr (Or.inr (Or.inr (Or.inr (Or.inl (q))))))))); exact Or.inr (Or.inr (Or.inr (Or.inr (Or.inr (Or.inr (Or.inr (Or.inr (Or.inr (Or.inl (q)))))))))); exact Or.inr (Or.inr (Or.inr (Or.inr (Or.inr (Or.inr (Or.inr (Or.inr (Or.inr (Or.inr (Or.inl (q))))))))))); exact Or.inr (Or.inr (Or.inr (Or.inr (Or.inr (Or.inr (Or.inr (Or.inr (Or.inr (Or.inr (Or.inr (Or.inl (q)))))))))))); exact Or.inr (Or.inr (Or.inr (Or.inr (Or.inr (Or.inr (Or.inr (Or.inr (Or.inr (Or.inr (Or.inr (Or.inr ((q)))))))))))))) (fun a k q => by unfold w2_j_X9_readClause_120 at q; unfold w2_j_X9_readClause_104; rcases q with q | q | q; exact Or.inl (q); exact Or.inr (Or.inl (q)); exact Or.inr (Or.inr ((q)))))
def w1_j_X9_readClause_88 (a k : Nat) : Prop := (a = 1 ∧ k = 2) ∨ (a = 1 ∧ k = 3) ∨ (a = 1 ∧ k = 4) ∨ (a = 24 ∧ k = 6) ∨ (a = 24 ∧ k = 7) ∨ a = 26 ∨ a = 27 ∨ a = 28 ∨ (a = 31 ∧ k = 5) ∨ a = 32 ∨ a = 33 ∨ a = 34 ∨ a = 35
def w2_j_X9_readClause_88 (a k : Nat) : Prop := a = 25 ∨ a = 29 ∨ a = 36
theorem fr_j_X9_readClause_88 {p1 : Int32} {p2 : Int32} {p3 : Int32} {p4 : Int32} {S : fS} {r : Int32 × fS} (h : j_X9_readClause_88 p1 p2 p3 p4 S = some r) : Fr (w1_j_X9_readClause_88) (w2_j_X9_readClause_88) S r.2 := by
  unfold j_X9_readClause_88 at h
  rcases fr_ite h with h1 | h1
  ·
    exact (Fr.rf (S := S)).tr (Fr.mo (fr_j_X9_readClause_104 h1) (fun a k q => by unfold w1_j_X9_readClause_104 at q; unfold w1_j_X9_readClause_88; rcases q with q | q | q | q | q | q | q | q | q | q | q | q | q; exact Or.inl (q); exact Or.inr (Or.inl (q)); exact Or.inr (Or.inr (Or.inl (q))); exact Or.inr (Or.inr (Or.inr (Or.inl (q)))); exact Or.inr (Or.inr (Or.inr (Or.inr (Or.inl (q))))); exact Or.inr (Or.inr (Or.inr (Or.inr (Or.inr (Or.inl (q)))))); exact Or.inr (Or.inr (Or.inr (Or.inr (Or.inr (Or.inr (Or.inl (q))))))); exact Or.inr (Or.inr (Or.inr (Or.inr (Or.inr (Or.inr (Or.inr (Or.inl (q)))))))); exact Or.inr (Or.inr (Or.inr (Or.inr (Or.inr (Or.inr (Or.inr (Or.inr (Or.inl (q))))))))); exact Or.inr (Or.inr (Or.inr (Or.inr (Or.inr (Or.inr (Or.inr (Or.inr (Or.inr (Or.inl (q)))))))))); exact Or.inr (Or.inr (Or.inr (Or.inr (Or.inr (Or.inr (Or.inr (Or.inr (Or.inr (Or.inr (Or.inl (q))))))))))); exact Or.inr (Or.inr (Or.inr (Or.inr (Or.inr (Or.inr (Or.inr (Or.inr (Or.inr (Or.inr (Or.inr (Or.inl (q)))))))))))); exact Or.inr (Or.inr (Or.inr (Or.inr (Or.inr (Or.inr (Or.inr (Or.inr (Or.inr (Or.inr (Or.inr (Or.inr ((q)))))))))))))) (fun a k q => by unfold w2_j_X9_readClause_104 at q; unfold w2_j_X9_readClause_88; rcases q with q | q | q; exact Or.inl (q); exact Or.inr (Or.inl (q)); exact Or.inr (Or.inr ((q)))))
  ·
    rcases fr_ite h1 with h2 | h2
    ·
      exact (Fr.rf (S := S)).tr (Fr.mo (fr_j_X9_readClause_137 h2) (fun a k q => by unfold w1_j_X9_readClause_137 at q; unfold w1_j_X9_readClause_88; rcases q with q | q | q | q | q | q | q | q | q | q | q | q | q; exact Or.inl (q); exact Or.inr (Or.inl (q)); exact Or.inr (Or.inr (Or.inl (q))); exact Or.inr (Or.inr (Or.inr (Or.inl (q)))); exact Or.inr (Or.inr (Or.inr (Or.inr (Or.inl (q))))); exact Or.inr (Or.inr (Or.inr (Or.inr (Or.inr (Or.inl (q)))))); exact Or.inr (Or.inr (Or.inr (Or.inr (Or.inr (Or.inr (Or.inl (q))))))); exact Or.inr (Or.inr (Or.inr (Or.inr (Or.inr (Or.inr (Or.inr (Or.inl (q)))))))); exact Or.inr (Or.inr (Or.inr (Or.inr (Or.inr (Or.inr (Or.inr (Or.inr (Or.inl (q))))))))); exact Or.inr (Or.inr (Or.inr (Or.inr (Or.inr (Or.inr (Or.inr (Or.inr (Or.inr (Or.inl (q)))))))))); exact Or.inr (Or.inr (Or.inr (Or.inr (Or.inr (Or.inr (Or.inr (Or.inr (Or.inr (Or.inr (Or.inl (q))))))))))); exact Or.inr (Or.inr (Or.inr (Or.inr (Or.inr (Or.inr (Or.inr (Or.inr (Or.inr (Or.inr (Or.inr (Or.inl (q)))))))))))); exact Or.inr (Or.inr (Or.inr (Or.inr (Or.inr (Or.inr (Or.inr (Or.inr (Or.inr (Or.inr (Or.inr (Or.inr ((q)))))))))))))) (fun a k q => by unfold w2_j_X9_readClause_137 at q; unfold w2_j_X9_readClause_88; rcases q with q | q | q; exact Or.inl (q); exact Or.inr (Or.inl (q)); exact Or.inr (Or.inr ((q)))))
    ·
      exact (Fr.rf (S := S)).tr (Fr.mo (fr_j_X9_readClause_104 h2) (fun a k q => by unfold w1_j_X9_readClause_104 at q; unfold w1_j_X9_readClause_88; rcases q with q | q | q | q | q | q | q | q | q | q | q | q | q; exact Or.inl (q); exact Or.inr (Or.inl (q)); exact Or.inr (Or.inr (Or.inl (q))); exact Or.inr (Or.inr (Or.inr (Or.inl (q)))); exact Or.inr (Or.inr (Or.inr (Or.inr (Or.inl (q))))); exact Or.inr (Or.inr (Or.inr (Or.inr (Or.inr (Or.inl (q)))))); exact Or.inr (Or.inr (Or.inr (Or.inr (Or.inr (Or.inr (Or.inl (q))))))); exact Or.inr (Or.inr (Or.inr (Or.inr (Or.inr (Or.inr (Or.inr (Or.inl (q)))))))); exact Or.inr (Or.inr (Or.inr (Or.inr (Or.inr (Or.inr (Or.inr (Or.inr (Or.inl (q))))))))); exact Or.inr (Or.inr (Or.inr (Or.inr (Or.inr (Or.inr (Or.inr (Or.inr (Or.inr (Or.inl (q)))))))))); exact Or.inr (Or.inr (Or.inr (Or.inr (Or.inr (Or.inr (Or.inr (Or.inr (Or.inr (Or.inr (Or.inl (q))))))))))); exact Or.inr (Or.inr (Or.inr (Or.inr (Or.inr (Or.inr (Or.inr (Or.inr (Or.inr (Or.inr (Or.inr (Or.inl (q)))))))))))); exact Or.inr (Or.inr (Or.inr (Or.inr (Or.inr (Or.inr (Or.inr (Or.inr (Or.inr (Or.inr (Or.inr (Or.inr ((q)))))))))))))) (fun a k q => by unfold w2_j_X9_readClause_104 at q; unfold w2_j_X9_readClause_88; rcases q with q | q | q; exact Or.inl (q); exact Or.inr (Or.inl (q)); exact Or.inr (Or.inr ((q)))))
def w1_j_X9_readClause_57 (a k : Nat) : Prop := (a = 1 ∧ k = 2) ∨ (a = 1 ∧ k = 3) ∨ (a = 1 ∧ k = 4) ∨ (a = 24 ∧ k = 6) ∨ (a = 24 ∧ k = 7) ∨ a = 26 ∨ a = 27 ∨ a = 28 ∨ (a = 31 ∧ k = 5) ∨ a = 32 ∨ a = 33 ∨ a = 34 ∨ a = 35
def w2_j_X9_readClause_57 (a k : Nat) : Prop := a = 25 ∨ a = 29 ∨ a = 36
theorem fr_j_X9_readClause_57 {p1 : Int32} {p2 : Int32} {p3 : Int32} {s0 : Int32} {S : fS} {r : Int32 × fS} (h : j_X9_readClause_57 p1 p2 p3 s0 S = some r) : Fr (w1_j_X9_readClause_57) (w2_j_X9_readClause_57) S r.2 := by
  unfold j_X9_readClause_57 at h
  rcases fr_ite h with h1 | h1
  ·
    rcases fr_ite h1 with h2 | h2
    ·
      rcases fr_ite h2 with h3 | h3
      ·
        obtain ⟨q46, e4, h5⟩ := Option.bind_eq_some_iff.mp h3
        have f6 : Fr (w1_j_X9_readClause_57) (w2_j_X9_readClause_57) S q46.2 := (Fr.rf (S := S)).tr (Fr.mo (fr_f_X7_fail e4) (fun a k q => by unfold w1_f_X7_fail at q; unfold w1_j_X9_readClause_57; exact Or.inr (Or.inr (Or.inl (q)))) (fun _ _ q => False.elim q))
        obtain ⟨z49, e7, h8⟩ := Option.bind_eq_some_iff.mp h5
        exact fr_e2 h8 f6
      ·
        exact (Fr.rf (S := S)).tr (Fr.mo (fr_j_X9_readClause_88 h3) (fun a k q => by unfold w1_j_X9_readClause_88 at q; unfold w1_j_X9_readClause_57; rcases q with q | q | q | q | q | q | q | q | q | q | q | q | q; exact Or.inl (q); exact Or.inr (Or.inl (q)); exact Or.inr (Or.inr (Or.inl (q))); exact Or.inr (Or.inr (Or.inr (Or.inl (q)))); exact Or.inr (Or.inr (Or.inr (Or.inr (Or.inl (q))))); exact Or.inr (Or.inr (Or.inr (Or.inr (Or.inr (Or.inl (q)))))); exact Or.inr (Or.inr (Or.inr (Or.inr (Or.inr (Or.inr (Or.inl (q))))))); exact Or.inr (Or.inr (Or.inr (Or.inr (Or.inr (Or.inr (Or.inr (Or.inl (q)))))))); exact Or.inr (Or.inr (Or.inr (Or.inr (Or.inr (Or.inr (Or.inr (Or.inr (Or.inl (q))))))))); exact Or.inr (Or.inr (Or.inr (Or.inr (Or.inr (Or.inr (Or.inr (Or.inr (Or.inr (Or.inl (q)))))))))); exact Or.inr (Or.inr (Or.inr (Or.inr (Or.inr (Or.inr (Or.inr (Or.inr (Or.inr (Or.inr (Or.inl (q))))))))))); exact Or.inr (Or.inr (Or.inr (Or.inr (Or.inr (Or.inr (Or.inr (Or.inr (Or.inr (Or.inr (Or.inr (Or.inl (q)))))))))))); exact Or.inr (Or.inr (Or.inr (Or.inr (Or.inr (Or.inr (Or.inr (Or.inr (Or.inr (Or.inr (Or.inr (Or.inr ((q)))))))))))))) (fun a k q => by unfold w2_j_X9_readClause_88 at q; unfold w2_j_X9_readClause_57; rcases q with q | q | q; exact Or.inl (q); exact Or.inr (Or.inl (q)); exact Or.inr (Or.inr ((q)))))
    ·
      exact (Fr.rf (S := S)).tr (Fr.mo (fr_j_X9_readClause_88 h2) (fun a k q => by unfold w1_j_X9_readClause_88 at q; unfold w1_j_X9_readClause_57; rcases q with q | q | q | q | q | q | q | q | q | q | q | q | q; exact Or.inl (q); exact Or.inr (Or.inl (q)); exact Or.inr (Or.inr (Or.inl (q))); exact Or.inr (Or.inr (Or.inr (Or.inl (q)))); exact Or.inr (Or.inr (Or.inr (Or.inr (Or.inl (q))))); exact Or.inr (Or.inr (Or.inr (Or.inr (Or.inr (Or.inl (q)))))); exact Or.inr (Or.inr (Or.inr (Or.inr (Or.inr (Or.inr (Or.inl (q))))))); exact Or.inr (Or.inr (Or.inr (Or.inr (Or.inr (Or.inr (Or.inr (Or.inl (q)))))))); exact Or.inr (Or.inr (Or.inr (Or.inr (Or.inr (Or.inr (Or.inr (Or.inr (Or.inl (q))))))))); exact Or.inr (Or.inr (Or.inr (Or.inr (Or.inr (Or.inr (Or.inr (Or.inr (Or.inr (Or.inl (q)))))))))); exact Or.inr (Or.inr (Or.inr (Or.inr (Or.inr (Or.inr (Or.inr (Or.inr (Or.inr (Or.inr (Or.inl (q))))))))))); exact Or.inr (Or.inr (Or.inr (Or.inr (Or.inr (Or.inr (Or.inr (Or.inr (Or.inr (Or.inr (Or.inr (Or.inl (q)))))))))))); exact Or.inr (Or.inr (Or.inr (Or.inr (Or.inr (Or.inr (Or.inr (Or.inr (Or.inr (Or.inr (Or.inr (Or.inr ((q)))))))))))))) (fun a k q => by unfold w2_j_X9_readClause_88 at q; unfold w2_j_X9_readClause_57; rcases q with q | q | q; exact Or.inl (q); exact Or.inr (Or.inl (q)); exact Or.inr (Or.inr ((q)))))
  ·
    exact (Fr.rf (S := S)).tr (Fr.mo (fr_j_X9_readClause_88 h1) (fun a k q => by unfold w1_j_X9_readClause_88 at q; unfold w1_j_X9_readClause_57; rcases q with q | q | q | q | q | q | q | q | q | q | q | q | q; exact Or.inl (q); exact Or.inr (Or.inl (q)); exact Or.inr (Or.inr (Or.inl (q))); exact Or.inr (Or.inr (Or.inr (Or.inl (q)))); exact Or.inr (Or.inr (Or.inr (Or.inr (Or.inl (q))))); exact Or.inr (Or.inr (Or.inr (Or.inr (Or.inr (Or.inl (q)))))); exact Or.inr (Or.inr (Or.inr (Or.inr (Or.inr (Or.inr (Or.inl (q))))))); exact Or.inr (Or.inr (Or.inr (Or.inr (Or.inr (Or.inr (Or.inr (Or.inl (q)))))))); exact Or.inr (Or.inr (Or.inr (Or.inr (Or.inr (Or.inr (Or.inr (Or.inr (Or.inl (q))))))))); exact Or.inr (Or.inr (Or.inr (Or.inr (Or.inr (Or.inr (Or.inr (Or.inr (Or.inr (Or.inl (q)))))))))); exact Or.inr (Or.inr (Or.inr (Or.inr (Or.inr (Or.inr (Or.inr (Or.inr (Or.inr (Or.inr (Or.inl (q))))))))))); exact Or.inr (Or.inr (Or.inr (Or.inr (Or.inr (Or.inr (Or.inr (Or.inr (Or.inr (Or.inr (Or.inr (Or.inl (q)))))))))))); exact Or.inr (Or.inr (Or.inr (Or.inr (Or.inr (Or.inr (Or.inr (Or.inr (Or.inr (Or.inr (Or.inr (Or.inr ((q)))))))))))))) (fun a k q => by unfold w2_j_X9_readClause_88 at q; unfold w2_j_X9_readClause_57; rcases q with q | q | q; exact Or.inl (q); exact Or.inr (Or.inl (q)); exact Or.inr (Or.inr ((q)))))
def w1_j_X9_readClause_56 (a k : Nat) : Prop := (a = 1 ∧ k = 2) ∨ (a = 1 ∧ k = 3) ∨ (a = 1 ∧ k = 4) ∨ (a = 24 ∧ k = 6) ∨ (a = 24 ∧ k = 7) ∨ a = 26 ∨ a = 27 ∨ a = 28 ∨ (a = 31 ∧ k = 5) ∨ a = 32 ∨ a = 33 ∨ a = 34 ∨ a = 35
def w2_j_X9_readClause_56 (a k : Nat) : Prop := a = 25 ∨ a = 29 ∨ a = 36
theorem fr_j_X9_readClause_56 {p1 : Int32} {p2 : Int32} {p3 : Int32} {S : fS} {r : Int32 × fS} (h : j_X9_readClause_56 p1 p2 p3 S = some r) : Fr (w1_j_X9_readClause_56) (w2_j_X9_readClause_56) S r.2 := by
  unfold j_X9_readClause_56 at h
  exact (Fr.rf (S := S)).tr (Fr.mo (fr_j_X9_readClause_57 h) (fun a k q => by unfold w1_j_X9_readClause_57 at q; unfold w1_j_X9_readClause_56; rcases q with q | q | q | q | q | q | q | q | q | q | q | q | q; exact Or.inl (q); exact Or.inr (Or.inl (q)); exact Or.inr (Or.inr (Or.inl (q))); exact Or.inr (Or.inr (Or.inr (Or.inl (q)))); exact Or.inr (Or.inr (Or.inr (Or.inr (Or.inl (q))))); exact Or.inr (Or.inr (Or.inr (Or.inr (Or.inr (Or.inl (q)))))); exact Or.inr (Or.inr (Or.inr (Or.inr (Or.inr (Or.inr (Or.inl (q))))))); exact Or.inr (Or.inr (Or.inr (Or.inr (Or.inr (Or.inr (Or.inr (Or.inl (q)))))))); exact Or.inr (Or.inr (Or.inr (Or.inr (Or.inr (Or.inr (Or.inr (Or.inr (Or.inl (q))))))))); exact Or.inr (Or.inr (Or.inr (Or.inr (Or.inr (Or.inr (Or.inr (Or.inr (Or.inr (Or.inl (q)))))))))); exact Or.inr (Or.inr (Or.inr (Or.inr (Or.inr (Or.inr (Or.inr (Or.inr (Or.inr (Or.inr (Or.inl (q))))))))))); exact Or.inr (Or.inr (Or.inr (Or.inr (Or.inr (Or.inr (Or.inr (Or.inr (Or.inr (Or.inr (Or.inr (Or.inl (q)))))))))))); exact Or.inr (Or.inr (Or.inr (Or.inr (Or.inr (Or.inr (Or.inr (Or.inr (Or.inr (Or.inr (Or.inr (Or.inr ((q)))))))))))))) (fun a k q => by unfold w2_j_X9_readClause_57 at q; unfold w2_j_X9_readClause_56; rcases q with q | q | q; exact Or.inl (q); exact Or.inr (Or.inl (q)); exact Or.inr (Or.inr ((q)))))
def w1_j_X9_readClause_31 (a k : Nat) : Prop := (a = 1 ∧ k = 2) ∨ (a = 1 ∧ k = 3) ∨ (a = 1 ∧ k = 4) ∨ (a = 24 ∧ k = 6) ∨ (a = 24 ∧ k = 7) ∨ a = 26 ∨ a = 27 ∨ a = 28 ∨ (a = 31 ∧ k = 5) ∨ a = 32 ∨ a = 33 ∨ a = 34 ∨ a = 35
def w2_j_X9_readClause_31 (a k : Nat) : Prop := a = 25 ∨ a = 29 ∨ a = 36
theorem fr_j_X9_readClause_31 {p1 : Int32} {p2 : Int32} {s0 : Int32} {S : fS} {r : Int32 × fS} (h : j_X9_readClause_31 p1 p2 s0 S = some r) : Fr (w1_j_X9_readClause_31) (w2_j_X9_readClause_31) S r.2 := by
  unfold j_X9_readClause_31 at h
  rcases fr_ite h with h1 | h1
  ·
    rcases fr_ite h1 with h2 | h2
    ·
      obtain ⟨q55, e3, h4⟩ := Option.bind_eq_some_iff.mp h2
      have f5 : Fr (w1_j_X9_readClause_31) (w2_j_X9_readClause_31) S q55.2 := (Fr.rf (S := S)).tr (Fr.mo (fr_f_X7_takeWord e3) (fun a k q => by unfold w1_f_X7_takeWord at q; unfold w1_j_X9_readClause_31; rcases q with q | q; exact Or.inl (q); exact Or.inr (Or.inl (q))) (fun _ _ q => False.elim q))
      rcases fr_ite h4 with h6 | h6
      ·
        exact f5.tr (Fr.mo (fr_j_X9_readClause_56 h6) (fun a k q => by unfold w1_j_X9_readClause_56 at q; unfold w1_j_X9_readClause_31; rcases q with q | q | q | q | q | q | q | q | q | q | q | q | q; exact Or.inl (q); exact Or.inr (Or.inl (q)); exact Or.inr (Or.inr (Or.inl (q))); exact Or.inr (Or.inr (Or.inr (Or.inl (q)))); exact Or.inr (Or.inr (Or.inr (Or.inr (Or.inl (q))))); exact Or.inr (Or.inr (Or.inr (Or.inr (Or.inr (Or.inl (q)))))); exact Or.inr (Or.inr (Or.inr (Or.inr (Or.inr (Or.inr (Or.inl (q))))))); exact Or.inr (Or.inr (Or.inr (Or.inr (Or.inr (Or.inr (Or.inr (Or.inl (q)))))))); exact Or.inr (Or.inr (Or.inr (Or.inr (Or.inr (Or.inr (Or.inr (Or.inr (Or.inl (q))))))))); exact Or.inr (Or.inr (Or.inr (Or.inr (Or.inr (Or.inr (Or.inr (Or.inr (Or.inr (Or.inl (q)))))))))); exact Or.inr (Or.inr (Or.inr (Or.inr (Or.inr (Or.inr (Or.inr (Or.inr (Or.inr (Or.inr (Or.inl (q))))))))))); exact Or.inr (Or.inr (Or.inr (Or.inr (Or.inr (Or.inr (Or.inr (Or.inr (Or.inr (Or.inr (Or.inr (Or.inl (q)))))))))))); exact Or.inr (Or.inr (Or.inr (Or.inr (Or.inr (Or.inr (Or.inr (Or.inr (Or.inr (Or.inr (Or.inr (Or.inr ((q)))))))))))))) (fun a k q => by unfold w2_j_X9_readClause_56 at q; unfold w2_j_X9_readClause_31; rcases q with q | q | q; exact Or.inl (q); exact Or.inr (Or.inl (q)); exact Or.inr (Or.inr ((q)))))
      ·
        exact f5.tr (Fr.mo (fr_j_X9_readClause_57 h6) (fun a k q => by unfold w1_j_X9_readClause_57 at q; unfold w1_j_X9_readClause_31; rcases q with q | q | q | q | q | q | q | q | q | q | q | q | q; exact Or.inl (q); exact Or.inr (Or.inl (q)); exact Or.inr (Or.inr (Or.inl (q))); exact Or.inr (Or.inr (Or.inr (Or.inl (q)))); exact Or.inr (Or.inr (Or.inr (Or.inr (Or.inl (q))))); exact Or.inr (Or.inr (Or.inr (Or.inr (Or.inr (Or.inl (q)))))); exact Or.inr (Or.inr (Or.inr (Or.inr (Or.inr (Or.inr (Or.inl (q))))))); exact Or.inr (Or.inr (Or.inr (Or.inr (Or.inr (Or.inr (Or.inr (Or.inl (q)))))))); exact Or.inr (Or.inr (Or.inr (Or.inr (Or.inr (Or.inr (Or.inr (Or.inr (Or.inl (q))))))))); exact Or.inr (Or.inr (Or.inr (Or.inr (Or.inr (Or.inr (Or.inr (Or.inr (Or.inr (Or.inl (q)))))))))); exact Or.inr (Or.inr (Or.inr (Or.inr (Or.inr (Or.inr (Or.inr (Or.inr (Or.inr (Or.inr (Or.inl (q))))))))))); exact Or.inr (Or.inr (Or.inr (Or.inr (Or.inr (Or.inr (Or.inr (Or.inr (Or.inr (Or.inr (Or.inr (Or.inl (q)))))))))))); exact Or.inr (Or.inr (Or.inr (Or.inr (Or.inr (Or.inr (Or.inr (Or.inr (Or.inr (Or.inr (Or.inr (Or.inr ((q)))))))))))))) (fun a k q => by unfold w2_j_X9_readClause_57 at q; unfold w2_j_X9_readClause_31; rcases q with q | q | q; exact Or.inl (q); exact Or.inr (Or.inl (q)); exact Or.inr (Or.inr ((q)))))
    ·
      exact (Fr.rf (S := S)).tr (Fr.mo (fr_j_X9_readClause_56 h2) (fun a k q => by unfold w1_j_X9_readClause_56 at q; unfold w1_j_X9_readClause_31; rcases q with q | q | q | q | q | q | q | q | q | q | q | q | q; exact Or.inl (q); exact Or.inr (Or.inl (q)); exact Or.inr (Or.inr (Or.inl (q))); exact Or.inr (Or.inr (Or.inr (Or.inl (q)))); exact Or.inr (Or.inr (Or.inr (Or.inr (Or.inl (q))))); exact Or.inr (Or.inr (Or.inr (Or.inr (Or.inr (Or.inl (q)))))); exact Or.inr (Or.inr (Or.inr (Or.inr (Or.inr (Or.inr (Or.inl (q))))))); exact Or.inr (Or.inr (Or.inr (Or.inr (Or.inr (Or.inr (Or.inr (Or.inl (q)))))))); exact Or.inr (Or.inr (Or.inr (Or.inr (Or.inr (Or.inr (Or.inr (Or.inr (Or.inl (q))))))))); exact Or.inr (Or.inr (Or.inr (Or.inr (Or.inr (Or.inr (Or.inr (Or.inr (Or.inr (Or.inl (q)))))))))); exact Or.inr (Or.inr (Or.inr (Or.inr (Or.inr (Or.inr (Or.inr (Or.inr (Or.inr (Or.inr (Or.inl (q))))))))))); exact Or.inr (Or.inr (Or.inr (Or.inr (Or.inr (Or.inr (Or.inr (Or.inr (Or.inr (Or.inr (Or.inr (Or.inl (q)))))))))))); exact Or.inr (Or.inr (Or.inr (Or.inr (Or.inr (Or.inr (Or.inr (Or.inr (Or.inr (Or.inr (Or.inr (Or.inr ((q)))))))))))))) (fun a k q => by unfold w2_j_X9_readClause_56 at q; unfold w2_j_X9_readClause_31; rcases q with q | q | q; exact Or.inl (q); exact Or.inr (Or.inl (q)); exact Or.inr (Or.inr ((q)))))
  ·
    exact (Fr.rf (S := S)).tr (Fr.mo (fr_j_X9_readClause_56 h1) (fun a k q => by unfold w1_j_X9_readClause_56 at q; unfold w1_j_X9_readClause_31; rcases q with q | q | q | q | q | q | q | q | q | q | q | q | q; exact Or.inl (q); exact Or.inr (Or.inl (q)); exact Or.inr (Or.inr (Or.inl (q))); exact Or.inr (Or.inr (Or.inr (Or.inl (q)))); exact Or.inr (Or.inr (Or.inr (Or.inr (Or.inl (q))))); exact Or.inr (Or.inr (Or.inr (Or.inr (Or.inr (Or.inl (q)))))); exact Or.inr (Or.inr (Or.inr (Or.inr (Or.inr (Or.inr (Or.inl (q))))))); exact Or.inr (Or.inr (Or.inr (Or.inr (Or.inr (Or.inr (Or.inr (Or.inl (q)))))))); exact Or.inr (Or.inr (Or.inr (Or.inr (Or.inr (Or.inr (Or.inr (Or.inr (Or.inl (q))))))))); exact Or.inr (Or.inr (Or.inr (Or.inr (Or.inr (Or.inr (Or.inr (Or.inr (Or.inr (Or.inl (q)))))))))); exact Or.inr (Or.inr (Or.inr (Or.inr (Or.inr (Or.inr (Or.inr (Or.inr (Or.inr (Or.inr (Or.inl (q))))))))))); exact Or.inr (Or.inr (Or.inr (Or.inr (Or.inr (Or.inr (Or.inr (Or.inr (Or.inr (Or.inr (Or.inr (Or.inl (q)))))))))))); exact Or.inr (Or.inr (Or.inr (Or.inr (Or.inr (Or.inr (Or.inr (Or.inr (Or.inr (Or.inr (Or.inr (Or.inr ((q)))))))))))))) (fun a k q => by unfold w2_j_X9_readClause_56 at q; unfold w2_j_X9_readClause_31; rcases q with q | q | q; exact Or.inl (q); exact Or.inr (Or.inl (q)); exact Or.inr (Or.inr ((q)))))
def w1_j_X9_readClause_30 (a k : Nat) : Prop := (a = 1 ∧ k = 2) ∨ (a = 1 ∧ k = 3) ∨ (a = 1 ∧ k = 4) ∨ (a = 24 ∧ k = 6) ∨ (a = 24 ∧ k = 7) ∨ a = 26 ∨ a = 27 ∨ a = 28 ∨ (a = 31 ∧ k = 5) ∨ a = 32 ∨ a = 33 ∨ a = 34 ∨ a = 35
def w2_j_X9_readClause_30 (a k : Nat) : Prop := a = 25 ∨ a = 29 ∨ a = 36
theorem fr_j_X9_readClause_30 {p1 : Int32} {p2 : Int32} {S : fS} {r : Int32 × fS} (h : j_X9_readClause_30 p1 p2 S = some r) : Fr (w1_j_X9_readClause_30) (w2_j_X9_readClause_30) S r.2 := by
  unfold j_X9_readClause_30 at h
  exact (Fr.rf (S := S)).tr (Fr.mo (fr_j_X9_readClause_31 h) (fun a k q => by unfold w1_j_X9_readClause_31 at q; unfold w1_j_X9_readClause_30; rcases q with q | q | q | q | q | q | q | q | q | q | q | q | q; exact Or.inl (q); exact Or.inr (Or.inl (q)); exact Or.inr (Or.inr (Or.inl (q))); exact Or.inr (Or.inr (Or.inr (Or.inl (q)))); exact Or.inr (Or.inr (Or.inr (Or.inr (Or.inl (q))))); exact Or.inr (Or.inr (Or.inr (Or.inr (Or.inr (Or.inl (q)))))); exact Or.inr (Or.inr (Or.inr (Or.inr (Or.inr (Or.inr (Or.inl (q))))))); exact Or.inr (Or.inr (Or.inr (Or.inr (Or.inr (Or.inr (Or.inr (Or.inl (q)))))))); exact Or.inr (Or.inr (Or.inr (Or.inr (Or.inr (Or.inr (Or.inr (Or.inr (Or.inl (q))))))))); exact Or.inr (Or.inr (Or.inr (Or.inr (Or.inr (Or.inr (Or.inr (Or.inr (Or.inr (Or.inl (q)))))))))); exact Or.inr (Or.inr (Or.inr (Or.inr (Or.inr (Or.inr (Or.inr (Or.inr (Or.inr (Or.inr (Or.inl (q))))))))))); exact Or.inr (Or.inr (Or.inr (Or.inr (Or.inr (Or.inr (Or.inr (Or.inr (Or.inr (Or.inr (Or.inr (Or.inl (q)))))))))))); exact Or.inr (Or.inr (Or.inr (Or.inr (Or.inr (Or.inr (Or.inr (Or.inr (Or.inr (Or.inr (Or.inr (Or.inr ((q)))))))))))))) (fun a k q => by unfold w2_j_X9_readClause_31 at q; unfold w2_j_X9_readClause_30; rcases q with q | q | q; exact Or.inl (q); exact Or.inr (Or.inl (q)); exact Or.inr (Or.inr ((q)))))
def w1_f_X9_readClause (a k : Nat) : Prop := (a = 1 ∧ k = 2) ∨ (a = 1 ∧ k = 3) ∨ (a = 1 ∧ k = 4) ∨ (a = 24 ∧ k = 6) ∨ (a = 24 ∧ k = 7) ∨ a = 26 ∨ a = 27 ∨ a = 28 ∨ (a = 31 ∧ k = 5) ∨ a = 32 ∨ a = 33 ∨ a = 34 ∨ a = 35
def w2_f_X9_readClause (a k : Nat) : Prop := a = 25 ∨ a = 29 ∨ a = 36
theorem fr_f_X9_readClause {v1 : Int32} {S : fS} {r : Int32 × fS} (h : f_X9_readClause v1 S = some r) : Fr (w1_f_X9_readClause) (w2_f_X9_readClause) S r.2 := by
  unfold f_X9_readClause at h
  obtain ⟨q1, e1, h2⟩ := Option.bind_eq_some_iff.mp h
  have f3 : Fr (w1_f_X9_readClause) (w2_f_X9_readClause) S q1.2 := (Fr.rf (S := S)).tr (Fr.mo (fr_f_X7_takeWord e1) (fun a k q => by unfold w1_f_X7_takeWord at q; unfold w1_f_X9_readClause; rcases q with q | q; exact Or.inl (q); exact Or.inr (Or.inl (q))) (fun _ _ q => False.elim q))
  rcases fr_ite h2 with h4 | h4
  ·
    obtain ⟨q59, e5, h6⟩ := Option.bind_eq_some_iff.mp h4
    have f7 : Fr (w1_f_X9_readClause) (w2_f_X9_readClause) S q59.2 := f3.tr (Fr.mo (fr_f_X7_takeWord e5) (fun a k q => by unfold w1_f_X7_takeWord at q; unfold w1_f_X9_readClause; rcases q with q | q; exact Or.inl (q); exact Or.inr (Or.inl (q))) (fun _ _ q => False.elim q))
    rcases fr_ite h6 with h8 | h8
    ·
      exact f7.tr (Fr.mo (fr_j_X9_readClause_30 h8) (fun a k q => by unfold w1_j_X9_readClause_30 at q; unfold w1_f_X9_readClause; rcases q with q | q | q | q | q | q | q | q | q | q | q | q | q; exact Or.inl (q); exact Or.inr (Or.inl (q)); exact Or.inr (Or.inr (Or.inl (q))); exact Or.inr (Or.inr (Or.inr (Or.inl (q)))); exact Or.inr (Or.inr (Or.inr (Or.inr (Or.inl (q))))); exact Or.inr (Or.inr (Or.inr (Or.inr (Or.inr (Or.inl (q)))))); exact Or.inr (Or.inr (Or.inr (Or.inr (Or.inr (Or.inr (Or.inl (q))))))); exact Or.inr (Or.inr (Or.inr (Or.inr (Or.inr (Or.inr (Or.inr (Or.inl (q)))))))); exact Or.inr (Or.inr (Or.inr (Or.inr (Or.inr (Or.inr (Or.inr (Or.inr (Or.inl (q))))))))); exact Or.inr (Or.inr (Or.inr (Or.inr (Or.inr (Or.inr (Or.inr (Or.inr (Or.inr (Or.inl (q)))))))))); exact Or.inr (Or.inr (Or.inr (Or.inr (Or.inr (Or.inr (Or.inr (Or.inr (Or.inr (Or.inr (Or.inl (q))))))))))); exact Or.inr (Or.inr (Or.inr (Or.inr (Or.inr (Or.inr (Or.inr (Or.inr (Or.inr (Or.inr (Or.inr (Or.inl (q)))))))))))); exact Or.inr (Or.inr (Or.inr (Or.inr (Or.inr (Or.inr (Or.inr (Or.inr (Or.inr (Or.inr (Or.inr (Or.inr ((q)))))))))))))) (fun a k q => by unfold w2_j_X9_readClause_30 at q; unfold w2_f_X9_readClause; rcases q with q | q | q; exact Or.inl (q); exact Or.inr (Or.inl (q)); exact Or.inr (Or.inr ((q)))))
    ·
      exact f7.tr (Fr.mo (fr_j_X9_readClause_31 h8) (fun a k q => by unfold w1_j_X9_readClause_31 at q; unfold w1_f_X9_readClause; rcases q with q | q | q | q | q | q | q | q | q | q | q | q | q; exact Or.inl (q); exact Or.inr (Or.inl (q)); exact Or.inr (Or.inr (Or.inl (q))); exact Or.inr (Or.inr (Or.inr (Or.inl (q)))); exact Or.inr (Or.inr (Or.inr (Or.inr (Or.inl (q))))); exact Or.inr (Or.inr (Or.inr (Or.inr (Or.inr (Or.inl (q)))))); exact Or.inr (Or.inr (Or.inr (Or.inr (Or.inr (Or.inr (Or.inl (q))))))); exact Or.inr (Or.inr (Or.inr (Or.inr (Or.inr (Or.inr (Or.inr (Or.inl (q)))))))); exact Or.inr (Or.inr (Or.inr (Or.inr (Or.inr (Or.inr (Or.inr (Or.inr (Or.inl (q))))))))); exact Or.inr (Or.inr (Or.inr (Or.inr (Or.inr (Or.inr (Or.inr (Or.inr (Or.inr (Or.inl (q)))))))))); exact Or.inr (Or.inr (Or.inr (Or.inr (Or.inr (Or.inr (Or.inr (Or.inr (Or.inr (Or.inr (Or.inl (q))))))))))); exact Or.inr (Or.inr (Or.inr (Or.inr (Or.inr (Or.inr (Or.inr (Or.inr (Or.inr (Or.inr (Or.inr (Or.inl (q)))))))))))); exact Or.inr (Or.inr (Or.inr (Or.inr (Or.inr (Or.inr (Or.inr (Or.inr (Or.inr (Or.inr (Or.inr (Or.inr ((q)))))))))))))) (fun a k q => by unfold w2_j_X9_readClause_31 at q; unfold w2_f_X9_readClause; rcases q with q | q | q; exact Or.inl (q); exact Or.inr (Or.inl (q)); exact Or.inr (Or.inr ((q)))))
  ·
    exact f3.tr (Fr.mo (fr_j_X9_readClause_30 h4) (fun a k q => by unfold w1_j_X9_readClause_30 at q; unfold w1_f_X9_readClause; rcases q with q | q | q | q | q | q | q | q | q | q | q | q | q; exact Or.inl (q); exact Or.inr (Or.inl (q)); exact Or.inr (Or.inr (Or.inl (q))); exact Or.inr (Or.inr (Or.inr (Or.inl (q)))); exact Or.inr (Or.inr (Or.inr (Or.inr (Or.inl (q))))); exact Or.inr (Or.inr (Or.inr (Or.inr (Or.inr (Or.inl (q)))))); exact Or.inr (Or.inr (Or.inr (Or.inr (Or.inr (Or.inr (Or.inl (q))))))); exact Or.inr (Or.inr (Or.inr (Or.inr (Or.inr (Or.inr (Or.inr (Or.inl (q)))))))); exact Or.inr (Or.inr (Or.inr (Or.inr (Or.inr (Or.inr (Or.inr (Or.inr (Or.inl (q))))))))); exact Or.inr (Or.inr (Or.inr (Or.inr (Or.inr (Or.inr (Or.inr (Or.inr (Or.inr (Or.inl (q)))))))))); exact Or.inr (Or.inr (Or.inr (Or.inr (Or.inr (Or.inr (Or.inr (Or.inr (Or.inr (Or.inr (Or.inl (q))))))))))); exact Or.inr (Or.inr (Or.inr (Or.inr (Or.inr (Or.inr (Or.inr (Or.inr (Or.inr (Or.inr (Or.inr (Or.inl (q)))))))))))); exact Or.inr (Or.inr (Or.inr (Or.inr (Or.inr (Or.inr (Or.inr (Or.inr (Or.inr (Or.inr (Or.inr (Or.inr ((q)))))))))))))) (fun a k q => by unfold w2_j_X9_readClause_30 at q; unfold w2_f_X9_readClause; rcases q with q | q | q; exact Or.inl (q); exact Or.inr (Or.inl (q)); exact Or.inr (Or.inr ((q)))))
def w1_f_X7_isAtEnd (a k : Nat) : Prop := (a = 1 ∧ k = 2)
def w2_f_X7_isAtEnd (a k : Nat) : Prop := False
theorem fr_f_X7_isAtEnd {S : fS} {r : Int32 × fS} (h : f_X7_isAtEnd S = some r) : Fr (w1_f_X7_isAtEnd) (w2_f_X7_isAtEnd) S r.2 := by
  unfold f_X7_isAtEnd at h
  obtain ⟨q1, e1, h2⟩ := Option.bind_eq_some_iff.mp h
  have f3 : Fr (w1_f_X7_isAtEnd) (w2_f_X7_isAtEnd) S q1 := (Fr.rf (S := S)).tr (Fr.mo (fr_f_X7_skipBlanks e1) (fun a k q => by unfold w1_f_X7_skipBlanks at q; unfold w1_f_X7_isAtEnd; exact q) (fun _ _ q => False.elim q))
  rcases fr_ite h2 with h4 | h4
  ·
    exact fr_e2 h4 f3
  ·
    exact fr_e2 h4 f3
def w1_f_X8_shorten (v0 : Nat) (a k : Nat) : Prop := a = v0 + 6
def w2_f_X8_shorten (v0 : Nat) (a k : Nat) : Prop := False
theorem fr_f_X8_shorten {v0 : Nat} {v1 : Int32} {v2 : Int32} {v3 : Int32} {S : fS} {r : fS} (h : f_X8_shorten v0 v1 v2 v3 S = some r) : Fr (w1_f_X8_shorten v0) (w2_f_X8_shorten v0) S r := by
  unfold f_X8_shorten at h
  obtain ⟨q1, e1, h2⟩ := Option.bind_eq_some_iff.mp h
  rcases fr_ite h2 with h3 | h3
  ·
    obtain ⟨S5, e4, h5⟩ := Option.bind_eq_some_iff.mp h3
    have f6 : Fr (w1_f_X8_shorten v0) (w2_f_X8_shorten v0) S S5 := (Fr.rf (S := S)).tr (fr_sI e4 (fun k => by unfold w1_f_X8_shorten; exact rfl))
    exact fr_e1 h5 f6
  ·
    rcases fr_ite h3 with h7 | h7
    ·
      exact fr_e1 h7 (Fr.rf (S := S))
    ·
      obtain ⟨S9, e8, h9⟩ := Option.bind_eq_some_iff.mp h7
      have f10 : Fr (w1_f_X8_shorten v0) (w2_f_X8_shorten v0) S S9 := (Fr.rf (S := S)).tr (fr_sI e8 (fun k => by unfold w1_f_X8_shorten; exact rfl))
      exact fr_e1 h9 f10
def w1_lp_X8_measureWays_2 (p0 : Nat) (a k : Nat) : Prop := a = p0 + 6
def w2_lp_X8_measureWays_2 (p0 : Nat) (a k : Nat) : Prop := False
theorem fr_lp_X8_measureWays_2 {p0 : Nat} {K : fS → Option (fS)} {r : fS} {v1 v2 : Nat → Nat → Prop} (s1 : ∀ a k, w1_lp_X8_measureWays_2 p0 a k → v1 a k) (s2 : ∀ a k, w2_lp_X8_measureWays_2 p0 a k → v2 a k) (hK : ∀ (x0 : fS), K x0 = some r → Fr v1 v2 x0 r) : ∀ (n : Nat) (p1 : Int32) (S0 : fS), lp_X8_measureWays_2 p0 K n p1 S0 = some r → Fr v1 v2 S0 r := by
  intro n
  induction n with
  | zero => intro p1 S0 h; exact mm_no h
  | succ n ih =>
    intro p1 S0 h
    rw [lp_X8_measureWays_2.eq_2] at h
    rcases fr_ite h with h1 | h1
    ·
      exact (Fr.rf (S := S0)).tr (hK _ h1)
    ·
      obtain ⟨a2, e2, h3⟩ := Option.bind_eq_some_iff.mp h1
      obtain ⟨a5, e4, h5⟩ := Option.bind_eq_some_iff.mp h3
      rcases fr_ite h5 with h6 | h6
      ·
        obtain ⟨S12, e7, h8⟩ := Option.bind_eq_some_iff.mp h6
        have f9 : Fr v1 v2 S0 S12 := (Fr.rf (S := S0)).tr (fr_sI e7 (fun k => by refine s1 _ _ ?_; unfold w1_lp_X8_measureWays_2; exact rfl))
        exact f9.tr (ih _ _ h8)
      ·
        obtain ⟨S9, e10, h11⟩ := Option.bind_eq_some_iff.mp h6
        have f12 : Fr v1 v2 S0 S9 := (Fr.rf (S := S0)).tr (fr_sI e10 (fun k => by refine s1 _ _ ?_; unfold w1_lp_X8_measureWays_2; exact rfl))
        exact f12.tr (ih _ _ h11)
def w1_lp_X8_measureWays_38 (p0 : Nat) (a k : Nat) : Prop := a = p0 + 6
def w2_lp_X8_measureWays_38 (p0 : Nat) (a k : Nat) : Prop := False
theorem fr_lp_X8_measureWays_38 {p0 : Nat} {K : fS → Option (fS)} {r : fS} {v1 v2 : Nat → Nat → Prop} (s1 : ∀ a k, w1_lp_X8_measureWays_38 p0 a k → v1 a k) (s2 : ∀ a k, w2_lp_X8_measureWays_38 p0 a k → v2 a k) (hK : ∀ (x0 : fS), K x0 = some r → Fr v1 v2 x0 r) : ∀ (n : Nat) (p1 : Int32) (S0 : fS), lp_X8_measureWays_38 p0 K n p1 S0 = some r → Fr v1 v2 S0 r := by
  intro n
  induction n with
  | zero => intro p1 S0 h; exact mm_no h
  | succ n ih =>
    intro p1 S0 h
    rw [lp_X8_measureWays_38.eq_2] at h
    rcases fr_ite h with h1 | h1
    ·
      exact (Fr.rf (S := S0)).tr (hK _ h1)
    ·
      obtain ⟨a18, e2, h3⟩ := Option.bind_eq_some_iff.mp h1
      obtain ⟨a21, e4, h5⟩ := Option.bind_eq_some_iff.mp h3
      obtain ⟨a24, e6, h7⟩ := Option.bind_eq_some_iff.mp h5
      obtain ⟨q27, e8, h9⟩ := Option.bind_eq_some_iff.mp h7
      have f10 : Fr v1 v2 S0 q27 := (Fr.rf (S := S0)).tr (Fr.mo (fr_f_X8_shorten e8) (fun a k q => by refine s1 _ _ ?_; unfold w1_f_X8_shorten at q; unfold w1_lp_X8_measureWays_38; exact q) (fun _ _ q => False.elim q))
      obtain ⟨a30, e11, h12⟩ := Option.bind_eq_some_iff.mp h9
      obtain ⟨a33, e13, h14⟩ := Option.bind_eq_some_iff.mp h12
      obtain ⟨a36, e15, h16⟩ := Option.bind_eq_some_iff.mp h14
      obtain ⟨q39, e17, h18⟩ := Option.bind_eq_some_iff.mp h16
      have f19 : Fr v1 v2 S0 q39 := f10.tr (Fr.mo (fr_f_X8_shorten e17) (fun a k q => by refine s1 _ _ ?_; unfold w1_f_X8_shorten at q; unfold w1_lp_X8_measureWays_38; exact q) (fun _ _ q => False.elim q))
      exact f19.tr (ih _ _ h18)
def w1_lp_X8_measureWays_118 (p0 : Nat) (a k : Nat) : Prop := a = p0 + 6
def w2_lp_X8_measureWays_118 (p0 : Nat) (a k : Nat) : Prop := False
theorem fr_lp_X8_measureWays_118 {p0 : Nat} {p1 : Int32} {p2 : Int32} {K : fS → Option (fS)} {r : fS} {v1 v2 : Nat → Nat → Prop} (s1 : ∀ a k, w1_lp_X8_measureWays_118 p0 a k → v1 a k) (s2 : ∀ a k, w2_lp_X8_measureWays_118 p0 a k → v2 a k) (hK : ∀ (x0 : fS), K x0 = some r → Fr v1 v2 x0 r) : ∀ (n : Nat) (p3 : Int32) (S0 : fS), lp_X8_measureWays_118 p0 p1 p2 K n p3 S0 = some r → Fr v1 v2 S0 r := by
  intro n
  induction n with
  | zero => intro p3 S0 h; exact mm_no h
  | succ n ih =>
    intro p3 S0 h
    rw [lp_X8_measureWays_118.eq_2] at h
    rcases fr_ite h with h1 | h1
    ·
      exact (Fr.rf (S := S0)).tr (hK _ h1)
    ·
      obtain ⟨q47, e2, h3⟩ := Option.bind_eq_some_iff.mp h1
      obtain ⟨q50, e4, h5⟩ := Option.bind_eq_some_iff.mp h3
      rcases fr_ite h5 with h6 | h6
      ·
        exact (Fr.rf (S := S0)).tr (ih _ _ h6)
      ·
        rcases fr_ite h6 with h7 | h7
        ·
          exact (Fr.rf (S := S0)).tr (ih _ _ h7)
        ·
          obtain ⟨q55, e8, h9⟩ := Option.bind_eq_some_iff.mp h7
          have f10 : Fr v1 v2 S0 q55 := (Fr.rf (S := S0)).tr (Fr.mo (fr_f_X8_shorten e8) (fun a k q => by refine s1 _ _ ?_; unfold w1_f_X8_shorten at q; unfold w1_lp_X8_measureWays_118; exact q) (fun _ _ q => False.elim q))
          exact f10.tr (ih _ _ h9)
def w1_lp_X8_measureWays_108 (p0 : Nat) (a k : Nat) : Prop := a = p0 + 6
def w2_lp_X8_measureWays_108 (p0 : Nat) (a k : Nat) : Prop := False
theorem fr_lp_X8_measureWays_108 {p0 : Nat} {p1 : Int32} {K : fS → Option (fS)} {r : fS} {v1 v2 : Nat → Nat → Prop} (s1 : ∀ a k, w1_lp_X8_measureWays_108 p0 a k → v1 a k) (s2 : ∀ a k, w2_lp_X8_measureWays_108 p0 a k → v2 a k) (hK : ∀ (x0 : fS), K x0 = some r → Fr v1 v2 x0 r) : ∀ (n : Nat) (p2 : Int32) (S0 : fS), lp_X8_measureWays_108 p0 p1 K n p2 S0 = some r → Fr v1 v2 S0 r := by
  intro n
  induction n with
  | zero => intro p2 S0 h; exact mm_no h
  | succ n ih =>
    intro p2 S0 h
    rw [lp_X8_measureWays_108.eq_2] at h
    rcases fr_ite h with h1 | h1
    ·
      exact (Fr.rf (S := S0)).tr (hK _ h1)
    ·
      refine (Fr.rf (S := S0)).tr (fr_lp_X8_measureWays_118 (v1 := v1) (v2 := v2) (fun a k q => by refine s1 _ _ ?_; unfold w1_lp_X8_measureWays_118 at q; unfold w1_lp_X8_measureWays_108; exact q) (fun _ _ q => False.elim q) (fun S58 h2 => ?_) _ _ _ h1)
      exact (Fr.rf (S := S58)).tr (ih _ _ h2)
def w1_lp_X8_measureWays_98 (p0 : Nat) (a k : Nat) : Prop := a = p0 + 6
def w2_lp_X8_measureWays_98 (p0 : Nat) (a k : Nat) : Prop := False
theorem fr_lp_X8_measureWays_98 {p0 : Nat} {K : fS → Option (fS)} {r : fS} {v1 v2 : Nat → Nat → Prop} (s1 : ∀ a k, w1_lp_X8_measureWays_98 p0 a k → v1 a k) (s2 : ∀ a k, w2_lp_X8_measureWays_98 p0 a k → v2 a k) (hK : ∀ (x0 : fS), K x0 = some r → Fr v1 v2 x0 r) : ∀ (n : Nat) (p1 : Int32) (S0 : fS), lp_X8_measureWays_98 p0 K n p1 S0 = some r → Fr v1 v2 S0 r := by
  intro n
  induction n with
  | zero => intro p1 S0 h; exact mm_no h
  | succ n ih =>
    intro p1 S0 h
    rw [lp_X8_measureWays_98.eq_2] at h
    rcases fr_ite h with h1 | h1
    ·
      exact (Fr.rf (S := S0)).tr (hK _ h1)
    ·
      refine (Fr.rf (S := S0)).tr (fr_lp_X8_measureWays_108 (v1 := v1) (v2 := v2) (fun a k q => by refine s1 _ _ ?_; unfold w1_lp_X8_measureWays_108 at q; unfold w1_lp_X8_measureWays_98; exact q) (fun _ _ q => False.elim q) (fun S60 h2 => ?_) _ _ _ h1)
      exact (Fr.rf (S := S60)).tr (ih _ _ h2)
def w1_f_X8_measureWays (v0 : Nat) (a k : Nat) : Prop := a = v0 + 6
def w2_f_X8_measureWays (v0 : Nat) (a k : Nat) : Prop := False
theorem fr_f_X8_measureWays {v0 : Nat} {S : fS} {r : fS} (h : f_X8_measureWays v0 S = some r) : Fr (w1_f_X8_measureWays v0) (w2_f_X8_measureWays v0) S r := by
  unfold f_X8_measureWays at h
  refine (Fr.rf (S := S)).tr (fr_lp_X8_measureWays_2 (v1 := w1_f_X8_measureWays v0) (v2 := w2_f_X8_measureWays v0) (fun a k q => by unfold w1_lp_X8_measureWays_2 at q; unfold w1_f_X8_measureWays; exact q) (fun _ _ q => False.elim q) (fun S15 h1 => ?_) _ _ _ h)
  refine (Fr.rf (S := S15)).tr (fr_lp_X8_measureWays_38 (v1 := w1_f_X8_measureWays v0) (v2 := w2_f_X8_measureWays v0) (fun a k q => by unfold w1_lp_X8_measureWays_38 at q; unfold w1_f_X8_measureWays; exact q) (fun _ _ q => False.elim q) (fun S42 h2 => ?_) _ _ _ h1)
  refine (Fr.rf (S := S42)).tr (fr_lp_X8_measureWays_98 (v1 := w1_f_X8_measureWays v0) (v2 := w2_f_X8_measureWays v0) (fun a k q => by unfold w1_lp_X8_measureWays_98 at q; unfold w1_f_X8_measureWays; exact q) (fun _ _ q => False.elim q) (fun S62 h3 => ?_) _ _ _ h2)
  exact fr_e1 h3 (Fr.rf (S := S62))
def w1_f_X7_takeSign (a k : Nat) : Prop := (a = 1 ∧ k = 2) ∨ (a = 1 ∧ k = 3)
def w2_f_X7_takeSign (a k : Nat) : Prop := False
theorem fr_f_X7_takeSign {v1 : Int32} {S : fS} {r : Int32 × fS} (h : f_X7_takeSign v1 S = some r) : Fr (w1_f_X7_takeSign) (w2_f_X7_takeSign) S r.2 := by
  unfold f_X7_takeSign at h
  obtain ⟨q1, e1, h2⟩ := Option.bind_eq_some_iff.mp h
  have f3 : Fr (w1_f_X7_takeSign) (w2_f_X7_takeSign) S q1 := (Fr.rf (S := S)).tr (Fr.mo (fr_f_X7_skipBlanks e1) (fun a k q => by unfold w1_f_X7_skipBlanks at q; unfold w1_f_X7_takeSign; exact Or.inl (q)) (fun _ _ q => False.elim q))
  obtain ⟨q4, e4, h5⟩ := Option.bind_eq_some_iff.mp h2
  rcases fr_ite h5 with h6 | h6
  ·
    obtain ⟨S8, e7, h8⟩ := Option.bind_eq_some_iff.mp h6
    have f9 : Fr (w1_f_X7_takeSign) (w2_f_X7_takeSign) S S8 := f3.tr (fr_pI e7 (by unfold w1_f_X7_takeSign; exact Or.inr ((⟨rfl, rfl⟩))))
    obtain ⟨S11, e10, h11⟩ := Option.bind_eq_some_iff.mp h8
    have f12 : Fr (w1_f_X7_takeSign) (w2_f_X7_takeSign) S S11 := f9.tr (fr_pI e10 (by unfold w1_f_X7_takeSign; exact Or.inl (⟨rfl, rfl⟩)))
    exact fr_e2 h11 f12
  ·
    exact fr_e2 h6 f3
def w1_lp_X9_read_41 (a k : Nat) : Prop := (a = 1 ∧ k = 2) ∨ (a = 1 ∧ k = 3) ∨ (a = 1 ∧ k = 4) ∨ (a = 24 ∧ k = 6) ∨ (a = 24 ∧ k = 7) ∨ a = 26 ∨ a = 27 ∨ a = 28 ∨ a = 30 ∨ (a = 31 ∧ k = 5) ∨ a = 32 ∨ a = 33 ∨ a = 34 ∨ a = 35
def w2_lp_X9_read_41 (a k : Nat) : Prop := a = 25 ∨ a = 29 ∨ a = 36
theorem fr_lp_X9_read_41 {K : fS → Option (Int32 × fS)} {r : Int32 × fS} {v1 v2 : Nat → Nat → Prop} (s1 : ∀ a k, w1_lp_X9_read_41 a k → v1 a k) (s2 : ∀ a k, w2_lp_X9_read_41 a k → v2 a k) (hK : ∀ (x0 : fS), K x0 = some r → Fr v1 v2 x0 r.2) : ∀ (n : Nat) (p1 : Int32) (S0 : fS), lp_X9_read_41 K n p1 S0 = some r → Fr v1 v2 S0 r.2 := by
  intro n
  induction n with
  | zero => intro p1 S0 h; exact mm_no h
  | succ n ih =>
    intro p1 S0 h
    rw [lp_X9_read_41.eq_2] at h
    rcases fr_ite h with h1 | h1
    ·
      exact (Fr.rf (S := S0)).tr (hK _ h1)
    ·
      obtain ⟨q17, e2, h3⟩ := Option.bind_eq_some_iff.mp h1
      have f4 : Fr v1 v2 S0 q17.2 := (Fr.rf (S := S0)).tr (Fr.mo (fr_f_X9_readClause e2) (fun a k q => by refine s1 _ _ ?_; unfold w1_f_X9_readClause at q; unfold w1_lp_X9_read_41; rcases q with q | q | q | q | q | q | q | q | q | q | q | q | q; exact Or.inl (q); exact Or.inr (Or.inl (q)); exact Or.inr (Or.inr (Or.inl (q))); exact Or.inr (Or.inr (Or.inr (Or.inl (q)))); exact Or.inr (Or.inr (Or.inr (Or.inr (Or.inl (q))))); exact Or.inr (Or.inr (Or.inr (Or.inr (Or.inr (Or.inl (q)))))); exact Or.inr (Or.inr (Or.inr (Or.inr (Or.inr (Or.inr (Or.inl (q))))))); exact Or.inr (Or.inr (Or.inr (Or.inr (Or.inr (Or.inr (Or.inr (Or.inl (q)))))))); exact Or.inr (Or.inr (Or.inr (Or.inr (Or.inr (Or.inr (Or.inr (Or.inr (Or.inr (Or.inl (q)))))))))); exact Or.inr (Or.inr (Or.inr (Or.inr (Or.inr (Or.inr (Or.inr (Or.inr (Or.inr (Or.inr (Or.inl (q))))))))))); exact Or.inr (Or.inr (Or.inr (Or.inr (Or.inr (Or.inr (Or.inr (Or.inr (Or.inr (Or.inr (Or.inr (Or.inl (q)))))))))))); exact Or.inr (Or.inr (Or.inr (Or.inr (Or.inr (Or.inr (Or.inr (Or.inr (Or.inr (Or.inr (Or.inr (Or.inr (Or.inl (q))))))))))))); exact Or.inr (Or.inr (Or.inr (Or.inr (Or.inr (Or.inr (Or.inr (Or.inr (Or.inr (Or.inr (Or.inr (Or.inr (Or.inr ((q))))))))))))))) (fun a k q => by refine s2 _ _ ?_; unfold w2_f_X9_readClause at q; unfold w2_lp_X9_read_41; rcases q with q | q | q; exact Or.inl (q); exact Or.inr (Or.inl (q)); exact Or.inr (Or.inr ((q)))))
      rcases fr_ite h3 with h5 | h5
      ·
        exact fr_e2 h5 f4
      ·
        obtain ⟨q21, e6, h7⟩ := Option.bind_eq_some_iff.mp h5
        have f8 : Fr v1 v2 S0 q21.2 := f4.tr (Fr.mo (fr_f_X7_isAtEnd e6) (fun a k q => by refine s1 _ _ ?_; unfold w1_f_X7_isAtEnd at q; unfold w1_lp_X9_read_41; exact Or.inl (q)) (fun _ _ q => False.elim q))
        rcases fr_ite h7 with h9 | h9
        ·
          obtain ⟨q25, e10, h11⟩ := Option.bind_eq_some_iff.mp h9
          have f12 : Fr v1 v2 S0 q25.2 := f8.tr (Fr.mo (fr_f_X7_takeSign e10) (fun a k q => by refine s1 _ _ ?_; unfold w1_f_X7_takeSign at q; unfold w1_lp_X9_read_41; rcases q with q | q; exact Or.inl (q); exact Or.inr (Or.inl (q))) (fun _ _ q => False.elim q))
          rcases fr_ite h11 with h13 | h13
          ·
            obtain ⟨q29, e14, h15⟩ := Option.bind_eq_some_iff.mp h13
            have f16 : Fr v1 v2 S0 q29.2 := f12.tr (Fr.mo (fr_f_X7_fail e14) (fun a k q => by refine s1 _ _ ?_; unfold w1_f_X7_fail at q; unfold w1_lp_X9_read_41; exact Or.inr (Or.inr (Or.inl (q)))) (fun _ _ q => False.elim q))
            obtain ⟨z32, e17, h18⟩ := Option.bind_eq_some_iff.mp h15
            exact fr_e2 h18 f16
          ·
            exact f12.tr (ih _ _ h13)
        ·
          obtain ⟨q37, e19, h20⟩ := Option.bind_eq_some_iff.mp h9
          have f21 : Fr v1 v2 S0 q37 := f8.tr (Fr.mo (fr_f_X8_measureWays e19) (fun a k q => by refine s1 _ _ ?_; unfold w1_f_X8_measureWays at q; unfold w1_lp_X9_read_41; exact Or.inr (Or.inr (Or.inr (Or.inr (Or.inr (Or.inr (Or.inr (Or.inr (Or.inl (q)))))))))) (fun _ _ q => False.elim q))
          exact fr_e2 h20 f21
def w1_f_X9_read (a k : Nat) : Prop := (a = 1 ∧ k = 2) ∨ (a = 1 ∧ k = 3) ∨ (a = 1 ∧ k = 4) ∨ (a = 24 ∧ k = 6) ∨ (a = 24 ∧ k = 7) ∨ a = 26 ∨ a = 27 ∨ a = 28 ∨ a = 30 ∨ (a = 31 ∧ k = 5) ∨ (a = 31 ∧ k = 6) ∨ a = 32 ∨ a = 33 ∨ a = 34 ∨ a = 35
def w2_f_X9_read (a k : Nat) : Prop := a = 25 ∨ a = 29 ∨ a = 36
theorem fr_f_X9_read {S : fS} {r : Int32 × fS} (h : f_X9_read S = some r) : Fr (w1_f_X9_read) (w2_f_X9_read) S r.2 := by
  unfold f_X9_read at h
  obtain ⟨S1, e1, h2⟩ := Option.bind_eq_some_iff.mp h
  have f3 : Fr (w1_f_X9_read) (w2_f_X9_read) S S1 := (Fr.rf (S := S)).tr (fr_pI e1 (by unfold w1_f_X9_read; exact Or.inr (Or.inr (Or.inr (Or.inl (⟨rfl, rfl⟩))))))
  obtain ⟨S4, e4, h5⟩ := Option.bind_eq_some_iff.mp h2
  have f6 : Fr (w1_f_X9_read) (w2_f_X9_read) S S4 := f3.tr (fr_pI e4 (by unfold w1_f_X9_read; exact Or.inr (Or.inr (Or.inr (Or.inr (Or.inl (⟨rfl, rfl⟩)))))))
  obtain ⟨S7, e7, h8⟩ := Option.bind_eq_some_iff.mp h5
  have f9 : Fr (w1_f_X9_read) (w2_f_X9_read) S S7 := f6.tr (fr_pI e7 (by unfold w1_f_X9_read; exact Or.inr (Or.inr (Or.inr (Or.inr (Or.inr (Or.inr (Or.inr (Or.inr (Or.inr (Or.inl (⟨rfl, rfl⟩))))))))))))
  obtain ⟨S10, e10, h11⟩ := Option.bind_eq_some_iff.mp h8
  have f12 : Fr (w1_f_X9_read) (w2_f_X9_read) S S10 := f9.tr (fr_pI e10 (by unfold w1_f_X9_read; exact Or.inr (Or.inr (Or.inr (Or.inr (Or.inr (Or.inr (Or.inr (Or.inr (Or.inr (Or.inr (Or.inl (⟨rfl, rfl⟩)))))))))))))
  obtain ⟨q13, e13, h14⟩ := Option.bind_eq_some_iff.mp h11
  have f15 : Fr (w1_f_X9_read) (w2_f_X9_read) S q13 := f12.tr (Fr.mo (fr_f_X7_rewind e13) (fun a k q => by unfold w1_f_X7_rewind at q; unfold w1_f_X9_read; rcases q with q | q | q; exact Or.inl (q); exact Or.inr (Or.inl (q)); exact Or.inr (Or.inr (Or.inl (q)))) (fun _ _ q => False.elim q))
  refine f15.tr (fr_lp_X9_read_41 (v1 := w1_f_X9_read) (v2 := w2_f_X9_read) (fun a k q => by unfold w1_lp_X9_read_41 at q; unfold w1_f_X9_read; rcases q with q | q | q | q | q | q | q | q | q | q | q | q | q | q; exact Or.inl (q); exact Or.inr (Or.inl (q)); exact Or.inr (Or.inr (Or.inl (q))); exact Or.inr (Or.inr (Or.inr (Or.inl (q)))); exact Or.inr (Or.inr (Or.inr (Or.inr (Or.inl (q))))); exact Or.inr (Or.inr (Or.inr (Or.inr (Or.inr (Or.inl (q)))))); exact Or.inr (Or.inr (Or.inr (Or.inr (Or.inr (Or.inr (Or.inl (q))))))); exact Or.inr (Or.inr (Or.inr (Or.inr (Or.inr (Or.inr (Or.inr (Or.inl (q)))))))); exact Or.inr (Or.inr (Or.inr (Or.inr (Or.inr (Or.inr (Or.inr (Or.inr (Or.inl (q))))))))); exact Or.inr (Or.inr (Or.inr (Or.inr (Or.inr (Or.inr (Or.inr (Or.inr (Or.inr (Or.inl (q)))))))))); exact Or.inr (Or.inr (Or.inr (Or.inr (Or.inr (Or.inr (Or.inr (Or.inr (Or.inr (Or.inr (Or.inr (Or.inl (q)))))))))))); exact Or.inr (Or.inr (Or.inr (Or.inr (Or.inr (Or.inr (Or.inr (Or.inr (Or.inr (Or.inr (Or.inr (Or.inr (Or.inl (q))))))))))))); exact Or.inr (Or.inr (Or.inr (Or.inr (Or.inr (Or.inr (Or.inr (Or.inr (Or.inr (Or.inr (Or.inr (Or.inr (Or.inr (Or.inl (q)))))))))))))); exact Or.inr (Or.inr (Or.inr (Or.inr (Or.inr (Or.inr (Or.inr (Or.inr (Or.inr (Or.inr (Or.inr (Or.inr (Or.inr (Or.inr ((q)))))))))))))))) (fun a k q => by unfold w2_lp_X9_read_41 at q; unfold w2_f_X9_read; rcases q with q | q | q; exact Or.inl (q); exact Or.inr (Or.inl (q)); exact Or.inr (Or.inr ((q)))) (fun S40 h16 => ?_) _ _ _ h14)
  exact fr_e2 h16 (Fr.rf (S := S40))
def w1_f_X8_copyFrom (v0 : Nat) (v1 : Nat) (a k : Nat) : Prop := (a = v0 ∧ k = 6) ∨ (a = v0 ∧ k = 7) ∨ a = v0 + 2 ∨ a = v0 + 3 ∨ a = v0 + 4 ∨ a = v0 + 6
def w2_f_X8_copyFrom (v0 : Nat) (v1 : Nat) (a k : Nat) : Prop := a = v0 + 1 ∨ a = v0 + 5
theorem fr_f_X8_copyFrom {v0 : Nat} {v1 : Nat} {S : fS} {r : fS} (h : f_X8_copyFrom v0 v1 S = some r) : Fr (w1_f_X8_copyFrom v0 v1) (w2_f_X8_copyFrom v0 v1) S r := by
  unfold f_X8_copyFrom at h
  obtain ⟨S1, e1, h2⟩ := Option.bind_eq_some_iff.mp h
  have f3 : Fr (w1_f_X8_copyFrom v0 v1) (w2_f_X8_copyFrom v0 v1) S S1 := (Fr.rf (S := S)).tr (fr_cL e1 (fun k => by unfold w2_f_X8_copyFrom; exact Or.inl (rfl)))
  obtain ⟨S4, e4, h5⟩ := Option.bind_eq_some_iff.mp h2
  have f6 : Fr (w1_f_X8_copyFrom v0 v1) (w2_f_X8_copyFrom v0 v1) S S4 := f3.tr (fr_cI e4 (fun k => by unfold w1_f_X8_copyFrom; exact Or.inr (Or.inr (Or.inl (rfl)))))
  obtain ⟨S7, e7, h8⟩ := Option.bind_eq_some_iff.mp h5
  have f9 : Fr (w1_f_X8_copyFrom v0 v1) (w2_f_X8_copyFrom v0 v1) S S7 := f6.tr (fr_cI e7 (fun k => by unfold w1_f_X8_copyFrom; exact Or.inr (Or.inr (Or.inr (Or.inl (rfl))))))
  obtain ⟨S10, e10, h11⟩ := Option.bind_eq_some_iff.mp h8
  have f12 : Fr (w1_f_X8_copyFrom v0 v1) (w2_f_X8_copyFrom v0 v1) S S10 := f9.tr (fr_cI e10 (fun k => by unfold w1_f_X8_copyFrom; exact Or.inr (Or.inr (Or.inr (Or.inr (Or.inl (rfl)))))))
  obtain ⟨S13, e13, h14⟩ := Option.bind_eq_some_iff.mp h11
  have f15 : Fr (w1_f_X8_copyFrom v0 v1) (w2_f_X8_copyFrom v0 v1) S S13 := f12.tr (fr_cL e13 (fun k => by unfold w2_f_X8_copyFrom; exact Or.inr ((rfl))))
  obtain ⟨S16, e16, h17⟩ := Option.bind_eq_some_iff.mp h14
  have f18 : Fr (w1_f_X8_copyFrom v0 v1) (w2_f_X8_copyFrom v0 v1) S S16 := f15.tr (fr_cI e16 (fun k => by unfold w1_f_X8_copyFrom; exact Or.inr (Or.inr (Or.inr (Or.inr (Or.inr ((rfl))))))))
  obtain ⟨S19, e19, h20⟩ := Option.bind_eq_some_iff.mp h17
  have f21 : Fr (w1_f_X8_copyFrom v0 v1) (w2_f_X8_copyFrom v0 v1) S S19 := f18.tr (fr_pI e19 (by unfold w1_f_X8_copyFrom; exact Or.inl (⟨rfl, rfl⟩)))
  obtain ⟨S22, e22, h23⟩ := Option.bind_eq_some_iff.mp h20
  have f24 : Fr (w1_f_X8_copyFrom v0 v1) (w2_f_X8_copyFrom v0 v1) S S22 := f21.tr (fr_pI e22 (by unfold w1_f_X8_copyFrom; exact Or.inr (Or.inl (⟨rfl, rfl⟩))))
  exact fr_e1 h23 f24
def w1_f_X0_copyFrom (v0 : Nat) (v1 : Nat) (a k : Nat) : Prop := (a = v0 ∧ k = 5) ∨ (a = v0 ∧ k = 6) ∨ a = v0 + 1 ∨ a = v0 + 2 ∨ a = v0 + 3 ∨ a = v0 + 4
def w2_f_X0_copyFrom (v0 : Nat) (v1 : Nat) (a k : Nat) : Prop := a = v0 + 5
theorem fr_f_X0_copyFrom {v0 : Nat} {v1 : Nat} {S : fS} {r : fS} (h : f_X0_copyFrom v0 v1 S = some r) : Fr (w1_f_X0_copyFrom v0 v1) (w2_f_X0_copyFrom v0 v1) S r := by
  unfold f_X0_copyFrom at h
  obtain ⟨S1, e1, h2⟩ := Option.bind_eq_some_iff.mp h
  have f3 : Fr (w1_f_X0_copyFrom v0 v1) (w2_f_X0_copyFrom v0 v1) S S1 := (Fr.rf (S := S)).tr (fr_cI e1 (fun k => by unfold w1_f_X0_copyFrom; exact Or.inr (Or.inr (Or.inl (rfl)))))
  obtain ⟨S4, e4, h5⟩ := Option.bind_eq_some_iff.mp h2
  have f6 : Fr (w1_f_X0_copyFrom v0 v1) (w2_f_X0_copyFrom v0 v1) S S4 := f3.tr (fr_cI e4 (fun k => by unfold w1_f_X0_copyFrom; exact Or.inr (Or.inr (Or.inr (Or.inl (rfl))))))
  obtain ⟨S7, e7, h8⟩ := Option.bind_eq_some_iff.mp h5
  have f9 : Fr (w1_f_X0_copyFrom v0 v1) (w2_f_X0_copyFrom v0 v1) S S7 := f6.tr (fr_cI e7 (fun k => by unfold w1_f_X0_copyFrom; exact Or.inr (Or.inr (Or.inr (Or.inr (Or.inl (rfl)))))))
  obtain ⟨S10, e10, h11⟩ := Option.bind_eq_some_iff.mp h8
  have f12 : Fr (w1_f_X0_copyFrom v0 v1) (w2_f_X0_copyFrom v0 v1) S S10 := f9.tr (fr_cI e10 (fun k => by unfold w1_f_X0_copyFrom; exact Or.inr (Or.inr (Or.inr (Or.inr (Or.inr ((rfl))))))))
  obtain ⟨S13, e13, h14⟩ := Option.bind_eq_some_iff.mp h11
  have f15 : Fr (w1_f_X0_copyFrom v0 v1) (w2_f_X0_copyFrom v0 v1) S S13 := f12.tr (fr_cL e13 (fun k => by unfold w2_f_X0_copyFrom; exact rfl))
  obtain ⟨S16, e16, h17⟩ := Option.bind_eq_some_iff.mp h14
  have f18 : Fr (w1_f_X0_copyFrom v0 v1) (w2_f_X0_copyFrom v0 v1) S S16 := f15.tr (fr_pI e16 (by unfold w1_f_X0_copyFrom; exact Or.inl (⟨rfl, rfl⟩)))
  obtain ⟨S19, e19, h20⟩ := Option.bind_eq_some_iff.mp h17
  have f21 : Fr (w1_f_X0_copyFrom v0 v1) (w2_f_X0_copyFrom v0 v1) S S19 := f18.tr (fr_pI e19 (by unfold w1_f_X0_copyFrom; exact Or.inr (Or.inl (⟨rfl, rfl⟩))))
  exact fr_e1 h20 f21
def w1_f_X10_tower (a k : Nat) : Prop := (a = 1 ∧ k = 1) ∨ (a = 1 ∧ k = 2) ∨ (a = 1 ∧ k = 3) ∨ (a = 1 ∧ k = 4) ∨ (a = 4 ∧ k = 6) ∨ (a = 4 ∧ k = 7) ∨ a = 6 ∨ a = 7 ∨ a = 8 ∨ a = 10 ∨ (a = 11 ∧ k = 5) ∨ (a = 11 ∧ k = 6) ∨ a = 12 ∨ a = 13 ∨ a = 14 ∨ a = 15 ∨ (a = 17 ∧ k = 4) ∨ (a = 24 ∧ k = 6) ∨ (a = 24 ∧ k = 7) ∨ a = 26 ∨ a = 27 ∨ a = 28 ∨ a = 30 ∨ (a = 31 ∧ k = 5) ∨ (a = 31 ∧ k = 6) ∨ a = 32 ∨ a = 33 ∨ a = 34 ∨ a = 35
def w2_f_X10_tower (a k : Nat) : Prop := a = 5 ∨ a = 9 ∨ a = 16 ∨ a = 25 ∨ a = 29 ∨ a = 36
theorem fr_f_X10_tower {S : fS} {r : Int32 × fS} (h : f_X10_tower S = some r) : Fr (w1_f_X10_tower) (w2_f_X10_tower) S r.2 := by
  unfold f_X10_tower at h
  obtain ⟨q1, e1, h2⟩ := Option.bind_eq_some_iff.mp h
  have f3 : Fr (w1_f_X10_tower) (w2_f_X10_tower) S q1.2 := (Fr.rf (S := S)).tr (Fr.mo (fr_f_X9_read e1) (fun a k q => by unfold w1_f_X9_read at q; unfold w1_f_X10_tower; rcases q with q | q | q | q | q | q | q | q | q | q | q | q | q | q | q; exact Or.inr (Or.inl (q)); exact Or.inr (Or.inr (Or.inl (q))); exact Or.inr (Or.inr (Or.inr (Or.inl (q)))); exact Or.inr (Or.inr (Or.inr (Or.inr (Or.inr (Or.inr (Or.inr (Or.inr (Or.inr (Or.inr (Or.inr (Or.inr (Or.inr (Or.inr (Or.inr (Or.inr (Or.inr (Or.inl (q)))))))))))))))))); exact Or.inr (Or.inr (Or.inr (Or.inr (Or.inr (Or.inr (Or.inr (Or.inr (Or.inr (Or.inr (Or.inr (Or.inr (Or.inr (Or.inr (Or.inr (Or.inr (Or.inr (Or.inr (Or.inl (q))))))))))))))))))); exact Or.inr (Or.inr (Or.inr (Or.inr (Or.inr (Or.inr (Or.inr (Or.inr (Or.inr (Or.inr (Or.inr (Or.inr (Or.inr (Or.inr (Or.inr (Or.inr (Or.inr (Or.inr (Or.inr (Or.inl (q)))))))))))))))))))); exact Or.inr (Or.inr (Or.inr (Or.inr (Or.inr (Or.inr (Or.inr (Or.inr (Or.inr (Or.inr (Or.inr (Or.inr (Or.inr (Or.inr (Or.inr (Or.inr (Or.inr (Or.inr (Or.inr (Or.inr (Or.inl (q))))))))))))))))))))); exact Or.inr (Or.inr (Or.inr (Or.inr (Or.inr (Or.inr (Or.inr (Or.inr (Or.inr (Or.inr (Or.inr (Or.inr (Or.inr (Or.inr (Or.inr (Or.inr (Or.inr (Or.inr (Or.inr (Or.inr (Or.inr (Or.inl (q)))))))))))))))))))))); exact Or.inr (Or.inr (Or.inr (Or.inr (Or.inr (Or.inr (Or.inr (Or.inr (Or.inr (Or.inr (Or.inr (Or.inr (Or.inr (Or.inr (Or.inr (Or.inr (Or.inr (Or.inr (Or.inr (Or.inr (Or.inr (Or.inr (Or.inl (q))))))))))))))))))))))); exact Or.inr (Or.inr (Or.inr (Or.inr (Or.inr (Or.inr (Or.inr (Or.inr (Or.inr (Or.inr (Or.inr (Or.inr (Or.inr (Or.inr (Or.inr (Or.inr (Or.inr (Or.inr (Or.inr (Or.inr (Or.inr (Or.inr (Or.inr (Or.inl (q)))))))))))))))))))))))); exact Or.inr (Or.inr (Or.inr (Or.inr (Or.inr (Or.inr (Or.inr (Or.inr (Or.inr (Or.inr (Or.inr (Or.inr (Or.inr (Or.inr (Or.inr (Or.inr (Or.inr (Or.inr (Or.inr (Or.inr (Or.inr (Or.inr (Or.inr (Or.inr (Or.inl (q))))))))))))))))))))))))); exact Or.inr (Or.inr (Or.inr (Or.inr (Or.inr (Or.inr (Or.inr (Or.inr (Or.inr (Or.inr (Or.inr (Or.inr (Or.inr (Or.inr (Or.inr (Or.inr (Or.inr (Or.inr (Or.inr (Or.inr (Or.inr (Or.inr (Or.inr (Or.inr (Or.inr (Or.inl (q)))))))))))))))))))))))))); exact Or.inr (Or.inr (Or.inr (Or.inr (Or.inr (Or.inr (Or.inr (Or.inr (Or.inr (Or.inr (Or.inr (Or.inr (Or.inr (Or.inr (Or.inr (Or.inr (Or.inr (Or.inr (Or.inr (Or.inr (Or.inr (Or.inr (Or.inr (Or.inr (Or.inr (Or.inr (Or.inl (q))))))))))))))))))))))))))); exact Or.inr (Or.inr (Or.inr (Or.inr (Or.inr (Or.inr (Or.inr (Or.inr (Or.inr (Or.inr (Or.inr (Or.inr (Or.inr (Or.inr (Or.inr (Or.inr (Or.inr (Or.inr (Or.inr (Or.inr (Or.inr (Or.inr (Or.inr (Or.inr (Or.inr (Or.inr (Or.inr (Or.inl (q)))))))))))))))))))))))))))); exact Or.inr (Or.inr (Or.inr (Or.inr (Or.inr (Or.inr (Or.inr (Or.inr (Or.inr (Or.inr (Or.inr (Or.inr (Or.inr (Or.inr (Or.inr (Or.inr (Or.inr (Or.inr (Or.inr (Or.inr (Or.inr (Or.inr (Or.inr (Or.inr (Or.inr (Or.inr (Or.inr (Or.inr ((q)))))))))))))))))))))))))))))) (fun a k q => by unfold w2_f_X9_read at q; unfold w2_f_X10_tower; rcases q with q | q | q; exact Or.inr (Or.inr (Or.inr (Or.inl (q)))); exact Or.inr (Or.inr (Or.inr (Or.inr (Or.inl (q))))); exact Or.inr (Or.inr (Or.inr (Or.inr (Or.inr ((q))))))))
  obtain ⟨S4, e4, h5⟩ := Option.bind_eq_some_iff.mp h2
  have f6 : Fr (w1_f_X10_tower) (w2_f_X10_tower) S S4 := f3.tr (fr_pI e4 (by unfold w1_f_X10_tower; exact Or.inl (⟨rfl, rfl⟩)))
  rcases fr_ite h5 with h7 | h7
  ·
    exact fr_e2 h7 f6
  ·
    obtain ⟨q8, e8, h9⟩ := Option.bind_eq_some_iff.mp h7
    have f10 : Fr (w1_f_X10_tower) (w2_f_X10_tower) S q8 := f6.tr (Fr.mo (fr_f_X8_copyFrom e8) (fun a k q => by unfold w1_f_X8_copyFrom at q; unfold w1_f_X10_tower; rcases q with q | q | q | q | q | q; exact Or.inr (Or.inr (Or.inr (Or.inr (Or.inl (q))))); exact Or.inr (Or.inr (Or.inr (Or.inr (Or.inr (Or.inl (q)))))); exact Or.inr (Or.inr (Or.inr (Or.inr (Or.inr (Or.inr (Or.inl (q))))))); exact Or.inr (Or.inr (Or.inr (Or.inr (Or.inr (Or.inr (Or.inr (Or.inl (q)))))))); exact Or.inr (Or.inr (Or.inr (Or.inr (Or.inr (Or.inr (Or.inr (Or.inr (Or.inl (q))))))))); exact Or.inr (Or.inr (Or.inr (Or.inr (Or.inr (Or.inr (Or.inr (Or.inr (Or.inr (Or.inl (q))))))))))) (fun a k q => by unfold w2_f_X8_copyFrom at q; unfold w2_f_X10_tower; rcases q with q | q; exact Or.inl (q); exact Or.inr (Or.inl (q))))
    obtain ⟨q11, e11, h12⟩ := Option.bind_eq_some_iff.mp h9
    have f13 : Fr (w1_f_X10_tower) (w2_f_X10_tower) S q11 := f10.tr (Fr.mo (fr_f_X0_copyFrom e11) (fun a k q => by unfold w1_f_X0_copyFrom at q; unfold w1_f_X10_tower; rcases q with q | q | q | q | q | q; exact Or.inr (Or.inr (Or.inr (Or.inr (Or.inr (Or.inr (Or.inr (Or.inr (Or.inr (Or.inr (Or.inl (q))))))))))); exact Or.inr (Or.inr (Or.inr (Or.inr (Or.inr (Or.inr (Or.inr (Or.inr (Or.inr (Or.inr (Or.inr (Or.inl (q)))))))))))); exact Or.inr (Or.inr (Or.inr (Or.inr (Or.inr (Or.inr (Or.inr (Or.inr (Or.inr (Or.inr (Or.inr (Or.inr (Or.inl (q))))))))))))); exact Or.inr (Or.inr (Or.inr (Or.inr (Or.inr (Or.inr (Or.inr (Or.inr (Or.inr (Or.inr (Or.inr (Or.inr (Or.inr (Or.inl (q)))))))))))))); exact Or.inr (Or.inr (Or.inr (Or.inr (Or.inr (Or.inr (Or.inr (Or.inr (Or.inr (Or.inr (Or.inr (Or.inr (Or.inr (Or.inr (Or.inl (q))))))))))))))); exact Or.inr (Or.inr (Or.inr (Or.inr (Or.inr (Or.inr (Or.inr (Or.inr (Or.inr (Or.inr (Or.inr (Or.inr (Or.inr (Or.inr (Or.inr (Or.inl (q))))))))))))))))) (fun a k q => by unfold w2_f_X0_copyFrom at q; unfold w2_f_X10_tower; exact Or.inr (Or.inr (Or.inl (q)))))
    obtain ⟨S14, e14, h15⟩ := Option.bind_eq_some_iff.mp h12
    have f16 : Fr (w1_f_X10_tower) (w2_f_X10_tower) S S14 := f13.tr (fr_pI e14 (by unfold w1_f_X10_tower; exact Or.inr (Or.inr (Or.inr (Or.inr (Or.inr (Or.inr (Or.inr (Or.inr (Or.inr (Or.inr (Or.inr (Or.inr (Or.inr (Or.inr (Or.inr (Or.inr (Or.inl (⟨rfl, rfl⟩)))))))))))))))))))
    exact fr_e2 h15 f16
def w1_f_X5_hold (a k : Nat) : Prop := (a = 38 ∧ k = 4) ∨ a = 39
def w2_f_X5_hold (a k : Nat) : Prop := False
theorem fr_f_X5_hold {v1 : Int32} {S : fS} {r : fS} (h : f_X5_hold v1 S = some r) : Fr (w1_f_X5_hold) (w2_f_X5_hold) S r := by
  unfold f_X5_hold at h
  rcases fr_ite h with h1 | h1
  ·
    exact fr_e1 h1 (Fr.rf (S := S))
  ·
    rcases fr_ite h1 with h2 | h2
    ·
      exact fr_e1 h2 (Fr.rf (S := S))
    ·
      obtain ⟨S3, e3, h4⟩ := Option.bind_eq_some_iff.mp h2
      have f5 : Fr (w1_f_X5_hold) (w2_f_X5_hold) S S3 := (Fr.rf (S := S)).tr (fr_sI e3 (fun k => by unfold w1_f_X5_hold; exact Or.inr ((rfl))))
      obtain ⟨S6, e6, h7⟩ := Option.bind_eq_some_iff.mp h4
      have f8 : Fr (w1_f_X5_hold) (w2_f_X5_hold) S S6 := f5.tr (fr_pI e6 (by unfold w1_f_X5_hold; exact Or.inl (⟨rfl, rfl⟩)))
      exact fr_e1 h7 f8
def w1_lp_X5_readOpenings_2 (a k : Nat) : Prop := (a = 1 ∧ k = 2) ∨ (a = 1 ∧ k = 3) ∨ (a = 1 ∧ k = 4) ∨ (a = 38 ∧ k = 4) ∨ (a = 38 ∧ k = 5) ∨ (a = 38 ∧ k = 6) ∨ a = 39
def w2_lp_X5_readOpenings_2 (a k : Nat) : Prop := False
theorem fr_lp_X5_readOpenings_2 {K : fS → Option (Int32 × fS)} {r : Int32 × fS} {v1 v2 : Nat → Nat → Prop} (s1 : ∀ a k, w1_lp_X5_readOpenings_2 a k → v1 a k) (s2 : ∀ a k, w2_lp_X5_readOpenings_2 a k → v2 a k) (hK : ∀ (x0 : fS), K x0 = some r → Fr v1 v2 x0 r.2) : ∀ (n : Nat) (p1 : Int32) (S0 : fS), lp_X5_readOpenings_2 K n p1 S0 = some r → Fr v1 v2 S0 r.2 := by
  intro n
  induction n with
  | zero => intro p1 S0 h; exact mm_no h
  | succ n ih =>
    intro p1 S0 h
    rw [lp_X5_readOpenings_2.eq_2] at h
    rcases fr_ite h with h1 | h1
    ·
      exact (Fr.rf (S := S0)).tr (hK _ h1)
    ·
      obtain ⟨q2, e2, h3⟩ := Option.bind_eq_some_iff.mp h1
      have f4 : Fr v1 v2 S0 q2.2 := (Fr.rf (S := S0)).tr (Fr.mo (fr_f_X7_takeWord e2) (fun a k q => by refine s1 _ _ ?_; unfold w1_f_X7_takeWord at q; unfold w1_lp_X5_readOpenings_2; rcases q with q | q; exact Or.inl (q); exact Or.inr (Or.inl (q))) (fun _ _ q => False.elim q))
      rcases fr_ite h3 with h5 | h5
      ·
        obtain ⟨q39, e6, h7⟩ := Option.bind_eq_some_iff.mp h5
        have f8 : Fr v1 v2 S0 q39.2 := f4.tr (Fr.mo (fr_f_X7_takeSign e6) (fun a k q => by refine s1 _ _ ?_; unfold w1_f_X7_takeSign at q; unfold w1_lp_X5_readOpenings_2; rcases q with q | q; exact Or.inl (q); exact Or.inr (Or.inl (q))) (fun _ _ q => False.elim q))
        rcases fr_ite h7 with h9 | h9
        ·
          exact fr_e2 h9 f8
        ·
          rcases fr_ite h9 with h10 | h10
          ·
            obtain ⟨S44, e11, h12⟩ := Option.bind_eq_some_iff.mp h10
            have f13 : Fr v1 v2 S0 S44 := f8.tr (fr_pI e11 (by refine s1 _ _ ?_; unfold w1_lp_X5_readOpenings_2; exact Or.inr (Or.inr (Or.inr (Or.inr (Or.inr (Or.inl (⟨rfl, rfl⟩))))))))
            rcases fr_ite h12 with h14 | h14
            ·
              obtain ⟨S48, e15, h16⟩ := Option.bind_eq_some_iff.mp h14
              have f17 : Fr v1 v2 S0 S48 := f13.tr (fr_pI e15 (by refine s1 _ _ ?_; unfold w1_lp_X5_readOpenings_2; exact Or.inr (Or.inr (Or.inr (Or.inr (Or.inl (⟨rfl, rfl⟩)))))))
              rcases fr_ite h16 with h18 | h18
              ·
                obtain ⟨q52, e19, h20⟩ := Option.bind_eq_some_iff.mp h18
                have f21 : Fr v1 v2 S0 q52 := f17.tr (Fr.mo (fr_f_X5_hold e19) (fun a k q => by refine s1 _ _ ?_; unfold w1_f_X5_hold at q; unfold w1_lp_X5_readOpenings_2; rcases q with q | q; exact Or.inr (Or.inr (Or.inr (Or.inl (q)))); exact Or.inr (Or.inr (Or.inr (Or.inr (Or.inr (Or.inr ((q)))))))) (fun _ _ q => False.elim q))
                exact f21.tr (ih _ _ h20)
              ·
                obtain ⟨q55, e22, h23⟩ := Option.bind_eq_some_iff.mp h18
                have f24 : Fr v1 v2 S0 q55 := f17.tr (Fr.mo (fr_f_X5_hold e22) (fun a k q => by refine s1 _ _ ?_; unfold w1_f_X5_hold at q; unfold w1_lp_X5_readOpenings_2; rcases q with q | q; exact Or.inr (Or.inr (Or.inr (Or.inl (q)))); exact Or.inr (Or.inr (Or.inr (Or.inr (Or.inr (Or.inr ((q)))))))) (fun _ _ q => False.elim q))
                exact f24.tr (ih _ _ h23)
            ·
              obtain ⟨S58, e25, h26⟩ := Option.bind_eq_some_iff.mp h14
              have f27 : Fr v1 v2 S0 S58 := f13.tr (fr_pI e25 (by refine s1 _ _ ?_; unfold w1_lp_X5_readOpenings_2; exact Or.inr (Or.inr (Or.inr (Or.inr (Or.inl (⟨rfl, rfl⟩)))))))
              rcases fr_ite h26 with h28 | h28
              ·
                obtain ⟨q62, e29, h30⟩ := Option.bind_eq_some_iff.mp h28
                have f31 : Fr v1 v2 S0 q62 := f27.tr (Fr.mo (fr_f_X5_hold e29) (fun a k q => by refine s1 _ _ ?_; unfold w1_f_X5_hold at q; unfold w1_lp_X5_readOpenings_2; rcases q with q | q; exact Or.inr (Or.inr (Or.inr (Or.inl (q)))); exact Or.inr (Or.inr (Or.inr (Or.inr (Or.inr (Or.inr ((q)))))))) (fun _ _ q => False.elim q))
                exact f31.tr (ih _ _ h30)
              ·
                obtain ⟨q65, e32, h33⟩ := Option.bind_eq_some_iff.mp h28
                have f34 : Fr v1 v2 S0 q65 := f27.tr (Fr.mo (fr_f_X5_hold e32) (fun a k q => by refine s1 _ _ ?_; unfold w1_f_X5_hold at q; unfold w1_lp_X5_readOpenings_2; rcases q with q | q; exact Or.inr (Or.inr (Or.inr (Or.inl (q)))); exact Or.inr (Or.inr (Or.inr (Or.inr (Or.inr (Or.inr ((q)))))))) (fun _ _ q => False.elim q))
                exact f34.tr (ih _ _ h33)
          ·
            obtain ⟨q68, e35, h36⟩ := Option.bind_eq_some_iff.mp h10
            have f37 : Fr v1 v2 S0 q68.2 := f8.tr (Fr.mo (fr_f_X7_fail e35) (fun a k q => by refine s1 _ _ ?_; unfold w1_f_X7_fail at q; unfold w1_lp_X5_readOpenings_2; exact Or.inr (Or.inr (Or.inl (q)))) (fun _ _ q => False.elim q))
            obtain ⟨z71, e38, h39⟩ := Option.bind_eq_some_iff.mp h36
            exact fr_e2 h39 f37
      ·
        rcases fr_ite h5 with h40 | h40
        ·
          obtain ⟨S7, e41, h42⟩ := Option.bind_eq_some_iff.mp h40
          have f43 : Fr v1 v2 S0 S7 := f4.tr (fr_pI e41 (by refine s1 _ _ ?_; unfold w1_lp_X5_readOpenings_2; exact Or.inr (Or.inr (Or.inr (Or.inr (Or.inr (Or.inl (⟨rfl, rfl⟩))))))))
          rcases fr_ite h42 with h44 | h44
          ·
            obtain ⟨S11, e45, h46⟩ := Option.bind_eq_some_iff.mp h44
            have f47 : Fr v1 v2 S0 S11 := f43.tr (fr_pI e45 (by refine s1 _ _ ?_; unfold w1_lp_X5_readOpenings_2; exact Or.inr (Or.inr (Or.inr (Or.inr (Or.inl (⟨rfl, rfl⟩)))))))
            rcases fr_ite h46 with h48 | h48
            ·
              obtain ⟨q15, e49, h50⟩ := Option.bind_eq_some_iff.mp h48
              have f51 : Fr v1 v2 S0 q15 := f47.tr (Fr.mo (fr_f_X5_hold e49) (fun a k q => by refine s1 _ _ ?_; unfold w1_f_X5_hold at q; unfold w1_lp_X5_readOpenings_2; rcases q with q | q; exact Or.inr (Or.inr (Or.inr (Or.inl (q)))); exact Or.inr (Or.inr (Or.inr (Or.inr (Or.inr (Or.inr ((q)))))))) (fun _ _ q => False.elim q))
              exact f51.tr (ih _ _ h50)
            ·
              obtain ⟨q18, e52, h53⟩ := Option.bind_eq_some_iff.mp h48
              have f54 : Fr v1 v2 S0 q18 := f47.tr (Fr.mo (fr_f_X5_hold e52) (fun a k q => by refine s1 _ _ ?_; unfold w1_f_X5_hold at q; unfold w1_lp_X5_readOpenings_2; rcases q with q | q; exact Or.inr (Or.inr (Or.inr (Or.inl (q)))); exact Or.inr (Or.inr (Or.inr (Or.inr (Or.inr (Or.inr ((q)))))))) (fun _ _ q => False.elim q))
              exact f54.tr (ih _ _ h53)
          ·
            obtain ⟨S21, e55, h56⟩ := Option.bind_eq_some_iff.mp h44
            have f57 : Fr v1 v2 S0 S21 := f43.tr (fr_pI e55 (by refine s1 _ _ ?_; unfold w1_lp_X5_readOpenings_2; exact Or.inr (Or.inr (Or.inr (Or.inr (Or.inl (⟨rfl, rfl⟩)))))))
            rcases fr_ite h56 with h58 | h58
            ·
              obtain ⟨q25, e59, h60⟩ := Option.bind_eq_some_iff.mp h58
              have f61 : Fr v1 v2 S0 q25 := f57.tr (Fr.mo (fr_f_X5_hold e59) (fun a k q => by refine s1 _ _ ?_; unfold w1_f_X5_hold at q; unfold w1_lp_X5_readOpenings_2; rcases q with q | q; exact Or.inr (Or.inr (Or.inr (Or.inl (q)))); exact Or.inr (Or.inr (Or.inr (Or.inr (Or.inr (Or.inr ((q)))))))) (fun _ _ q => False.elim q))
              exact f61.tr (ih _ _ h60)
            ·
              obtain ⟨q28, e62, h63⟩ := Option.bind_eq_some_iff.mp h58
              have f64 : Fr v1 v2 S0 q28 := f57.tr (Fr.mo (fr_f_X5_hold e62) (fun a k q => by refine s1 _ _ ?_; unfold w1_f_X5_hold at q; unfold w1_lp_X5_readOpenings_2; rcases q with q | q; exact Or.inr (Or.inr (Or.inr (Or.inl (q)))); exact Or.inr (Or.inr (Or.inr (Or.inr (Or.inr (Or.inr ((q)))))))) (fun _ _ q => False.elim q))
              exact f64.tr (ih _ _ h63)
        ·
          obtain ⟨q31, e65, h66⟩ := Option.bind_eq_some_iff.mp h40
          have f67 : Fr v1 v2 S0 q31.2 := f4.tr (Fr.mo (fr_f_X7_fail e65) (fun a k q => by refine s1 _ _ ?_; unfold w1_f_X7_fail at q; unfold w1_lp_X5_readOpenings_2; exact Or.inr (Or.inr (Or.inl (q)))) (fun _ _ q => False.elim q))
          obtain ⟨z34, e68, h69⟩ := Option.bind_eq_some_iff.mp h66
          exact fr_e2 h69 f67
def w1_f_X5_readOpenings (a k : Nat) : Prop := (a = 1 ∧ k = 2) ∨ (a = 1 ∧ k = 3) ∨ (a = 1 ∧ k = 4) ∨ (a = 38 ∧ k = 4) ∨ (a = 38 ∧ k = 5) ∨ (a = 38 ∧ k = 6) ∨ a = 39
def w2_f_X5_readOpenings (a k : Nat) : Prop := False
theorem fr_f_X5_readOpenings {S : fS} {r : Int32 × fS} (h : f_X5_readOpenings S = some r) : Fr (w1_f_X5_readOpenings) (w2_f_X5_readOpenings) S r.2 := by
  unfold f_X5_readOpenings at h
  refine (Fr.rf (S := S)).tr (fr_lp_X5_readOpenings_2 (v1 := w1_f_X5_readOpenings) (v2 := w2_f_X5_readOpenings) (fun a k q => by unfold w1_lp_X5_readOpenings_2 at q; unfold w1_f_X5_readOpenings; rcases q with q | q | q | q | q | q | q; exact Or.inl (q); exact Or.inr (Or.inl (q)); exact Or.inr (Or.inr (Or.inl (q))); exact Or.inr (Or.inr (Or.inr (Or.inl (q)))); exact Or.inr (Or.inr (Or.inr (Or.inr (Or.inl (q))))); exact Or.inr (Or.inr (Or.inr (Or.inr (Or.inr (Or.inl (q)))))); exact Or.inr (Or.inr (Or.inr (Or.inr (Or.inr (Or.inr ((q)))))))) (fun _ _ q => False.elim q) (fun S76 h1 => ?_) _ _ _ h)
  exact fr_e2 h1 (Fr.rf (S := S76))
def w1_f_X5_takeName (a k : Nat) : Prop := (a = 1 ∧ k = 2) ∨ (a = 1 ∧ k = 3)
def w2_f_X5_takeName (a k : Nat) : Prop := False
theorem fr_f_X5_takeName {S : fS} {r : Int32 × fS} (h : f_X5_takeName S = some r) : Fr (w1_f_X5_takeName) (w2_f_X5_takeName) S r.2 := by
  unfold f_X5_takeName at h
  obtain ⟨q1, e1, h2⟩ := Option.bind_eq_some_iff.mp h
  have f3 : Fr (w1_f_X5_takeName) (w2_f_X5_takeName) S q1.2 := (Fr.rf (S := S)).tr (Fr.mo (fr_f_X7_takeWord e1) (fun a k q => by unfold w1_f_X7_takeWord at q; unfold w1_f_X5_takeName; rcases q with q | q; exact Or.inl (q); exact Or.inr ((q))) (fun _ _ q => False.elim q))
  rcases fr_ite h2 with h4 | h4
  ·
    obtain ⟨q5, e5, h6⟩ := Option.bind_eq_some_iff.mp h4
    have f7 : Fr (w1_f_X5_takeName) (w2_f_X5_takeName) S q5.2 := f3.tr (Fr.mo (fr_f_X7_takeWord e5) (fun a k q => by unfold w1_f_X7_takeWord at q; unfold w1_f_X5_takeName; rcases q with q | q; exact Or.inl (q); exact Or.inr ((q))) (fun _ _ q => False.elim q))
    rcases fr_ite h6 with h8 | h8
    ·
      obtain ⟨q9, e9, h10⟩ := Option.bind_eq_some_iff.mp h8
      have f11 : Fr (w1_f_X5_takeName) (w2_f_X5_takeName) S q9.2 := f7.tr (Fr.mo (fr_f_X7_takeWord e9) (fun a k q => by unfold w1_f_X7_takeWord at q; unfold w1_f_X5_takeName; rcases q with q | q; exact Or.inl (q); exact Or.inr ((q))) (fun _ _ q => False.elim q))
      rcases fr_ite h10 with h12 | h12
      ·
        obtain ⟨q13, e13, h14⟩ := Option.bind_eq_some_iff.mp h12
        have f15 : Fr (w1_f_X5_takeName) (w2_f_X5_takeName) S q13.2 := f11.tr (Fr.mo (fr_f_X7_takeWord e13) (fun a k q => by unfold w1_f_X7_takeWord at q; unfold w1_f_X5_takeName; rcases q with q | q; exact Or.inl (q); exact Or.inr ((q))) (fun _ _ q => False.elim q))
        rcases fr_ite h14 with h16 | h16
        ·
          obtain ⟨q17, e17, h18⟩ := Option.bind_eq_some_iff.mp h16
          have f19 : Fr (w1_f_X5_takeName) (w2_f_X5_takeName) S q17.2 := f15.tr (Fr.mo (fr_f_X7_takeWord e17) (fun a k q => by unfold w1_f_X7_takeWord at q; unfold w1_f_X5_takeName; rcases q with q | q; exact Or.inl (q); exact Or.inr ((q))) (fun _ _ q => False.elim q))
          rcases fr_ite h18 with h20 | h20
          ·
            obtain ⟨q21, e21, h22⟩ := Option.bind_eq_some_iff.mp h20
            have f23 : Fr (w1_f_X5_takeName) (w2_f_X5_takeName) S q21.2 := f19.tr (Fr.mo (fr_f_X7_takeWord e21) (fun a k q => by unfold w1_f_X7_takeWord at q; unfold w1_f_X5_takeName; rcases q with q | q; exact Or.inl (q); exact Or.inr ((q))) (fun _ _ q => False.elim q))
            rcases fr_ite h22 with h24 | h24
            ·
              obtain ⟨q25, e25, h26⟩ := Option.bind_eq_some_iff.mp h24
              have f27 : Fr (w1_f_X5_takeName) (w2_f_X5_takeName) S q25.2 := f23.tr (Fr.mo (fr_f_X7_takeWord e25) (fun a k q => by unfold w1_f_X7_takeWord at q; unfold w1_f_X5_takeName; rcases q with q | q; exact Or.inl (q); exact Or.inr ((q))) (fun _ _ q => False.elim q))
              rcases fr_ite h26 with h28 | h28
              ·
                obtain ⟨q29, e29, h30⟩ := Option.bind_eq_some_iff.mp h28
                have f31 : Fr (w1_f_X5_takeName) (w2_f_X5_takeName) S q29.2 := f27.tr (Fr.mo (fr_f_X7_takeWord e29) (fun a k q => by unfold w1_f_X7_takeWord at q; unfold w1_f_X5_takeName; rcases q with q | q; exact Or.inl (q); exact Or.inr ((q))) (fun _ _ q => False.elim q))
                rcases fr_ite h30 with h32 | h32
                ·
                  exact fr_e2 h32 f31
                ·
                  exact fr_e2 h32 f31
              ·
                exact fr_e2 h28 f27
            ·
              exact fr_e2 h24 f23
          ·
            exact fr_e2 h20 f19
        ·
          exact fr_e2 h16 f15
      ·
        exact fr_e2 h12 f11
    ·
      exact fr_e2 h8 f7
  ·
    exact fr_e2 h4 f3
def w1_f_X5_isRoomForOne (a k : Nat) : Prop := (a = 1 ∧ k = 4) ∨ (a = 38 ∧ k = 3)
def w2_f_X5_isRoomForOne (a k : Nat) : Prop := False
theorem fr_f_X5_isRoomForOne {S : fS} {r : Int32 × fS} (h : f_X5_isRoomForOne S = some r) : Fr (w1_f_X5_isRoomForOne) (w2_f_X5_isRoomForOne) S r.2 := by
  unfold f_X5_isRoomForOne at h
  rcases fr_ite h with h1 | h1
  ·
    obtain ⟨S2, e2, h3⟩ := Option.bind_eq_some_iff.mp h1
    have f4 : Fr (w1_f_X5_isRoomForOne) (w2_f_X5_isRoomForOne) S S2 := (Fr.rf (S := S)).tr (fr_pI e2 (by unfold w1_f_X5_isRoomForOne; exact Or.inr ((⟨rfl, rfl⟩))))
    exact fr_e2 h3 f4
  ·
    obtain ⟨q5, e5, h6⟩ := Option.bind_eq_some_iff.mp h1
    have f7 : Fr (w1_f_X5_isRoomForOne) (w2_f_X5_isRoomForOne) S q5.2 := (Fr.rf (S := S)).tr (Fr.mo (fr_f_X7_fail e5) (fun a k q => by unfold w1_f_X7_fail at q; unfold w1_f_X5_isRoomForOne; exact Or.inl (q)) (fun _ _ q => False.elim q))
    obtain ⟨z8, e8, h9⟩ := Option.bind_eq_some_iff.mp h6
    exact fr_e2 h9 f7
def w1_f_X4_write (v0 : Nat) (a k : Nat) : Prop := (a = v0 ∧ k = 2) ∨ a = v0 + 1
def w2_f_X4_write (v0 : Nat) (a k : Nat) : Prop := False
theorem fr_f_X4_write {v0 : Nat} {v1 : Int32} {v2 : Int32} {S : fS} {r : fS} (h : f_X4_write v0 v1 v2 S = some r) : Fr (w1_f_X4_write v0) (w2_f_X4_write v0) S r := by
  unfold f_X4_write at h
  rcases fr_ite h with h1 | h1
  ·
    exact fr_e1 h1 (Fr.rf (S := S))
  ·
    obtain ⟨S2, e2, h3⟩ := Option.bind_eq_some_iff.mp h1
    have f4 : Fr (w1_f_X4_write v0) (w2_f_X4_write v0) S S2 := (Fr.rf (S := S)).tr (fr_sI e2 (fun k => by unfold w1_f_X4_write; exact Or.inr ((rfl))))
    obtain ⟨S5, e5, h6⟩ := Option.bind_eq_some_iff.mp h3
    have f7 : Fr (w1_f_X4_write v0) (w2_f_X4_write v0) S S5 := f4.tr (fr_pI e5 (by unfold w1_f_X4_write; exact Or.inl (⟨rfl, rfl⟩)))
    exact fr_e1 h6 f7
def w1_f_X5_readValue (a k : Nat) : Prop := (a = 1 ∧ k = 2) ∨ (a = 1 ∧ k = 3) ∨ (a = 1 ∧ k = 4) ∨ (a = 38 ∧ k = 3) ∨ (a = 40 ∧ k = 2) ∨ a = 41
def w2_f_X5_readValue (a k : Nat) : Prop := False
theorem fr_f_X5_readValue {S : fS} {r : Int32 × fS} (h : f_X5_readValue S = some r) : Fr (w1_f_X5_readValue) (w2_f_X5_readValue) S r.2 := by
  unfold f_X5_readValue at h
  obtain ⟨q1, e1, h2⟩ := Option.bind_eq_some_iff.mp h
  have f3 : Fr (w1_f_X5_readValue) (w2_f_X5_readValue) S q1 := (Fr.rf (S := S)).tr (Fr.mo (fr_f_X7_skipBlanks e1) (fun a k q => by unfold w1_f_X7_skipBlanks at q; unfold w1_f_X5_readValue; exact Or.inl (q)) (fun _ _ q => False.elim q))
  obtain ⟨q4, e4, h5⟩ := Option.bind_eq_some_iff.mp h2
  rcases fr_ite h5 with h6 | h6
  ·
    obtain ⟨q8, e7, h8⟩ := Option.bind_eq_some_iff.mp h6
    have f9 : Fr (w1_f_X5_readValue) (w2_f_X5_readValue) S q8.2 := f3.tr (Fr.mo (fr_f_X5_takeName e7) (fun a k q => by unfold w1_f_X5_takeName at q; unfold w1_f_X5_readValue; rcases q with q | q; exact Or.inl (q); exact Or.inr (Or.inl (q))) (fun _ _ q => False.elim q))
    rcases fr_ite h8 with h10 | h10
    ·
      rcases fr_ite h10 with h11 | h11
      ·
        obtain ⟨q13, e12, h13⟩ := Option.bind_eq_some_iff.mp h11
        have f14 : Fr (w1_f_X5_readValue) (w2_f_X5_readValue) S q13.2 := f9.tr (Fr.mo (fr_f_X5_isRoomForOne e12) (fun a k q => by unfold w1_f_X5_isRoomForOne at q; unfold w1_f_X5_readValue; rcases q with q | q; exact Or.inr (Or.inr (Or.inl (q))); exact Or.inr (Or.inr (Or.inr (Or.inl (q))))) (fun _ _ q => False.elim q))
        rcases fr_ite h13 with h15 | h15
        ·
          exact fr_e2 h15 f14
        ·
          rcases fr_ite h15 with h16 | h16
          ·
            obtain ⟨q18, e17, h18⟩ := Option.bind_eq_some_iff.mp h16
            have f19 : Fr (w1_f_X5_readValue) (w2_f_X5_readValue) S q18 := f14.tr (Fr.mo (fr_f_X4_write e17) (fun a k q => by unfold w1_f_X4_write at q; unfold w1_f_X5_readValue; rcases q with q | q; exact Or.inr (Or.inr (Or.inr (Or.inr (Or.inl (q))))); exact Or.inr (Or.inr (Or.inr (Or.inr (Or.inr ((q))))))) (fun _ _ q => False.elim q))
            exact fr_e2 h18 f19
          ·
            obtain ⟨q21, e20, h21⟩ := Option.bind_eq_some_iff.mp h16
            have f22 : Fr (w1_f_X5_readValue) (w2_f_X5_readValue) S q21 := f14.tr (Fr.mo (fr_f_X4_write e20) (fun a k q => by unfold w1_f_X4_write at q; unfold w1_f_X5_readValue; rcases q with q | q; exact Or.inr (Or.inr (Or.inr (Or.inr (Or.inl (q))))); exact Or.inr (Or.inr (Or.inr (Or.inr (Or.inr ((q))))))) (fun _ _ q => False.elim q))
            exact fr_e2 h21 f22
      ·
        exact fr_e2 h11 f9
    ·
      rcases fr_ite h10 with h23 | h23
      ·
        obtain ⟨q37, e24, h25⟩ := Option.bind_eq_some_iff.mp h23
        have f26 : Fr (w1_f_X5_readValue) (w2_f_X5_readValue) S q37.2 := f9.tr (Fr.mo (fr_f_X7_fail e24) (fun a k q => by unfold w1_f_X7_fail at q; unfold w1_f_X5_readValue; exact Or.inr (Or.inr (Or.inl (q)))) (fun _ _ q => False.elim q))
        obtain ⟨z40, e27, h28⟩ := Option.bind_eq_some_iff.mp h25
        exact fr_e2 h28 f26
      ·
        rcases fr_ite h23 with h29 | h29
        ·
          obtain ⟨q26, e30, h31⟩ := Option.bind_eq_some_iff.mp h29
          have f32 : Fr (w1_f_X5_readValue) (w2_f_X5_readValue) S q26.2 := f9.tr (Fr.mo (fr_f_X5_isRoomForOne e30) (fun a k q => by unfold w1_f_X5_isRoomForOne at q; unfold w1_f_X5_readValue; rcases q with q | q; exact Or.inr (Or.inr (Or.inl (q))); exact Or.inr (Or.inr (Or.inr (Or.inl (q))))) (fun _ _ q => False.elim q))
          rcases fr_ite h31 with h33 | h33
          ·
            exact fr_e2 h33 f32
          ·
            rcases fr_ite h33 with h34 | h34
            ·
              obtain ⟨q31, e35, h36⟩ := Option.bind_eq_some_iff.mp h34
              have f37 : Fr (w1_f_X5_readValue) (w2_f_X5_readValue) S q31 := f32.tr (Fr.mo (fr_f_X4_write e35) (fun a k q => by unfold w1_f_X4_write at q; unfold w1_f_X5_readValue; rcases q with q | q; exact Or.inr (Or.inr (Or.inr (Or.inr (Or.inl (q))))); exact Or.inr (Or.inr (Or.inr (Or.inr (Or.inr ((q))))))) (fun _ _ q => False.elim q))
              exact fr_e2 h36 f37
            ·
              obtain ⟨q34, e38, h39⟩ := Option.bind_eq_some_iff.mp h34
              have f40 : Fr (w1_f_X5_readValue) (w2_f_X5_readValue) S q34 := f32.tr (Fr.mo (fr_f_X4_write e38) (fun a k q => by unfold w1_f_X4_write at q; unfold w1_f_X5_readValue; rcases q with q | q; exact Or.inr (Or.inr (Or.inr (Or.inr (Or.inl (q))))); exact Or.inr (Or.inr (Or.inr (Or.inr (Or.inr ((q))))))) (fun _ _ q => False.elim q))
              exact fr_e2 h39 f40
        ·
          exact fr_e2 h29 f9
  ·
    obtain ⟨q45, e41, h42⟩ := Option.bind_eq_some_iff.mp h6
    have f43 : Fr (w1_f_X5_readValue) (w2_f_X5_readValue) S q45.2 := f3.tr (Fr.mo (fr_f_X7_takeNumber e41) (fun a k q => by unfold w1_f_X7_takeNumber at q; unfold w1_f_X5_readValue; rcases q with q | q | q; exact Or.inl (q); exact Or.inr (Or.inl (q)); exact Or.inr (Or.inr (Or.inl (q)))) (fun _ _ q => False.elim q))
    rcases fr_ite h42 with h44 | h44
    ·
      rcases fr_ite h44 with h45 | h45
      ·
        obtain ⟨q50, e46, h47⟩ := Option.bind_eq_some_iff.mp h45
        have f48 : Fr (w1_f_X5_readValue) (w2_f_X5_readValue) S q50.2 := f43.tr (Fr.mo (fr_f_X5_isRoomForOne e46) (fun a k q => by unfold w1_f_X5_isRoomForOne at q; unfold w1_f_X5_readValue; rcases q with q | q; exact Or.inr (Or.inr (Or.inl (q))); exact Or.inr (Or.inr (Or.inr (Or.inl (q))))) (fun _ _ q => False.elim q))
        rcases fr_ite h47 with h49 | h49
        ·
          exact fr_e2 h49 f48
        ·
          rcases fr_ite h49 with h50 | h50
          ·
            obtain ⟨q55, e51, h52⟩ := Option.bind_eq_some_iff.mp h50
            have f53 : Fr (w1_f_X5_readValue) (w2_f_X5_readValue) S q55 := f48.tr (Fr.mo (fr_f_X4_write e51) (fun a k q => by unfold w1_f_X4_write at q; unfold w1_f_X5_readValue; rcases q with q | q; exact Or.inr (Or.inr (Or.inr (Or.inr (Or.inl (q))))); exact Or.inr (Or.inr (Or.inr (Or.inr (Or.inr ((q))))))) (fun _ _ q => False.elim q))
            exact fr_e2 h52 f53
          ·
            obtain ⟨q58, e54, h55⟩ := Option.bind_eq_some_iff.mp h50
            have f56 : Fr (w1_f_X5_readValue) (w2_f_X5_readValue) S q58 := f48.tr (Fr.mo (fr_f_X4_write e54) (fun a k q => by unfold w1_f_X4_write at q; unfold w1_f_X5_readValue; rcases q with q | q; exact Or.inr (Or.inr (Or.inr (Or.inr (Or.inl (q))))); exact Or.inr (Or.inr (Or.inr (Or.inr (Or.inr ((q))))))) (fun _ _ q => False.elim q))
            exact fr_e2 h55 f56
      ·
        exact fr_e2 h45 f43
    ·
      rcases fr_ite h44 with h57 | h57
      ·
        obtain ⟨q74, e58, h59⟩ := Option.bind_eq_some_iff.mp h57
        have f60 : Fr (w1_f_X5_readValue) (w2_f_X5_readValue) S q74.2 := f43.tr (Fr.mo (fr_f_X7_fail e58) (fun a k q => by unfold w1_f_X7_fail at q; unfold w1_f_X5_readValue; exact Or.inr (Or.inr (Or.inl (q)))) (fun _ _ q => False.elim q))
        obtain ⟨z77, e61, h62⟩ := Option.bind_eq_some_iff.mp h59
        exact fr_e2 h62 f60
      ·
        rcases fr_ite h57 with h63 | h63
        ·
          obtain ⟨q63, e64, h65⟩ := Option.bind_eq_some_iff.mp h63
          have f66 : Fr (w1_f_X5_readValue) (w2_f_X5_readValue) S q63.2 := f43.tr (Fr.mo (fr_f_X5_isRoomForOne e64) (fun a k q => by unfold w1_f_X5_isRoomForOne at q; unfold w1_f_X5_readValue; rcases q with q | q; exact Or.inr (Or.inr (Or.inl (q))); exact Or.inr (Or.inr (Or.inr (Or.inl (q))))) (fun _ _ q => False.elim q))
          rcases fr_ite h65 with h67 | h67
          ·
            exact fr_e2 h67 f66
          ·
            rcases fr_ite h67 with h68 | h68
            ·
              obtain ⟨q68, e69, h70⟩ := Option.bind_eq_some_iff.mp h68
              have f71 : Fr (w1_f_X5_readValue) (w2_f_X5_readValue) S q68 := f66.tr (Fr.mo (fr_f_X4_write e69) (fun a k q => by unfold w1_f_X4_write at q; unfold w1_f_X5_readValue; rcases q with q | q; exact Or.inr (Or.inr (Or.inr (Or.inr (Or.inl (q))))); exact Or.inr (Or.inr (Or.inr (Or.inr (Or.inr ((q))))))) (fun _ _ q => False.elim q))
              exact fr_e2 h70 f71
            ·
              obtain ⟨q71, e72, h73⟩ := Option.bind_eq_some_iff.mp h68
              have f74 : Fr (w1_f_X5_readValue) (w2_f_X5_readValue) S q71 := f66.tr (Fr.mo (fr_f_X4_write e72) (fun a k q => by unfold w1_f_X4_write at q; unfold w1_f_X5_readValue; rcases q with q | q; exact Or.inr (Or.inr (Or.inr (Or.inr (Or.inl (q))))); exact Or.inr (Or.inr (Or.inr (Or.inr (Or.inr ((q))))))) (fun _ _ q => False.elim q))
              exact fr_e2 h73 f74
        ·
          exact fr_e2 h63 f43
def w1_f_X5_takeReckoning (a k : Nat) : Prop := (a = 1 ∧ k = 2) ∨ (a = 1 ∧ k = 3)
def w2_f_X5_takeReckoning (a k : Nat) : Prop := False
theorem fr_f_X5_takeReckoning {S : fS} {r : Int32 × fS} (h : f_X5_takeReckoning S = some r) : Fr (w1_f_X5_takeReckoning) (w2_f_X5_takeReckoning) S r.2 := by
  unfold f_X5_takeReckoning at h
  obtain ⟨q1, e1, h2⟩ := Option.bind_eq_some_iff.mp h
  have f3 : Fr (w1_f_X5_takeReckoning) (w2_f_X5_takeReckoning) S q1.2 := (Fr.rf (S := S)).tr (Fr.mo (fr_f_X7_takeSign e1) (fun a k q => by unfold w1_f_X7_takeSign at q; unfold w1_f_X5_takeReckoning; rcases q with q | q; exact Or.inl (q); exact Or.inr ((q))) (fun _ _ q => False.elim q))
  rcases fr_ite h2 with h4 | h4
  ·
    obtain ⟨q5, e5, h6⟩ := Option.bind_eq_some_iff.mp h4
    have f7 : Fr (w1_f_X5_takeReckoning) (w2_f_X5_takeReckoning) S q5.2 := f3.tr (Fr.mo (fr_f_X7_takeSign e5) (fun a k q => by unfold w1_f_X7_takeSign at q; unfold w1_f_X5_takeReckoning; rcases q with q | q; exact Or.inl (q); exact Or.inr ((q))) (fun _ _ q => False.elim q))
    rcases fr_ite h6 with h8 | h8
    ·
      obtain ⟨q9, e9, h10⟩ := Option.bind_eq_some_iff.mp h8
      have f11 : Fr (w1_f_X5_takeReckoning) (w2_f_X5_takeReckoning) S q9.2 := f7.tr (Fr.mo (fr_f_X7_takeSign e9) (fun a k q => by unfold w1_f_X7_takeSign at q; unfold w1_f_X5_takeReckoning; rcases q with q | q; exact Or.inl (q); exact Or.inr ((q))) (fun _ _ q => False.elim q))
      rcases fr_ite h10 with h12 | h12
      ·
        obtain ⟨q13, e13, h14⟩ := Option.bind_eq_some_iff.mp h12
        have f15 : Fr (w1_f_X5_takeReckoning) (w2_f_X5_takeReckoning) S q13.2 := f11.tr (Fr.mo (fr_f_X7_takeSign e13) (fun a k q => by unfold w1_f_X7_takeSign at q; unfold w1_f_X5_takeReckoning; rcases q with q | q; exact Or.inl (q); exact Or.inr ((q))) (fun _ _ q => False.elim q))
        rcases fr_ite h14 with h16 | h16
        ·
          exact fr_e2 h16 f15
        ·
          exact fr_e2 h16 f15
      ·
        exact fr_e2 h12 f11
    ·
      exact fr_e2 h8 f7
  ·
    exact fr_e2 h4 f3
def w1_lp_X5_settle_0 (a k : Nat) : Prop := (a = 38 ∧ k = 4) ∨ (a = 38 ∧ k = 6) ∨ (a = 40 ∧ k = 2) ∨ a = 41
def w2_lp_X5_settle_0 (a k : Nat) : Prop := False
theorem fr_lp_X5_settle_0 {p1 : Int32} {K : fS → Option (fS)} {r : fS} {v1 v2 : Nat → Nat → Prop} (s1 : ∀ a k, w1_lp_X5_settle_0 a k → v1 a k) (s2 : ∀ a k, w2_lp_X5_settle_0 a k → v2 a k) (hK : ∀ (x0 : fS), K x0 = some r → Fr v1 v2 x0 r) : ∀ (n : Nat) (S0 : fS), lp_X5_settle_0 p1 K n S0 = some r → Fr v1 v2 S0 r := by
  intro n
  induction n with
  | zero => intro S0 h; exact mm_no h
  | succ n ih =>
    intro S0 h
    rw [lp_X5_settle_0.eq_2] at h
    rcases fr_ite h with h1 | h1
    ·
      exact (Fr.rf (S := S0)).tr (hK _ h1)
    ·
      obtain ⟨a2, e2, h3⟩ := Option.bind_eq_some_iff.mp h1
      obtain ⟨a5, e4, h5⟩ := Option.bind_eq_some_iff.mp h3
      rcases fr_ite h5 with h6 | h6
      ·
        exact (Fr.rf (S := S0)).tr (hK _ h6)
      ·
        obtain ⟨S9, e7, h8⟩ := Option.bind_eq_some_iff.mp h6
        have f9 : Fr v1 v2 S0 S9 := (Fr.rf (S := S0)).tr (fr_pI e7 (by refine s1 _ _ ?_; unfold w1_lp_X5_settle_0; exact Or.inl (⟨rfl, rfl⟩)))
        obtain ⟨a12, e10, h11⟩ := Option.bind_eq_some_iff.mp h8
        obtain ⟨q15, e12, h13⟩ := Option.bind_eq_some_iff.mp h11
        have f14 : Fr v1 v2 S0 q15 := f9.tr (Fr.mo (fr_f_X4_write e12) (fun a k q => by refine s1 _ _ ?_; unfold w1_f_X4_write at q; unfold w1_lp_X5_settle_0; rcases q with q | q; exact Or.inr (Or.inr (Or.inl (q))); exact Or.inr (Or.inr (Or.inr ((q))))) (fun _ _ q => False.elim q))
        obtain ⟨a18, e15, h16⟩ := Option.bind_eq_some_iff.mp h13
        rcases fr_ite h16 with h17 | h17
        ·
          obtain ⟨S25, e18, h19⟩ := Option.bind_eq_some_iff.mp h17
          have f20 : Fr v1 v2 S0 S25 := f14.tr (fr_pI e18 (by refine s1 _ _ ?_; unfold w1_lp_X5_settle_0; exact Or.inr (Or.inl (⟨rfl, rfl⟩))))
          exact f20.tr (ih _ h19)
        ·
          obtain ⟨S22, e21, h22⟩ := Option.bind_eq_some_iff.mp h17
          have f23 : Fr v1 v2 S0 S22 := f14.tr (fr_pI e21 (by refine s1 _ _ ?_; unfold w1_lp_X5_settle_0; exact Or.inr (Or.inl (⟨rfl, rfl⟩))))
          exact f23.tr (ih _ h22)
def w1_f_X5_settle (a k : Nat) : Prop := (a = 38 ∧ k = 4) ∨ (a = 38 ∧ k = 6) ∨ (a = 40 ∧ k = 2) ∨ a = 41
def w2_f_X5_settle (a k : Nat) : Prop := False
theorem fr_f_X5_settle {v1 : Int32} {S : fS} {r : fS} (h : f_X5_settle v1 S = some r) : Fr (w1_f_X5_settle) (w2_f_X5_settle) S r := by
  unfold f_X5_settle at h
  refine (Fr.rf (S := S)).tr (fr_lp_X5_settle_0 (v1 := w1_f_X5_settle) (v2 := w2_f_X5_settle) (fun a k q => by unfold w1_lp_X5_settle_0 at q; unfold w1_f_X5_settle; rcases q with q | q | q | q; exact Or.inl (q); exact Or.inr (Or.inl (q)); exact Or.inr (Or.inr (Or.inl (q))); exact Or.inr (Or.inr (Or.inr ((q))))) (fun _ _ q => False.elim q) (fun S28 h1 => ?_) _ _ h)
  exact fr_e1 h1 (Fr.rf (S := S28))
def w1_lp_X5_closeBrackets_0 (a k : Nat) : Prop := (a = 1 ∧ k = 2) ∨ (a = 1 ∧ k = 3) ∨ (a = 38 ∧ k = 4) ∨ (a = 38 ∧ k = 5) ∨ (a = 38 ∧ k = 6) ∨ (a = 40 ∧ k = 2) ∨ a = 41
def w2_lp_X5_closeBrackets_0 (a k : Nat) : Prop := False
theorem fr_lp_X5_closeBrackets_0 {K : fS → Option (fS)} {r : fS} {v1 v2 : Nat → Nat → Prop} (s1 : ∀ a k, w1_lp_X5_closeBrackets_0 a k → v1 a k) (s2 : ∀ a k, w2_lp_X5_closeBrackets_0 a k → v2 a k) (hK : ∀ (x0 : fS), K x0 = some r → Fr v1 v2 x0 r) : ∀ (n : Nat) (S0 : fS), lp_X5_closeBrackets_0 K n S0 = some r → Fr v1 v2 S0 r := by
  intro n
  induction n with
  | zero => intro S0 h; exact mm_no h
  | succ n ih =>
    intro S0 h
    rw [lp_X5_closeBrackets_0.eq_2] at h
    rcases fr_ite h with h1 | h1
    ·
      exact (Fr.rf (S := S0)).tr (hK _ h1)
    ·
      obtain ⟨q2, e2, h3⟩ := Option.bind_eq_some_iff.mp h1
      have f4 : Fr v1 v2 S0 q2.2 := (Fr.rf (S := S0)).tr (Fr.mo (fr_f_X7_takeSign e2) (fun a k q => by refine s1 _ _ ?_; unfold w1_f_X7_takeSign at q; unfold w1_lp_X5_closeBrackets_0; rcases q with q | q; exact Or.inl (q); exact Or.inr (Or.inl (q))) (fun _ _ q => False.elim q))
      rcases fr_ite h3 with h5 | h5
      ·
        exact f4.tr (hK _ h5)
      ·
        obtain ⟨a6, e6, h7⟩ := Option.bind_eq_some_iff.mp h5
        obtain ⟨q9, e8, h9⟩ := Option.bind_eq_some_iff.mp h7
        have f10 : Fr v1 v2 S0 q9 := f4.tr (Fr.mo (fr_f_X5_settle e8) (fun a k q => by refine s1 _ _ ?_; unfold w1_f_X5_settle at q; unfold w1_lp_X5_closeBrackets_0; rcases q with q | q | q | q; exact Or.inr (Or.inr (Or.inl (q))); exact Or.inr (Or.inr (Or.inr (Or.inr (Or.inl (q))))); exact Or.inr (Or.inr (Or.inr (Or.inr (Or.inr (Or.inl (q)))))); exact Or.inr (Or.inr (Or.inr (Or.inr (Or.inr (Or.inr ((q)))))))) (fun _ _ q => False.elim q))
        obtain ⟨q12, e11, h12⟩ := Option.bind_eq_some_iff.mp h9
        obtain ⟨S15, e13, h14⟩ := Option.bind_eq_some_iff.mp h12
        have f15 : Fr v1 v2 S0 S15 := f10.tr (fr_pI e13 (by refine s1 _ _ ?_; unfold w1_lp_X5_closeBrackets_0; exact Or.inr (Or.inr (Or.inl (⟨rfl, rfl⟩)))))
        obtain ⟨S18, e16, h17⟩ := Option.bind_eq_some_iff.mp h14
        have f18 : Fr v1 v2 S0 S18 := f15.tr (fr_pI e16 (by refine s1 _ _ ?_; unfold w1_lp_X5_closeBrackets_0; exact Or.inr (Or.inr (Or.inr (Or.inr (Or.inl (⟨rfl, rfl⟩)))))))
        obtain ⟨S21, e19, h20⟩ := Option.bind_eq_some_iff.mp h17
        have f21 : Fr v1 v2 S0 S21 := f18.tr (fr_pI e19 (by refine s1 _ _ ?_; unfold w1_lp_X5_closeBrackets_0; exact Or.inr (Or.inr (Or.inr (Or.inl (⟨rfl, rfl⟩))))))
        exact f21.tr (ih _ h20)
def w1_f_X5_closeBrackets (a k : Nat) : Prop := (a = 1 ∧ k = 2) ∨ (a = 1 ∧ k = 3) ∨ (a = 38 ∧ k = 4) ∨ (a = 38 ∧ k = 5) ∨ (a = 38 ∧ k = 6) ∨ (a = 40 ∧ k = 2) ∨ a = 41
def w2_f_X5_closeBrackets (a k : Nat) : Prop := False
theorem fr_f_X5_closeBrackets {S : fS} {r : fS} (h : f_X5_closeBrackets S = some r) : Fr (w1_f_X5_closeBrackets) (w2_f_X5_closeBrackets) S r := by
  unfold f_X5_closeBrackets at h
  refine (Fr.rf (S := S)).tr (fr_lp_X5_closeBrackets_0 (v1 := w1_f_X5_closeBrackets) (v2 := w2_f_X5_closeBrackets) (fun a k q => by unfold w1_lp_X5_closeBrackets_0 at q; unfold w1_f_X5_closeBrackets; rcases q with q | q | q | q | q | q | q; exact Or.inl (q); exact Or.inr (Or.inl (q)); exact Or.inr (Or.inr (Or.inl (q))); exact Or.inr (Or.inr (Or.inr (Or.inl (q)))); exact Or.inr (Or.inr (Or.inr (Or.inr (Or.inl (q))))); exact Or.inr (Or.inr (Or.inr (Or.inr (Or.inr (Or.inl (q)))))); exact Or.inr (Or.inr (Or.inr (Or.inr (Or.inr (Or.inr ((q)))))))) (fun _ _ q => False.elim q) (fun S24 h1 => ?_) _ _ h)
  exact fr_e1 h1 (Fr.rf (S := S24))
def w1_f_X5_takeJoining (a k : Nat) : Prop := (a = 1 ∧ k = 2) ∨ (a = 1 ∧ k = 3)
def w2_f_X5_takeJoining (a k : Nat) : Prop := False
theorem fr_f_X5_takeJoining {S : fS} {r : Int32 × fS} (h : f_X5_takeJoining S = some r) : Fr (w1_f_X5_takeJoining) (w2_f_X5_takeJoining) S r.2 := by
  unfold f_X5_takeJoining at h
  obtain ⟨q1, e1, h2⟩ := Option.bind_eq_some_iff.mp h
  have f3 : Fr (w1_f_X5_takeJoining) (w2_f_X5_takeJoining) S q1.2 := (Fr.rf (S := S)).tr (Fr.mo (fr_f_X7_takeWord e1) (fun a k q => by unfold w1_f_X7_takeWord at q; unfold w1_f_X5_takeJoining; rcases q with q | q; exact Or.inl (q); exact Or.inr ((q))) (fun _ _ q => False.elim q))
  rcases fr_ite h2 with h4 | h4
  ·
    obtain ⟨q5, e5, h6⟩ := Option.bind_eq_some_iff.mp h4
    have f7 : Fr (w1_f_X5_takeJoining) (w2_f_X5_takeJoining) S q5.2 := f3.tr (Fr.mo (fr_f_X7_takeWord e5) (fun a k q => by unfold w1_f_X7_takeWord at q; unfold w1_f_X5_takeJoining; rcases q with q | q; exact Or.inl (q); exact Or.inr ((q))) (fun _ _ q => False.elim q))
    rcases fr_ite h6 with h8 | h8
    ·
      exact fr_e2 h8 f7
    ·
      exact fr_e2 h8 f7
  ·
    exact fr_e2 h4 f3
def w1_f_X5_isTestOver (a k : Nat) : Prop := (a = 1 ∧ k = 4) ∨ (a = 38 ∧ k = 4) ∨ (a = 38 ∧ k = 6) ∨ (a = 40 ∧ k = 2) ∨ a = 41
def w2_f_X5_isTestOver (a k : Nat) : Prop := False
theorem fr_f_X5_isTestOver {S : fS} {r : Int32 × fS} (h : f_X5_isTestOver S = some r) : Fr (w1_f_X5_isTestOver) (w2_f_X5_isTestOver) S r.2 := by
  unfold f_X5_isTestOver at h
  obtain ⟨a1, e1, h2⟩ := Option.bind_eq_some_iff.mp h
  obtain ⟨q4, e3, h4⟩ := Option.bind_eq_some_iff.mp h2
  have f5 : Fr (w1_f_X5_isTestOver) (w2_f_X5_isTestOver) S q4 := (Fr.rf (S := S)).tr (Fr.mo (fr_f_X5_settle e3) (fun a k q => by unfold w1_f_X5_settle at q; unfold w1_f_X5_isTestOver; rcases q with q | q | q | q; exact Or.inr (Or.inl (q)); exact Or.inr (Or.inr (Or.inl (q))); exact Or.inr (Or.inr (Or.inr (Or.inl (q)))); exact Or.inr (Or.inr (Or.inr (Or.inr ((q)))))) (fun _ _ q => False.elim q))
  rcases fr_ite h4 with h6 | h6
  ·
    exact fr_e2 h6 f5
  ·
    obtain ⟨q8, e7, h8⟩ := Option.bind_eq_some_iff.mp h6
    have f9 : Fr (w1_f_X5_isTestOver) (w2_f_X5_isTestOver) S q8.2 := f5.tr (Fr.mo (fr_f_X7_fail e7) (fun a k q => by unfold w1_f_X7_fail at q; unfold w1_f_X5_isTestOver; exact Or.inl (q)) (fun _ _ q => False.elim q))
    rcases fr_ite h8 with h10 | h10
    ·
      exact fr_e2 h10 f9
    ·
      exact fr_e2 h10 f9
def w1_f_X5_takeComparing (a k : Nat) : Prop := (a = 1 ∧ k = 2) ∨ (a = 1 ∧ k = 3)
def w2_f_X5_takeComparing (a k : Nat) : Prop := False
theorem fr_f_X5_takeComparing {S : fS} {r : Int32 × fS} (h : f_X5_takeComparing S = some r) : Fr (w1_f_X5_takeComparing) (w2_f_X5_takeComparing) S r.2 := by
  unfold f_X5_takeComparing at h
  obtain ⟨q1, e1, h2⟩ := Option.bind_eq_some_iff.mp h
  have f3 : Fr (w1_f_X5_takeComparing) (w2_f_X5_takeComparing) S q1.2 := (Fr.rf (S := S)).tr (Fr.mo (fr_f_X7_takeSign e1) (fun a k q => by unfold w1_f_X7_takeSign at q; unfold w1_f_X5_takeComparing; rcases q with q | q; exact Or.inl (q); exact Or.inr ((q))) (fun _ _ q => False.elim q))
  rcases fr_ite h2 with h4 | h4
  ·
    obtain ⟨q5, e5, h6⟩ := Option.bind_eq_some_iff.mp h4
    have f7 : Fr (w1_f_X5_takeComparing) (w2_f_X5_takeComparing) S q5.2 := f3.tr (Fr.mo (fr_f_X7_takeSign e5) (fun a k q => by unfold w1_f_X7_takeSign at q; unfold w1_f_X5_takeComparing; rcases q with q | q; exact Or.inl (q); exact Or.inr ((q))) (fun _ _ q => False.elim q))
    rcases fr_ite h6 with h8 | h8
    ·
      obtain ⟨q18, e9, h10⟩ := Option.bind_eq_some_iff.mp h8
      have f11 : Fr (w1_f_X5_takeComparing) (w2_f_X5_takeComparing) S q18.2 := f7.tr (Fr.mo (fr_f_X7_takeSign e9) (fun a k q => by unfold w1_f_X7_takeSign at q; unfold w1_f_X5_takeComparing; rcases q with q | q; exact Or.inl (q); exact Or.inr ((q))) (fun _ _ q => False.elim q))
      rcases fr_ite h10 with h12 | h12
      ·
        exact fr_e2 h12 f11
      ·
        obtain ⟨q22, e13, h14⟩ := Option.bind_eq_some_iff.mp h12
        rcases fr_ite h14 with h15 | h15
        ·
          obtain ⟨S26, e16, h17⟩ := Option.bind_eq_some_iff.mp h15
          have f18 : Fr (w1_f_X5_takeComparing) (w2_f_X5_takeComparing) S S26 := f11.tr (fr_pI e16 (by unfold w1_f_X5_takeComparing; exact Or.inl (⟨rfl, rfl⟩)))
          rcases fr_ite h17 with h19 | h19
          ·
            exact fr_e2 h19 f18
          ·
            exact fr_e2 h19 f18
        ·
          rcases fr_ite h15 with h20 | h20
          ·
            exact fr_e2 h20 f11
          ·
            exact fr_e2 h20 f11
    ·
      obtain ⟨q9, e21, h22⟩ := Option.bind_eq_some_iff.mp h8
      rcases fr_ite h22 with h23 | h23
      ·
        obtain ⟨S13, e24, h25⟩ := Option.bind_eq_some_iff.mp h23
        have f26 : Fr (w1_f_X5_takeComparing) (w2_f_X5_takeComparing) S S13 := f7.tr (fr_pI e24 (by unfold w1_f_X5_takeComparing; exact Or.inl (⟨rfl, rfl⟩)))
        rcases fr_ite h25 with h27 | h27
        ·
          exact fr_e2 h27 f26
        ·
          exact fr_e2 h27 f26
      ·
        rcases fr_ite h23 with h28 | h28
        ·
          exact fr_e2 h28 f7
        ·
          exact fr_e2 h28 f7
  ·
    exact fr_e2 h4 f3
def w1_lp_X5_readTest_21 (a k : Nat) : Prop := (a = 1 ∧ k = 2) ∨ (a = 1 ∧ k = 3) ∨ (a = 1 ∧ k = 4) ∨ (a = 38 ∧ k = 3) ∨ (a = 38 ∧ k = 4) ∨ (a = 38 ∧ k = 5) ∨ (a = 38 ∧ k = 6) ∨ a = 39 ∨ (a = 40 ∧ k = 2) ∨ a = 41
def w2_lp_X5_readTest_21 (a k : Nat) : Prop := False
theorem fr_lp_X5_readTest_21 {K : fS → Option (Int32 × fS)} {r : Int32 × fS} {v1 v2 : Nat → Nat → Prop} (s1 : ∀ a k, w1_lp_X5_readTest_21 a k → v1 a k) (s2 : ∀ a k, w2_lp_X5_readTest_21 a k → v2 a k) (hK : ∀ (x0 : fS), K x0 = some r → Fr v1 v2 x0 r.2) : ∀ (n : Nat) (p1 : Int32) (p2 : Int32) (p3 : Int32) (S0 : fS), lp_X5_readTest_21 K n p1 p2 p3 S0 = some r → Fr v1 v2 S0 r.2 := by
  intro n
  induction n with
  | zero => intro p1 p2 p3 S0 h; exact mm_no h
  | succ n ih =>
    intro p1 p2 p3 S0 h
    rw [lp_X5_readTest_21.eq_2] at h
    rcases fr_ite h with h1 | h1
    ·
      exact (Fr.rf (S := S0)).tr (hK _ h1)
    ·
      rcases fr_ite h1 with h2 | h2
      ·
        obtain ⟨q12, e3, h4⟩ := Option.bind_eq_some_iff.mp h2
        have f5 : Fr v1 v2 S0 q12.2 := (Fr.rf (S := S0)).tr (Fr.mo (fr_f_X5_readValue e3) (fun a k q => by refine s1 _ _ ?_; unfold w1_f_X5_readValue at q; unfold w1_lp_X5_readTest_21; rcases q with q | q | q | q | q | q; exact Or.inl (q); exact Or.inr (Or.inl (q)); exact Or.inr (Or.inr (Or.inl (q))); exact Or.inr (Or.inr (Or.inr (Or.inl (q)))); exact Or.inr (Or.inr (Or.inr (Or.inr (Or.inr (Or.inr (Or.inr (Or.inr (Or.inl (q))))))))); exact Or.inr (Or.inr (Or.inr (Or.inr (Or.inr (Or.inr (Or.inr (Or.inr (Or.inr ((q))))))))))) (fun _ _ q => False.elim q))
        rcases fr_ite h4 with h6 | h6
        ·
          exact fr_e2 h6 f5
        ·
          obtain ⟨q16, e7, h8⟩ := Option.bind_eq_some_iff.mp h6
          have f9 : Fr v1 v2 S0 q16.2 := f5.tr (Fr.mo (fr_f_X5_takeReckoning e7) (fun a k q => by refine s1 _ _ ?_; unfold w1_f_X5_takeReckoning at q; unfold w1_lp_X5_readTest_21; rcases q with q | q; exact Or.inl (q); exact Or.inr (Or.inl (q))) (fun _ _ q => False.elim q))
          rcases fr_ite h8 with h10 | h10
          ·
            rcases fr_ite h10 with h11 | h11
            ·
              rcases fr_ite h11 with h12 | h12
              ·
                obtain ⟨a22, e13, h14⟩ := Option.bind_eq_some_iff.mp h12
                obtain ⟨q25, e15, h16⟩ := Option.bind_eq_some_iff.mp h14
                have f17 : Fr v1 v2 S0 q25 := f9.tr (Fr.mo (fr_f_X5_settle e15) (fun a k q => by refine s1 _ _ ?_; unfold w1_f_X5_settle at q; unfold w1_lp_X5_readTest_21; rcases q with q | q | q | q; exact Or.inr (Or.inr (Or.inr (Or.inr (Or.inl (q))))); exact Or.inr (Or.inr (Or.inr (Or.inr (Or.inr (Or.inr (Or.inl (q))))))); exact Or.inr (Or.inr (Or.inr (Or.inr (Or.inr (Or.inr (Or.inr (Or.inr (Or.inl (q))))))))); exact Or.inr (Or.inr (Or.inr (Or.inr (Or.inr (Or.inr (Or.inr (Or.inr (Or.inr ((q))))))))))) (fun _ _ q => False.elim q))
                obtain ⟨q28, e18, h19⟩ := Option.bind_eq_some_iff.mp h16
                have f20 : Fr v1 v2 S0 q28 := f17.tr (Fr.mo (fr_f_X5_hold e18) (fun a k q => by refine s1 _ _ ?_; unfold w1_f_X5_hold at q; unfold w1_lp_X5_readTest_21; rcases q with q | q; exact Or.inr (Or.inr (Or.inr (Or.inr (Or.inl (q))))); exact Or.inr (Or.inr (Or.inr (Or.inr (Or.inr (Or.inr (Or.inr (Or.inl (q))))))))) (fun _ _ q => False.elim q))
                exact f20.tr (ih _ _ _ _ h19)
              ·
                obtain ⟨q31, e21, h22⟩ := Option.bind_eq_some_iff.mp h12
                have f23 : Fr v1 v2 S0 q31.2 := f9.tr (Fr.mo (fr_f_X5_takeComparing e21) (fun a k q => by refine s1 _ _ ?_; unfold w1_f_X5_takeComparing at q; unfold w1_lp_X5_readTest_21; rcases q with q | q; exact Or.inl (q); exact Or.inr (Or.inl (q))) (fun _ _ q => False.elim q))
                rcases fr_ite h22 with h24 | h24
                ·
                  obtain ⟨q35, e25, h26⟩ := Option.bind_eq_some_iff.mp h24
                  have f27 : Fr v1 v2 S0 q35.2 := f23.tr (Fr.mo (fr_f_X5_isRoomForOne e25) (fun a k q => by refine s1 _ _ ?_; unfold w1_f_X5_isRoomForOne at q; unfold w1_lp_X5_readTest_21; rcases q with q | q; exact Or.inr (Or.inr (Or.inl (q))); exact Or.inr (Or.inr (Or.inr (Or.inl (q))))) (fun _ _ q => False.elim q))
                  rcases fr_ite h26 with h28 | h28
                  ·
                    exact fr_e2 h28 f27
                  ·
                    obtain ⟨a39, e29, h30⟩ := Option.bind_eq_some_iff.mp h28
                    obtain ⟨q42, e31, h32⟩ := Option.bind_eq_some_iff.mp h30
                    have f33 : Fr v1 v2 S0 q42 := f27.tr (Fr.mo (fr_f_X5_settle e31) (fun a k q => by refine s1 _ _ ?_; unfold w1_f_X5_settle at q; unfold w1_lp_X5_readTest_21; rcases q with q | q | q | q; exact Or.inr (Or.inr (Or.inr (Or.inr (Or.inl (q))))); exact Or.inr (Or.inr (Or.inr (Or.inr (Or.inr (Or.inr (Or.inl (q))))))); exact Or.inr (Or.inr (Or.inr (Or.inr (Or.inr (Or.inr (Or.inr (Or.inr (Or.inl (q))))))))); exact Or.inr (Or.inr (Or.inr (Or.inr (Or.inr (Or.inr (Or.inr (Or.inr (Or.inr ((q))))))))))) (fun _ _ q => False.elim q))
                    obtain ⟨q45, e34, h35⟩ := Option.bind_eq_some_iff.mp h32
                    have f36 : Fr v1 v2 S0 q45 := f33.tr (Fr.mo (fr_f_X5_hold e34) (fun a k q => by refine s1 _ _ ?_; unfold w1_f_X5_hold at q; unfold w1_lp_X5_readTest_21; rcases q with q | q; exact Or.inr (Or.inr (Or.inr (Or.inr (Or.inl (q))))); exact Or.inr (Or.inr (Or.inr (Or.inr (Or.inr (Or.inr (Or.inr (Or.inl (q))))))))) (fun _ _ q => False.elim q))
                    exact f36.tr (ih _ _ _ _ h35)
                ·
                  obtain ⟨q48, e37, h38⟩ := Option.bind_eq_some_iff.mp h24
                  have f39 : Fr v1 v2 S0 q48.2 := f23.tr (Fr.mo (fr_f_X7_fail e37) (fun a k q => by refine s1 _ _ ?_; unfold w1_f_X7_fail at q; unfold w1_lp_X5_readTest_21; exact Or.inr (Or.inr (Or.inl (q)))) (fun _ _ q => False.elim q))
                  obtain ⟨z51, e40, h41⟩ := Option.bind_eq_some_iff.mp h38
                  exact fr_e2 h41 f39
            ·
              obtain ⟨q56, e42, h43⟩ := Option.bind_eq_some_iff.mp h11
              have f44 : Fr v1 v2 S0 q56 := f9.tr (Fr.mo (fr_f_X5_closeBrackets e42) (fun a k q => by refine s1 _ _ ?_; unfold w1_f_X5_closeBrackets at q; unfold w1_lp_X5_readTest_21; rcases q with q | q | q | q | q | q | q; exact Or.inl (q); exact Or.inr (Or.inl (q)); exact Or.inr (Or.inr (Or.inr (Or.inr (Or.inl (q))))); exact Or.inr (Or.inr (Or.inr (Or.inr (Or.inr (Or.inl (q)))))); exact Or.inr (Or.inr (Or.inr (Or.inr (Or.inr (Or.inr (Or.inl (q))))))); exact Or.inr (Or.inr (Or.inr (Or.inr (Or.inr (Or.inr (Or.inr (Or.inr (Or.inl (q))))))))); exact Or.inr (Or.inr (Or.inr (Or.inr (Or.inr (Or.inr (Or.inr (Or.inr (Or.inr ((q))))))))))) (fun _ _ q => False.elim q))
              obtain ⟨q59, e45, h46⟩ := Option.bind_eq_some_iff.mp h43
              have f47 : Fr v1 v2 S0 q59.2 := f44.tr (Fr.mo (fr_f_X5_takeJoining e45) (fun a k q => by refine s1 _ _ ?_; unfold w1_f_X5_takeJoining at q; unfold w1_lp_X5_readTest_21; rcases q with q | q; exact Or.inl (q); exact Or.inr (Or.inl (q))) (fun _ _ q => False.elim q))
              rcases fr_ite h46 with h48 | h48
              ·
                obtain ⟨a63, e49, h50⟩ := Option.bind_eq_some_iff.mp h48
                obtain ⟨q66, e51, h52⟩ := Option.bind_eq_some_iff.mp h50
                have f53 : Fr v1 v2 S0 q66 := f47.tr (Fr.mo (fr_f_X5_settle e51) (fun a k q => by refine s1 _ _ ?_; unfold w1_f_X5_settle at q; unfold w1_lp_X5_readTest_21; rcases q with q | q | q | q; exact Or.inr (Or.inr (Or.inr (Or.inr (Or.inl (q))))); exact Or.inr (Or.inr (Or.inr (Or.inr (Or.inr (Or.inr (Or.inl (q))))))); exact Or.inr (Or.inr (Or.inr (Or.inr (Or.inr (Or.inr (Or.inr (Or.inr (Or.inl (q))))))))); exact Or.inr (Or.inr (Or.inr (Or.inr (Or.inr (Or.inr (Or.inr (Or.inr (Or.inr ((q))))))))))) (fun _ _ q => False.elim q))
                obtain ⟨q69, e54, h55⟩ := Option.bind_eq_some_iff.mp h52
                have f56 : Fr v1 v2 S0 q69 := f53.tr (Fr.mo (fr_f_X5_hold e54) (fun a k q => by refine s1 _ _ ?_; unfold w1_f_X5_hold at q; unfold w1_lp_X5_readTest_21; rcases q with q | q; exact Or.inr (Or.inr (Or.inr (Or.inr (Or.inl (q))))); exact Or.inr (Or.inr (Or.inr (Or.inr (Or.inr (Or.inr (Or.inr (Or.inl (q))))))))) (fun _ _ q => False.elim q))
                exact f56.tr (ih _ _ _ _ h55)
              ·
                obtain ⟨q72, e57, h58⟩ := Option.bind_eq_some_iff.mp h48
                have f59 : Fr v1 v2 S0 q72.2 := f47.tr (Fr.mo (fr_f_X5_isTestOver e57) (fun a k q => by refine s1 _ _ ?_; unfold w1_f_X5_isTestOver at q; unfold w1_lp_X5_readTest_21; rcases q with q | q | q | q | q; exact Or.inr (Or.inr (Or.inl (q))); exact Or.inr (Or.inr (Or.inr (Or.inr (Or.inl (q))))); exact Or.inr (Or.inr (Or.inr (Or.inr (Or.inr (Or.inr (Or.inl (q))))))); exact Or.inr (Or.inr (Or.inr (Or.inr (Or.inr (Or.inr (Or.inr (Or.inr (Or.inl (q))))))))); exact Or.inr (Or.inr (Or.inr (Or.inr (Or.inr (Or.inr (Or.inr (Or.inr (Or.inr ((q))))))))))) (fun _ _ q => False.elim q))
                obtain ⟨z75, e60, h61⟩ := Option.bind_eq_some_iff.mp h58
                exact fr_e2 h61 f59
          ·
            rcases fr_ite h10 with h62 | h62
            ·
              rcases fr_ite h62 with h63 | h63
              ·
                rcases fr_ite h63 with h64 | h64
                ·
                  obtain ⟨a83, e65, h66⟩ := Option.bind_eq_some_iff.mp h64
                  obtain ⟨q86, e67, h68⟩ := Option.bind_eq_some_iff.mp h66
                  have f69 : Fr v1 v2 S0 q86 := f9.tr (Fr.mo (fr_f_X5_settle e67) (fun a k q => by refine s1 _ _ ?_; unfold w1_f_X5_settle at q; unfold w1_lp_X5_readTest_21; rcases q with q | q | q | q; exact Or.inr (Or.inr (Or.inr (Or.inr (Or.inl (q))))); exact Or.inr (Or.inr (Or.inr (Or.inr (Or.inr (Or.inr (Or.inl (q))))))); exact Or.inr (Or.inr (Or.inr (Or.inr (Or.inr (Or.inr (Or.inr (Or.inr (Or.inl (q))))))))); exact Or.inr (Or.inr (Or.inr (Or.inr (Or.inr (Or.inr (Or.inr (Or.inr (Or.inr ((q))))))))))) (fun _ _ q => False.elim q))
                  obtain ⟨q89, e70, h71⟩ := Option.bind_eq_some_iff.mp h68
                  have f72 : Fr v1 v2 S0 q89 := f69.tr (Fr.mo (fr_f_X5_hold e70) (fun a k q => by refine s1 _ _ ?_; unfold w1_f_X5_hold at q; unfold w1_lp_X5_readTest_21; rcases q with q | q; exact Or.inr (Or.inr (Or.inr (Or.inr (Or.inl (q))))); exact Or.inr (Or.inr (Or.inr (Or.inr (Or.inr (Or.inr (Or.inr (Or.inl (q))))))))) (fun _ _ q => False.elim q))
                  exact f72.tr (ih _ _ _ _ h71)
                ·
                  obtain ⟨q92, e73, h74⟩ := Option.bind_eq_some_iff.mp h64
                  have f75 : Fr v1 v2 S0 q92.2 := f9.tr (Fr.mo (fr_f_X5_takeComparing e73) (fun a k q => by refine s1 _ _ ?_; unfold w1_f_X5_takeComparing at q; unfold w1_lp_X5_readTest_21; rcases q with q | q; exact Or.inl (q); exact Or.inr (Or.inl (q))) (fun _ _ q => False.elim q))
                  rcases fr_ite h74 with h76 | h76
                  ·
                    obtain ⟨q96, e77, h78⟩ := Option.bind_eq_some_iff.mp h76
                    have f79 : Fr v1 v2 S0 q96.2 := f75.tr (Fr.mo (fr_f_X5_isRoomForOne e77) (fun a k q => by refine s1 _ _ ?_; unfold w1_f_X5_isRoomForOne at q; unfold w1_lp_X5_readTest_21; rcases q with q | q; exact Or.inr (Or.inr (Or.inl (q))); exact Or.inr (Or.inr (Or.inr (Or.inl (q))))) (fun _ _ q => False.elim q))
                    rcases fr_ite h78 with h80 | h80
                    ·
                      exact fr_e2 h80 f79
                    ·
                      obtain ⟨a100, e81, h82⟩ := Option.bind_eq_some_iff.mp h80
                      obtain ⟨q103, e83, h84⟩ := Option.bind_eq_some_iff.mp h82
                      have f85 : Fr v1 v2 S0 q103 := f79.tr (Fr.mo (fr_f_X5_settle e83) (fun a k q => by refine s1 _ _ ?_; unfold w1_f_X5_settle at q; unfold w1_lp_X5_readTest_21; rcases q with q | q | q | q; exact Or.inr (Or.inr (Or.inr (Or.inr (Or.inl (q))))); exact Or.inr (Or.inr (Or.inr (Or.inr (Or.inr (Or.inr (Or.inl (q))))))); exact Or.inr (Or.inr (Or.inr (Or.inr (Or.inr (Or.inr (Or.inr (Or.inr (Or.inl (q))))))))); exact Or.inr (Or.inr (Or.inr (Or.inr (Or.inr (Or.inr (Or.inr (Or.inr (Or.inr ((q))))))))))) (fun _ _ q => False.elim q))
                      obtain ⟨q106, e86, h87⟩ := Option.bind_eq_some_iff.mp h84
                      have f88 : Fr v1 v2 S0 q106 := f85.tr (Fr.mo (fr_f_X5_hold e86) (fun a k q => by refine s1 _ _ ?_; unfold w1_f_X5_hold at q; unfold w1_lp_X5_readTest_21; rcases q with q | q; exact Or.inr (Or.inr (Or.inr (Or.inr (Or.inl (q))))); exact Or.inr (Or.inr (Or.inr (Or.inr (Or.inr (Or.inr (Or.inr (Or.inl (q))))))))) (fun _ _ q => False.elim q))
                      exact f88.tr (ih _ _ _ _ h87)
                  ·
                    obtain ⟨q109, e89, h90⟩ := Option.bind_eq_some_iff.mp h76
                    have f91 : Fr v1 v2 S0 q109.2 := f75.tr (Fr.mo (fr_f_X7_fail e89) (fun a k q => by refine s1 _ _ ?_; unfold w1_f_X7_fail at q; unfold w1_lp_X5_readTest_21; exact Or.inr (Or.inr (Or.inl (q)))) (fun _ _ q => False.elim q))
                    obtain ⟨z112, e92, h93⟩ := Option.bind_eq_some_iff.mp h90
                    exact fr_e2 h93 f91
              ·
                obtain ⟨q117, e94, h95⟩ := Option.bind_eq_some_iff.mp h63
                have f96 : Fr v1 v2 S0 q117 := f9.tr (Fr.mo (fr_f_X5_closeBrackets e94) (fun a k q => by refine s1 _ _ ?_; unfold w1_f_X5_closeBrackets at q; unfold w1_lp_X5_readTest_21; rcases q with q | q | q | q | q | q | q; exact Or.inl (q); exact Or.inr (Or.inl (q)); exact Or.inr (Or.inr (Or.inr (Or.inr (Or.inl (q))))); exact Or.inr (Or.inr (Or.inr (Or.inr (Or.inr (Or.inl (q)))))); exact Or.inr (Or.inr (Or.inr (Or.inr (Or.inr (Or.inr (Or.inl (q))))))); exact Or.inr (Or.inr (Or.inr (Or.inr (Or.inr (Or.inr (Or.inr (Or.inr (Or.inl (q))))))))); exact Or.inr (Or.inr (Or.inr (Or.inr (Or.inr (Or.inr (Or.inr (Or.inr (Or.inr ((q))))))))))) (fun _ _ q => False.elim q))
                obtain ⟨q120, e97, h98⟩ := Option.bind_eq_some_iff.mp h95
                have f99 : Fr v1 v2 S0 q120.2 := f96.tr (Fr.mo (fr_f_X5_takeJoining e97) (fun a k q => by refine s1 _ _ ?_; unfold w1_f_X5_takeJoining at q; unfold w1_lp_X5_readTest_21; rcases q with q | q; exact Or.inl (q); exact Or.inr (Or.inl (q))) (fun _ _ q => False.elim q))
                rcases fr_ite h98 with h100 | h100
                ·
                  obtain ⟨a124, e101, h102⟩ := Option.bind_eq_some_iff.mp h100
                  obtain ⟨q127, e103, h104⟩ := Option.bind_eq_some_iff.mp h102
                  have f105 : Fr v1 v2 S0 q127 := f99.tr (Fr.mo (fr_f_X5_settle e103) (fun a k q => by refine s1 _ _ ?_; unfold w1_f_X5_settle at q; unfold w1_lp_X5_readTest_21; rcases q with q | q | q | q; exact Or.inr (Or.inr (Or.inr (Or.inr (Or.inl (q))))); exact Or.inr (Or.inr (Or.inr (Or.inr (Or.inr (Or.inr (Or.inl (q))))))); exact Or.inr (Or.inr (Or.inr (Or.inr (Or.inr (Or.inr (Or.inr (Or.inr (Or.inl (q))))))))); exact Or.inr (Or.inr (Or.inr (Or.inr (Or.inr (Or.inr (Or.inr (Or.inr (Or.inr ((q))))))))))) (fun _ _ q => False.elim q))
                  obtain ⟨q130, e106, h107⟩ := Option.bind_eq_some_iff.mp h104
                  have f108 : Fr v1 v2 S0 q130 := f105.tr (Fr.mo (fr_f_X5_hold e106) (fun a k q => by refine s1 _ _ ?_; unfold w1_f_X5_hold at q; unfold w1_lp_X5_readTest_21; rcases q with q | q; exact Or.inr (Or.inr (Or.inr (Or.inr (Or.inl (q))))); exact Or.inr (Or.inr (Or.inr (Or.inr (Or.inr (Or.inr (Or.inr (Or.inl (q))))))))) (fun _ _ q => False.elim q))
                  exact f108.tr (ih _ _ _ _ h107)
                ·
                  obtain ⟨q133, e109, h110⟩ := Option.bind_eq_some_iff.mp h100
                  have f111 : Fr v1 v2 S0 q133.2 := f99.tr (Fr.mo (fr_f_X5_isTestOver e109) (fun a k q => by refine s1 _ _ ?_; unfold w1_f_X5_isTestOver at q; unfold w1_lp_X5_readTest_21; rcases q with q | q | q | q | q; exact Or.inr (Or.inr (Or.inl (q))); exact Or.inr (Or.inr (Or.inr (Or.inr (Or.inl (q))))); exact Or.inr (Or.inr (Or.inr (Or.inr (Or.inr (Or.inr (Or.inl (q))))))); exact Or.inr (Or.inr (Or.inr (Or.inr (Or.inr (Or.inr (Or.inr (Or.inr (Or.inl (q))))))))); exact Or.inr (Or.inr (Or.inr (Or.inr (Or.inr (Or.inr (Or.inr (Or.inr (Or.inr ((q))))))))))) (fun _ _ q => False.elim q))
                  obtain ⟨z136, e112, h113⟩ := Option.bind_eq_some_iff.mp h110
                  exact fr_e2 h113 f111
            ·
              rcases fr_ite h62 with h114 | h114
              ·
                rcases fr_ite h114 with h115 | h115
                ·
                  obtain ⟨a143, e116, h117⟩ := Option.bind_eq_some_iff.mp h115
                  obtain ⟨q146, e118, h119⟩ := Option.bind_eq_some_iff.mp h117
                  have f120 : Fr v1 v2 S0 q146 := f9.tr (Fr.mo (fr_f_X5_settle e118) (fun a k q => by refine s1 _ _ ?_; unfold w1_f_X5_settle at q; unfold w1_lp_X5_readTest_21; rcases q with q | q | q | q; exact Or.inr (Or.inr (Or.inr (Or.inr (Or.inl (q))))); exact Or.inr (Or.inr (Or.inr (Or.inr (Or.inr (Or.inr (Or.inl (q))))))); exact Or.inr (Or.inr (Or.inr (Or.inr (Or.inr (Or.inr (Or.inr (Or.inr (Or.inl (q))))))))); exact Or.inr (Or.inr (Or.inr (Or.inr (Or.inr (Or.inr (Or.inr (Or.inr (Or.inr ((q))))))))))) (fun _ _ q => False.elim q))
                  obtain ⟨q149, e121, h122⟩ := Option.bind_eq_some_iff.mp h119
                  have f123 : Fr v1 v2 S0 q149 := f120.tr (Fr.mo (fr_f_X5_hold e121) (fun a k q => by refine s1 _ _ ?_; unfold w1_f_X5_hold at q; unfold w1_lp_X5_readTest_21; rcases q with q | q; exact Or.inr (Or.inr (Or.inr (Or.inr (Or.inl (q))))); exact Or.inr (Or.inr (Or.inr (Or.inr (Or.inr (Or.inr (Or.inr (Or.inl (q))))))))) (fun _ _ q => False.elim q))
                  exact f123.tr (ih _ _ _ _ h122)
                ·
                  obtain ⟨q152, e124, h125⟩ := Option.bind_eq_some_iff.mp h115
                  have f126 : Fr v1 v2 S0 q152.2 := f9.tr (Fr.mo (fr_f_X5_takeComparing e124) (fun a k q => by refine s1 _ _ ?_; unfold w1_f_X5_takeComparing at q; unfold w1_lp_X5_readTest_21; rcases q with q | q; exact Or.inl (q); exact Or.inr (Or.inl (q))) (fun _ _ q => False.elim q))
                  rcases fr_ite h125 with h127 | h127
                  ·
                    obtain ⟨q156, e128, h129⟩ := Option.bind_eq_some_iff.mp h127
                    have f130 : Fr v1 v2 S0 q156.2 := f126.tr (Fr.mo (fr_f_X5_isRoomForOne e128) (fun a k q => by refine s1 _ _ ?_; unfold w1_f_X5_isRoomForOne at q; unfold w1_lp_X5_readTest_21; rcases q with q | q; exact Or.inr (Or.inr (Or.inl (q))); exact Or.inr (Or.inr (Or.inr (Or.inl (q))))) (fun _ _ q => False.elim q))
                    rcases fr_ite h129 with h131 | h131
                    ·
                      exact fr_e2 h131 f130
                    ·
                      obtain ⟨a160, e132, h133⟩ := Option.bind_eq_some_iff.mp h131
                      obtain ⟨q163, e134, h135⟩ := Option.bind_eq_some_iff.mp h133
                      have f136 : Fr v1 v2 S0 q163 := f130.tr (Fr.mo (fr_f_X5_settle e134) (fun a k q => by refine s1 _ _ ?_; unfold w1_f_X5_settle at q; unfold w1_lp_X5_readTest_21; rcases q with q | q | q | q; exact Or.inr (Or.inr (Or.inr (Or.inr (Or.inl (q))))); exact Or.inr (Or.inr (Or.inr (Or.inr (Or.inr (Or.inr (Or.inl (q))))))); exact Or.inr (Or.inr (Or.inr (Or.inr (Or.inr (Or.inr (Or.inr (Or.inr (Or.inl (q))))))))); exact Or.inr (Or.inr (Or.inr (Or.inr (Or.inr (Or.inr (Or.inr (Or.inr (Or.inr ((q))))))))))) (fun _ _ q => False.elim q))
                      obtain ⟨q166, e137, h138⟩ := Option.bind_eq_some_iff.mp h135
                      have f139 : Fr v1 v2 S0 q166 := f136.tr (Fr.mo (fr_f_X5_hold e137) (fun a k q => by refine s1 _ _ ?_; unfold w1_f_X5_hold at q; unfold w1_lp_X5_readTest_21; rcases q with q | q; exact Or.inr (Or.inr (Or.inr (Or.inr (Or.inl (q))))); exact Or.inr (Or.inr (Or.inr (Or.inr (Or.inr (Or.inr (Or.inr (Or.inl (q))))))))) (fun _ _ q => False.elim q))
                      exact f139.tr (ih _ _ _ _ h138)
                  ·
                    obtain ⟨q169, e140, h141⟩ := Option.bind_eq_some_iff.mp h127
                    have f142 : Fr v1 v2 S0 q169.2 := f126.tr (Fr.mo (fr_f_X7_fail e140) (fun a k q => by refine s1 _ _ ?_; unfold w1_f_X7_fail at q; unfold w1_lp_X5_readTest_21; exact Or.inr (Or.inr (Or.inl (q)))) (fun _ _ q => False.elim q))
                    obtain ⟨z172, e143, h144⟩ := Option.bind_eq_some_iff.mp h141
                    exact fr_e2 h144 f142
              ·
                obtain ⟨q177, e145, h146⟩ := Option.bind_eq_some_iff.mp h114
                have f147 : Fr v1 v2 S0 q177 := f9.tr (Fr.mo (fr_f_X5_closeBrackets e145) (fun a k q => by refine s1 _ _ ?_; unfold w1_f_X5_closeBrackets at q; unfold w1_lp_X5_readTest_21; rcases q with q | q | q | q | q | q | q; exact Or.inl (q); exact Or.inr (Or.inl (q)); exact Or.inr (Or.inr (Or.inr (Or.inr (Or.inl (q))))); exact Or.inr (Or.inr (Or.inr (Or.inr (Or.inr (Or.inl (q)))))); exact Or.inr (Or.inr (Or.inr (Or.inr (Or.inr (Or.inr (Or.inl (q))))))); exact Or.inr (Or.inr (Or.inr (Or.inr (Or.inr (Or.inr (Or.inr (Or.inr (Or.inl (q))))))))); exact Or.inr (Or.inr (Or.inr (Or.inr (Or.inr (Or.inr (Or.inr (Or.inr (Or.inr ((q))))))))))) (fun _ _ q => False.elim q))
                obtain ⟨q180, e148, h149⟩ := Option.bind_eq_some_iff.mp h146
                have f150 : Fr v1 v2 S0 q180.2 := f147.tr (Fr.mo (fr_f_X5_takeJoining e148) (fun a k q => by refine s1 _ _ ?_; unfold w1_f_X5_takeJoining at q; unfold w1_lp_X5_readTest_21; rcases q with q | q; exact Or.inl (q); exact Or.inr (Or.inl (q))) (fun _ _ q => False.elim q))
                rcases fr_ite h149 with h151 | h151
                ·
                  obtain ⟨a184, e152, h153⟩ := Option.bind_eq_some_iff.mp h151
                  obtain ⟨q187, e154, h155⟩ := Option.bind_eq_some_iff.mp h153
                  have f156 : Fr v1 v2 S0 q187 := f150.tr (Fr.mo (fr_f_X5_settle e154) (fun a k q => by refine s1 _ _ ?_; unfold w1_f_X5_settle at q; unfold w1_lp_X5_readTest_21; rcases q with q | q | q | q; exact Or.inr (Or.inr (Or.inr (Or.inr (Or.inl (q))))); exact Or.inr (Or.inr (Or.inr (Or.inr (Or.inr (Or.inr (Or.inl (q))))))); exact Or.inr (Or.inr (Or.inr (Or.inr (Or.inr (Or.inr (Or.inr (Or.inr (Or.inl (q))))))))); exact Or.inr (Or.inr (Or.inr (Or.inr (Or.inr (Or.inr (Or.inr (Or.inr (Or.inr ((q))))))))))) (fun _ _ q => False.elim q))
                  obtain ⟨q190, e157, h158⟩ := Option.bind_eq_some_iff.mp h155
                  have f159 : Fr v1 v2 S0 q190 := f156.tr (Fr.mo (fr_f_X5_hold e157) (fun a k q => by refine s1 _ _ ?_; unfold w1_f_X5_hold at q; unfold w1_lp_X5_readTest_21; rcases q with q | q; exact Or.inr (Or.inr (Or.inr (Or.inr (Or.inl (q))))); exact Or.inr (Or.inr (Or.inr (Or.inr (Or.inr (Or.inr (Or.inr (Or.inl (q))))))))) (fun _ _ q => False.elim q))
                  exact f159.tr (ih _ _ _ _ h158)
                ·
                  obtain ⟨q193, e160, h161⟩ := Option.bind_eq_some_iff.mp h151
                  have f162 : Fr v1 v2 S0 q193.2 := f150.tr (Fr.mo (fr_f_X5_isTestOver e160) (fun a k q => by refine s1 _ _ ?_; unfold w1_f_X5_isTestOver at q; unfold w1_lp_X5_readTest_21; rcases q with q | q | q | q | q; exact Or.inr (Or.inr (Or.inl (q))); exact Or.inr (Or.inr (Or.inr (Or.inr (Or.inl (q))))); exact Or.inr (Or.inr (Or.inr (Or.inr (Or.inr (Or.inr (Or.inl (q))))))); exact Or.inr (Or.inr (Or.inr (Or.inr (Or.inr (Or.inr (Or.inr (Or.inr (Or.inl (q))))))))); exact Or.inr (Or.inr (Or.inr (Or.inr (Or.inr (Or.inr (Or.inr (Or.inr (Or.inr ((q))))))))))) (fun _ _ q => False.elim q))
                  obtain ⟨z196, e163, h164⟩ := Option.bind_eq_some_iff.mp h161
                  exact fr_e2 h164 f162
      ·
        obtain ⟨q201, e165, h166⟩ := Option.bind_eq_some_iff.mp h2
        have f167 : Fr v1 v2 S0 q201.2 := (Fr.rf (S := S0)).tr (Fr.mo (fr_f_X5_readOpenings e165) (fun a k q => by refine s1 _ _ ?_; unfold w1_f_X5_readOpenings at q; unfold w1_lp_X5_readTest_21; rcases q with q | q | q | q | q | q | q; exact Or.inl (q); exact Or.inr (Or.inl (q)); exact Or.inr (Or.inr (Or.inl (q))); exact Or.inr (Or.inr (Or.inr (Or.inr (Or.inl (q))))); exact Or.inr (Or.inr (Or.inr (Or.inr (Or.inr (Or.inl (q)))))); exact Or.inr (Or.inr (Or.inr (Or.inr (Or.inr (Or.inr (Or.inl (q))))))); exact Or.inr (Or.inr (Or.inr (Or.inr (Or.inr (Or.inr (Or.inr (Or.inl (q))))))))) (fun _ _ q => False.elim q))
        rcases fr_ite h166 with h168 | h168
        ·
          exact fr_e2 h168 f167
        ·
          obtain ⟨q205, e169, h170⟩ := Option.bind_eq_some_iff.mp h168
          have f171 : Fr v1 v2 S0 q205.2 := f167.tr (Fr.mo (fr_f_X5_readValue e169) (fun a k q => by refine s1 _ _ ?_; unfold w1_f_X5_readValue at q; unfold w1_lp_X5_readTest_21; rcases q with q | q | q | q | q | q; exact Or.inl (q); exact Or.inr (Or.inl (q)); exact Or.inr (Or.inr (Or.inl (q))); exact Or.inr (Or.inr (Or.inr (Or.inl (q)))); exact Or.inr (Or.inr (Or.inr (Or.inr (Or.inr (Or.inr (Or.inr (Or.inr (Or.inl (q))))))))); exact Or.inr (Or.inr (Or.inr (Or.inr (Or.inr (Or.inr (Or.inr (Or.inr (Or.inr ((q))))))))))) (fun _ _ q => False.elim q))
          rcases fr_ite h170 with h172 | h172
          ·
            exact fr_e2 h172 f171
          ·
            obtain ⟨q209, e173, h174⟩ := Option.bind_eq_some_iff.mp h172
            have f175 : Fr v1 v2 S0 q209.2 := f171.tr (Fr.mo (fr_f_X5_takeReckoning e173) (fun a k q => by refine s1 _ _ ?_; unfold w1_f_X5_takeReckoning at q; unfold w1_lp_X5_readTest_21; rcases q with q | q; exact Or.inl (q); exact Or.inr (Or.inl (q))) (fun _ _ q => False.elim q))
            rcases fr_ite h174 with h176 | h176
            ·
              rcases fr_ite h176 with h177 | h177
              ·
                rcases fr_ite h177 with h178 | h178
                ·
                  obtain ⟨a215, e179, h180⟩ := Option.bind_eq_some_iff.mp h178
                  obtain ⟨q218, e181, h182⟩ := Option.bind_eq_some_iff.mp h180
                  have f183 : Fr v1 v2 S0 q218 := f175.tr (Fr.mo (fr_f_X5_settle e181) (fun a k q => by refine s1 _ _ ?_; unfold w1_f_X5_settle at q; unfold w1_lp_X5_readTest_21; rcases q with q | q | q | q; exact Or.inr (Or.inr (Or.inr (Or.inr (Or.inl (q))))); exact Or.inr (Or.inr (Or.inr (Or.inr (Or.inr (Or.inr (Or.inl (q))))))); exact Or.inr (Or.inr (Or.inr (Or.inr (Or.inr (Or.inr (Or.inr (Or.inr (Or.inl (q))))))))); exact Or.inr (Or.inr (Or.inr (Or.inr (Or.inr (Or.inr (Or.inr (Or.inr (Or.inr ((q))))))))))) (fun _ _ q => False.elim q))
                  obtain ⟨q221, e184, h185⟩ := Option.bind_eq_some_iff.mp h182
                  have f186 : Fr v1 v2 S0 q221 := f183.tr (Fr.mo (fr_f_X5_hold e184) (fun a k q => by refine s1 _ _ ?_; unfold w1_f_X5_hold at q; unfold w1_lp_X5_readTest_21; rcases q with q | q; exact Or.inr (Or.inr (Or.inr (Or.inr (Or.inl (q))))); exact Or.inr (Or.inr (Or.inr (Or.inr (Or.inr (Or.inr (Or.inr (Or.inl (q))))))))) (fun _ _ q => False.elim q))
                  exact f186.tr (ih _ _ _ _ h185)
                ·
                  obtain ⟨q224, e187, h188⟩ := Option.bind_eq_some_iff.mp h178
                  have f189 : Fr v1 v2 S0 q224.2 := f175.tr (Fr.mo (fr_f_X5_takeComparing e187) (fun a k q => by refine s1 _ _ ?_; unfold w1_f_X5_takeComparing at q; unfold w1_lp_X5_readTest_21; rcases q with q | q; exact Or.inl (q); exact Or.inr (Or.inl (q))) (fun _ _ q => False.elim q))
                  rcases fr_ite h188 with h190 | h190
                  ·
                    obtain ⟨q228, e191, h192⟩ := Option.bind_eq_some_iff.mp h190
                    have f193 : Fr v1 v2 S0 q228.2 := f189.tr (Fr.mo (fr_f_X5_isRoomForOne e191) (fun a k q => by refine s1 _ _ ?_; unfold w1_f_X5_isRoomForOne at q; unfold w1_lp_X5_readTest_21; rcases q with q | q; exact Or.inr (Or.inr (Or.inl (q))); exact Or.inr (Or.inr (Or.inr (Or.inl (q))))) (fun _ _ q => False.elim q))
                    rcases fr_ite h192 with h194 | h194
                    ·
                      exact fr_e2 h194 f193
                    ·
                      obtain ⟨a232, e195, h196⟩ := Option.bind_eq_some_iff.mp h194
                      obtain ⟨q235, e197, h198⟩ := Option.bind_eq_some_iff.mp h196
                      have f199 : Fr v1 v2 S0 q235 := f193.tr (Fr.mo (fr_f_X5_settle e197) (fun a k q => by refine s1 _ _ ?_; unfold w1_f_X5_settle at q; unfold w1_lp_X5_readTest_21; rcases q with q | q | q | q; exact Or.inr (Or.inr (Or.inr (Or.inr (Or.inl (q))))); exact Or.inr (Or.inr (Or.inr (Or.inr (Or.inr (Or.inr (Or.inl (q))))))); exact Or.inr (Or.inr (Or.inr (Or.inr (Or.inr (Or.inr (Or.inr (Or.inr (Or.inl (q))))))))); exact Or.inr (Or.inr (Or.inr (Or.inr (Or.inr (Or.inr (Or.inr (Or.inr (Or.inr ((q))))))))))) (fun _ _ q => False.elim q))
                      obtain ⟨q238, e200, h201⟩ := Option.bind_eq_some_iff.mp h198
                      have f202 : Fr v1 v2 S0 q238 := f199.tr (Fr.mo (fr_f_X5_hold e200) (fun a k q => by refine s1 _ _ ?_; unfold w1_f_X5_hold at q; unfold w1_lp_X5_readTest_21; rcases q with q | q; exact Or.inr (Or.inr (Or.inr (Or.inr (Or.inl (q))))); exact Or.inr (Or.inr (Or.inr (Or.inr (Or.inr (Or.inr (Or.inr (Or.inl (q))))))))) (fun _ _ q => False.elim q))
                      exact f202.tr (ih _ _ _ _ h201)
                  ·
                    obtain ⟨q241, e203, h204⟩ := Option.bind_eq_some_iff.mp h190
                    have f205 : Fr v1 v2 S0 q241.2 := f189.tr (Fr.mo (fr_f_X7_fail e203) (fun a k q => by refine s1 _ _ ?_; unfold w1_f_X7_fail at q; unfold w1_lp_X5_readTest_21; exact Or.inr (Or.inr (Or.inl (q)))) (fun _ _ q => False.elim q))
                    obtain ⟨z244, e206, h207⟩ := Option.bind_eq_some_iff.mp h204
                    exact fr_e2 h207 f205
              ·
                obtain ⟨q249, e208, h209⟩ := Option.bind_eq_some_iff.mp h177
                have f210 : Fr v1 v2 S0 q249 := f175.tr (Fr.mo (fr_f_X5_closeBrackets e208) (fun a k q => by refine s1 _ _ ?_; unfold w1_f_X5_closeBrackets at q; unfold w1_lp_X5_readTest_21; rcases q with q | q | q | q | q | q | q; exact Or.inl (q); exact Or.inr (Or.inl (q)); exact Or.inr (Or.inr (Or.inr (Or.inr (Or.inl (q))))); exact Or.inr (Or.inr (Or.inr (Or.inr (Or.inr (Or.inl (q)))))); exact Or.inr (Or.inr (Or.inr (Or.inr (Or.inr (Or.inr (Or.inl (q))))))); exact Or.inr (Or.inr (Or.inr (Or.inr (Or.inr (Or.inr (Or.inr (Or.inr (Or.inl (q))))))))); exact Or.inr (Or.inr (Or.inr (Or.inr (Or.inr (Or.inr (Or.inr (Or.inr (Or.inr ((q))))))))))) (fun _ _ q => False.elim q))
                obtain ⟨q252, e211, h212⟩ := Option.bind_eq_some_iff.mp h209
                have f213 : Fr v1 v2 S0 q252.2 := f210.tr (Fr.mo (fr_f_X5_takeJoining e211) (fun a k q => by refine s1 _ _ ?_; unfold w1_f_X5_takeJoining at q; unfold w1_lp_X5_readTest_21; rcases q with q | q; exact Or.inl (q); exact Or.inr (Or.inl (q))) (fun _ _ q => False.elim q))
                rcases fr_ite h212 with h214 | h214
                ·
                  obtain ⟨a256, e215, h216⟩ := Option.bind_eq_some_iff.mp h214
                  obtain ⟨q259, e217, h218⟩ := Option.bind_eq_some_iff.mp h216
                  have f219 : Fr v1 v2 S0 q259 := f213.tr (Fr.mo (fr_f_X5_settle e217) (fun a k q => by refine s1 _ _ ?_; unfold w1_f_X5_settle at q; unfold w1_lp_X5_readTest_21; rcases q with q | q | q | q; exact Or.inr (Or.inr (Or.inr (Or.inr (Or.inl (q))))); exact Or.inr (Or.inr (Or.inr (Or.inr (Or.inr (Or.inr (Or.inl (q))))))); exact Or.inr (Or.inr (Or.inr (Or.inr (Or.inr (Or.inr (Or.inr (Or.inr (Or.inl (q))))))))); exact Or.inr (Or.inr (Or.inr (Or.inr (Or.inr (Or.inr (Or.inr (Or.inr (Or.inr ((q))))))))))) (fun _ _ q => False.elim q))
                  obtain ⟨q262, e220, h221⟩ := Option.bind_eq_some_iff.mp h218
                  have f222 : Fr v1 v2 S0 q262 := f219.tr (Fr.mo (fr_f_X5_hold e220) (fun a k q => by refine s1 _ _ ?_; unfold w1_f_X5_hold at q; unfold w1_lp_X5_readTest_21; rcases q with q | q; exact Or.inr (Or.inr (Or.inr (Or.inr (Or.inl (q))))); exact Or.inr (Or.inr (Or.inr (Or.inr (Or.inr (Or.inr (Or.inr (Or.inl (q))))))))) (fun _ _ q => False.elim q))
                  exact f222.tr (ih _ _ _ _ h221)
                ·
                  obtain ⟨q265, e223, h224⟩ := Option.bind_eq_some_iff.mp h214
                  have f225 : Fr v1 v2 S0 q265.2 := f213.tr (Fr.mo (fr_f_X5_isTestOver e223) (fun a k q => by refine s1 _ _ ?_; unfold w1_f_X5_isTestOver at q; unfold w1_lp_X5_readTest_21; rcases q with q | q | q | q | q; exact Or.inr (Or.inr (Or.inl (q))); exact Or.inr (Or.inr (Or.inr (Or.inr (Or.inl (q))))); exact Or.inr (Or.inr (Or.inr (Or.inr (Or.inr (Or.inr (Or.inl (q))))))); exact Or.inr (Or.inr (Or.inr (Or.inr (Or.inr (Or.inr (Or.inr (Or.inr (Or.inl (q))))))))); exact Or.inr (Or.inr (Or.inr (Or.inr (Or.inr (Or.inr (Or.inr (Or.inr (Or.inr ((q))))))))))) (fun _ _ q => False.elim q))
                  obtain ⟨z268, e226, h227⟩ := Option.bind_eq_some_iff.mp h224
                  exact fr_e2 h227 f225
            ·
              rcases fr_ite h176 with h228 | h228
              ·
                rcases fr_ite h228 with h229 | h229
                ·
                  rcases fr_ite h229 with h230 | h230
                  ·
                    obtain ⟨a276, e231, h232⟩ := Option.bind_eq_some_iff.mp h230
                    obtain ⟨q279, e233, h234⟩ := Option.bind_eq_some_iff.mp h232
                    have f235 : Fr v1 v2 S0 q279 := f175.tr (Fr.mo (fr_f_X5_settle e233) (fun a k q => by refine s1 _ _ ?_; unfold w1_f_X5_settle at q; unfold w1_lp_X5_readTest_21; rcases q with q | q | q | q; exact Or.inr (Or.inr (Or.inr (Or.inr (Or.inl (q))))); exact Or.inr (Or.inr (Or.inr (Or.inr (Or.inr (Or.inr (Or.inl (q))))))); exact Or.inr (Or.inr (Or.inr (Or.inr (Or.inr (Or.inr (Or.inr (Or.inr (Or.inl (q))))))))); exact Or.inr (Or.inr (Or.inr (Or.inr (Or.inr (Or.inr (Or.inr (Or.inr (Or.inr ((q))))))))))) (fun _ _ q => False.elim q))
                    obtain ⟨q282, e236, h237⟩ := Option.bind_eq_some_iff.mp h234
                    have f238 : Fr v1 v2 S0 q282 := f235.tr (Fr.mo (fr_f_X5_hold e236) (fun a k q => by refine s1 _ _ ?_; unfold w1_f_X5_hold at q; unfold w1_lp_X5_readTest_21; rcases q with q | q; exact Or.inr (Or.inr (Or.inr (Or.inr (Or.inl (q))))); exact Or.inr (Or.inr (Or.inr (Or.inr (Or.inr (Or.inr (Or.inr (Or.inl (q))))))))) (fun _ _ q => False.elim q))
                    exact f238.tr (ih _ _ _ _ h237)
                  ·
                    obtain ⟨q285, e239, h240⟩ := Option.bind_eq_some_iff.mp h230
                    have f241 : Fr v1 v2 S0 q285.2 := f175.tr (Fr.mo (fr_f_X5_takeComparing e239) (fun a k q => by refine s1 _ _ ?_; unfold w1_f_X5_takeComparing at q; unfold w1_lp_X5_readTest_21; rcases q with q | q; exact Or.inl (q); exact Or.inr (Or.inl (q))) (fun _ _ q => False.elim q))
                    rcases fr_ite h240 with h242 | h242
                    ·
                      obtain ⟨q289, e243, h244⟩ := Option.bind_eq_some_iff.mp h242
                      have f245 : Fr v1 v2 S0 q289.2 := f241.tr (Fr.mo (fr_f_X5_isRoomForOne e243) (fun a k q => by refine s1 _ _ ?_; unfold w1_f_X5_isRoomForOne at q; unfold w1_lp_X5_readTest_21; rcases q with q | q; exact Or.inr (Or.inr (Or.inl (q))); exact Or.inr (Or.inr (Or.inr (Or.inl (q))))) (fun _ _ q => False.elim q))
                      rcases fr_ite h244 with h246 | h246
                      ·
                        exact fr_e2 h246 f245
                      ·
                        obtain ⟨a293, e247, h248⟩ := Option.bind_eq_some_iff.mp h246
                        obtain ⟨q296, e249, h250⟩ := Option.bind_eq_some_iff.mp h248
                        have f251 : Fr v1 v2 S0 q296 := f245.tr (Fr.mo (fr_f_X5_settle e249) (fun a k q => by refine s1 _ _ ?_; unfold w1_f_X5_settle at q; unfold w1_lp_X5_readTest_21; rcases q with q | q | q | q; exact Or.inr (Or.inr (Or.inr (Or.inr (Or.inl (q))))); exact Or.inr (Or.inr (Or.inr (Or.inr (Or.inr (Or.inr (Or.inl (q))))))); exact Or.inr (Or.inr (Or.inr (Or.inr (Or.inr (Or.inr (Or.inr (Or.inr (Or.inl (q))))))))); exact Or.inr (Or.inr (Or.inr (Or.inr (Or.inr (Or.inr (Or.inr (Or.inr (Or.inr ((q))))))))))) (fun _ _ q => False.elim q))
                        obtain ⟨q299, e252, h253⟩ := Option.bind_eq_some_iff.mp h250
                        have f254 : Fr v1 v2 S0 q299 := f251.tr (Fr.mo (fr_f_X5_hold e252) (fun a k q => by refine s1 _ _ ?_; unfold w1_f_X5_hold at q; unfold w1_lp_X5_readTest_21; rcases q with q | q; exact Or.inr (Or.inr (Or.inr (Or.inr (Or.inl (q))))); exact Or.inr (Or.inr (Or.inr (Or.inr (Or.inr (Or.inr (Or.inr (Or.inl (q))))))))) (fun _ _ q => False.elim q))
                        exact f254.tr (ih _ _ _ _ h253)
                    ·
                      obtain ⟨q302, e255, h256⟩ := Option.bind_eq_some_iff.mp h242
                      have f257 : Fr v1 v2 S0 q302.2 := f241.tr (Fr.mo (fr_f_X7_fail e255) (fun a k q => by refine s1 _ _ ?_; unfold w1_f_X7_fail at q; unfold w1_lp_X5_readTest_21; exact Or.inr (Or.inr (Or.inl (q)))) (fun _ _ q => False.elim q))
                      obtain ⟨z305, e258, h259⟩ := Option.bind_eq_some_iff.mp h256
                      exact fr_e2 h259 f257
                ·
                  obtain ⟨q310, e260, h261⟩ := Option.bind_eq_some_iff.mp h229
                  have f262 : Fr v1 v2 S0 q310 := f175.tr (Fr.mo (fr_f_X5_closeBrackets e260) (fun a k q => by refine s1 _ _ ?_; unfold w1_f_X5_closeBrackets at q; unfold w1_lp_X5_readTest_21; rcases q with q | q | q | q | q | q | q; exact Or.inl (q); exact Or.inr (Or.inl (q)); exact Or.inr (Or.inr (Or.inr (Or.inr (Or.inl (q))))); exact Or.inr (Or.inr (Or.inr (Or.inr (Or.inr (Or.inl (q)))))); exact Or.inr (Or.inr (Or.inr (Or.inr (Or.inr (Or.inr (Or.inl (q))))))); exact Or.inr (Or.inr (Or.inr (Or.inr (Or.inr (Or.inr (Or.inr (Or.inr (Or.inl (q))))))))); exact Or.inr (Or.inr (Or.inr (Or.inr (Or.inr (Or.inr (Or.inr (Or.inr (Or.inr ((q))))))))))) (fun _ _ q => False.elim q))
                  obtain ⟨q313, e263, h264⟩ := Option.bind_eq_some_iff.mp h261
                  have f265 : Fr v1 v2 S0 q313.2 := f262.tr (Fr.mo (fr_f_X5_takeJoining e263) (fun a k q => by refine s1 _ _ ?_; unfold w1_f_X5_takeJoining at q; unfold w1_lp_X5_readTest_21; rcases q with q | q; exact Or.inl (q); exact Or.inr (Or.inl (q))) (fun _ _ q => False.elim q))
                  rcases fr_ite h264 with h266 | h266
                  ·
                    obtain ⟨a317, e267, h268⟩ := Option.bind_eq_some_iff.mp h266
                    obtain ⟨q320, e269, h270⟩ := Option.bind_eq_some_iff.mp h268
                    have f271 : Fr v1 v2 S0 q320 := f265.tr (Fr.mo (fr_f_X5_settle e269) (fun a k q => by refine s1 _ _ ?_; unfold w1_f_X5_settle at q; unfold w1_lp_X5_readTest_21; rcases q with q | q | q | q; exact Or.inr (Or.inr (Or.inr (Or.inr (Or.inl (q))))); exact Or.inr (Or.inr (Or.inr (Or.inr (Or.inr (Or.inr (Or.inl (q))))))); exact Or.inr (Or.inr (Or.inr (Or.inr (Or.inr (Or.inr (Or.inr (Or.inr (Or.inl (q))))))))); exact Or.inr (Or.inr (Or.inr (Or.inr (Or.inr (Or.inr (Or.inr (Or.inr (Or.inr ((q))))))))))) (fun _ _ q => False.elim q))
                    obtain ⟨q323, e272, h273⟩ := Option.bind_eq_some_iff.mp h270
                    have f274 : Fr v1 v2 S0 q323 := f271.tr (Fr.mo (fr_f_X5_hold e272) (fun a k q => by refine s1 _ _ ?_; unfold w1_f_X5_hold at q; unfold w1_lp_X5_readTest_21; rcases q with q | q; exact Or.inr (Or.inr (Or.inr (Or.inr (Or.inl (q))))); exact Or.inr (Or.inr (Or.inr (Or.inr (Or.inr (Or.inr (Or.inr (Or.inl (q))))))))) (fun _ _ q => False.elim q))
                    exact f274.tr (ih _ _ _ _ h273)
                  ·
                    obtain ⟨q326, e275, h276⟩ := Option.bind_eq_some_iff.mp h266
                    have f277 : Fr v1 v2 S0 q326.2 := f265.tr (Fr.mo (fr_f_X5_isTestOver e275) (fun a k q => by refine s1 _ _ ?_; unfold w1_f_X5_isTestOver at q; unfold w1_lp_X5_readTest_21; rcases q with q | q | q | q | q; exact Or.inr (Or.inr (Or.inl (q))); exact Or.inr (Or.inr (Or.inr (Or.inr (Or.inl (q))))); exact Or.inr (Or.inr (Or.inr (Or.inr (Or.inr (Or.inr (Or.inl (q))))))); exact Or.inr (Or.inr (Or.inr (Or.inr (Or.inr (Or.inr (Or.inr (Or.inr (Or.inl (q))))))))); exact Or.inr (Or.inr (Or.inr (Or.inr (Or.inr (Or.inr (Or.inr (Or.inr (Or.inr ((q))))))))))) (fun _ _ q => False.elim q))
                    obtain ⟨z329, e278, h279⟩ := Option.bind_eq_some_iff.mp h276
                    exact fr_e2 h279 f277
              ·
                rcases fr_ite h228 with h280 | h280
                ·
                  rcases fr_ite h280 with h281 | h281
                  ·
                    obtain ⟨a336, e282, h283⟩ := Option.bind_eq_some_iff.mp h281
                    obtain ⟨q339, e284, h285⟩ := Option.bind_eq_some_iff.mp h283
                    have f286 : Fr v1 v2 S0 q339 := f175.tr (Fr.mo (fr_f_X5_settle e284) (fun a k q => by refine s1 _ _ ?_; unfold w1_f_X5_settle at q; unfold w1_lp_X5_readTest_21; rcases q with q | q | q | q; exact Or.inr (Or.inr (Or.inr (Or.inr (Or.inl (q))))); exact Or.inr (Or.inr (Or.inr (Or.inr (Or.inr (Or.inr (Or.inl (q))))))); exact Or.inr (Or.inr (Or.inr (Or.inr (Or.inr (Or.inr (Or.inr (Or.inr (Or.inl (q))))))))); exact Or.inr (Or.inr (Or.inr (Or.inr (Or.inr (Or.inr (Or.inr (Or.inr (Or.inr ((q))))))))))) (fun _ _ q => False.elim q))
                    obtain ⟨q342, e287, h288⟩ := Option.bind_eq_some_iff.mp h285
                    have f289 : Fr v1 v2 S0 q342 := f286.tr (Fr.mo (fr_f_X5_hold e287) (fun a k q => by refine s1 _ _ ?_; unfold w1_f_X5_hold at q; unfold w1_lp_X5_readTest_21; rcases q with q | q; exact Or.inr (Or.inr (Or.inr (Or.inr (Or.inl (q))))); exact Or.inr (Or.inr (Or.inr (Or.inr (Or.inr (Or.inr (Or.inr (Or.inl (q))))))))) (fun _ _ q => False.elim q))
                    exact f289.tr (ih _ _ _ _ h288)
                  ·
                    obtain ⟨q345, e290, h291⟩ := Option.bind_eq_some_iff.mp h281
                    have f292 : Fr v1 v2 S0 q345.2 := f175.tr (Fr.mo (fr_f_X5_takeComparing e290) (fun a k q => by refine s1 _ _ ?_; unfold w1_f_X5_takeComparing at q; unfold w1_lp_X5_readTest_21; rcases q with q | q; exact Or.inl (q); exact Or.inr (Or.inl (q))) (fun _ _ q => False.elim q))
                    rcases fr_ite h291 with h293 | h293
                    ·
                      obtain ⟨q349, e294, h295⟩ := Option.bind_eq_some_iff.mp h293
                      have f296 : Fr v1 v2 S0 q349.2 := f292.tr (Fr.mo (fr_f_X5_isRoomForOne e294) (fun a k q => by refine s1 _ _ ?_; unfold w1_f_X5_isRoomForOne at q; unfold w1_lp_X5_readTest_21; rcases q with q | q; exact Or.inr (Or.inr (Or.inl (q))); exact Or.inr (Or.inr (Or.inr (Or.inl (q))))) (fun _ _ q => False.elim q))
                      rcases fr_ite h295 with h297 | h297
                      ·
                        exact fr_e2 h297 f296
                      ·
                        obtain ⟨a353, e298, h299⟩ := Option.bind_eq_some_iff.mp h297
                        obtain ⟨q356, e300, h301⟩ := Option.bind_eq_some_iff.mp h299
                        have f302 : Fr v1 v2 S0 q356 := f296.tr (Fr.mo (fr_f_X5_settle e300) (fun a k q => by refine s1 _ _ ?_; unfold w1_f_X5_settle at q; unfold w1_lp_X5_readTest_21; rcases q with q | q | q | q; exact Or.inr (Or.inr (Or.inr (Or.inr (Or.inl (q))))); exact Or.inr (Or.inr (Or.inr (Or.inr (Or.inr (Or.inr (Or.inl (q))))))); exact Or.inr (Or.inr (Or.inr (Or.inr (Or.inr (Or.inr (Or.inr (Or.inr (Or.inl (q))))))))); exact Or.inr (Or.inr (Or.inr (Or.inr (Or.inr (Or.inr (Or.inr (Or.inr (Or.inr ((q))))))))))) (fun _ _ q => False.elim q))
                        obtain ⟨q359, e303, h304⟩ := Option.bind_eq_some_iff.mp h301
                        have f305 : Fr v1 v2 S0 q359 := f302.tr (Fr.mo (fr_f_X5_hold e303) (fun a k q => by refine s1 _ _ ?_; unfold w1_f_X5_hold at q; unfold w1_lp_X5_readTest_21; rcases q with q | q; exact Or.inr (Or.inr (Or.inr (Or.inr (Or.inl (q))))); exact Or.inr (Or.inr (Or.inr (Or.inr (Or.inr (Or.inr (Or.inr (Or.inl (q))))))))) (fun _ _ q => False.elim q))
                        exact f305.tr (ih _ _ _ _ h304)
                    ·
                      obtain ⟨q362, e306, h307⟩ := Option.bind_eq_some_iff.mp h293
                      have f308 : Fr v1 v2 S0 q362.2 := f292.tr (Fr.mo (fr_f_X7_fail e306) (fun a k q => by refine s1 _ _ ?_; unfold w1_f_X7_fail at q; unfold w1_lp_X5_readTest_21; exact Or.inr (Or.inr (Or.inl (q)))) (fun _ _ q => False.elim q))
                      obtain ⟨z365, e309, h310⟩ := Option.bind_eq_some_iff.mp h307
                      exact fr_e2 h310 f308
                ·
                  obtain ⟨q370, e311, h312⟩ := Option.bind_eq_some_iff.mp h280
                  have f313 : Fr v1 v2 S0 q370 := f175.tr (Fr.mo (fr_f_X5_closeBrackets e311) (fun a k q => by refine s1 _ _ ?_; unfold w1_f_X5_closeBrackets at q; unfold w1_lp_X5_readTest_21; rcases q with q | q | q | q | q | q | q; exact Or.inl (q); exact Or.inr (Or.inl (q)); exact Or.inr (Or.inr (Or.inr (Or.inr (Or.inl (q))))); exact Or.inr (Or.inr (Or.inr (Or.inr (Or.inr (Or.inl (q)))))); exact Or.inr (Or.inr (Or.inr (Or.inr (Or.inr (Or.inr (Or.inl (q))))))); exact Or.inr (Or.inr (Or.inr (Or.inr (Or.inr (Or.inr (Or.inr (Or.inr (Or.inl (q))))))))); exact Or.inr (Or.inr (Or.inr (Or.inr (Or.inr (Or.inr (Or.inr (Or.inr (Or.inr ((q))))))))))) (fun _ _ q => False.elim q))
                  obtain ⟨q373, e314, h315⟩ := Option.bind_eq_some_iff.mp h312
                  have f316 : Fr v1 v2 S0 q373.2 := f313.tr (Fr.mo (fr_f_X5_takeJoining e314) (fun a k q => by refine s1 _ _ ?_; unfold w1_f_X5_takeJoining at q; unfold w1_lp_X5_readTest_21; rcases q with q | q; exact Or.inl (q); exact Or.inr (Or.inl (q))) (fun _ _ q => False.elim q))
                  rcases fr_ite h315 with h317 | h317
                  ·
                    obtain ⟨a377, e318, h319⟩ := Option.bind_eq_some_iff.mp h317
                    obtain ⟨q380, e320, h321⟩ := Option.bind_eq_some_iff.mp h319
                    have f322 : Fr v1 v2 S0 q380 := f316.tr (Fr.mo (fr_f_X5_settle e320) (fun a k q => by refine s1 _ _ ?_; unfold w1_f_X5_settle at q; unfold w1_lp_X5_readTest_21; rcases q with q | q | q | q; exact Or.inr (Or.inr (Or.inr (Or.inr (Or.inl (q))))); exact Or.inr (Or.inr (Or.inr (Or.inr (Or.inr (Or.inr (Or.inl (q))))))); exact Or.inr (Or.inr (Or.inr (Or.inr (Or.inr (Or.inr (Or.inr (Or.inr (Or.inl (q))))))))); exact Or.inr (Or.inr (Or.inr (Or.inr (Or.inr (Or.inr (Or.inr (Or.inr (Or.inr ((q))))))))))) (fun _ _ q => False.elim q))
                    obtain ⟨q383, e323, h324⟩ := Option.bind_eq_some_iff.mp h321
                    have f325 : Fr v1 v2 S0 q383 := f322.tr (Fr.mo (fr_f_X5_hold e323) (fun a k q => by refine s1 _ _ ?_; unfold w1_f_X5_hold at q; unfold w1_lp_X5_readTest_21; rcases q with q | q; exact Or.inr (Or.inr (Or.inr (Or.inr (Or.inl (q))))); exact Or.inr (Or.inr (Or.inr (Or.inr (Or.inr (Or.inr (Or.inr (Or.inl (q))))))))) (fun _ _ q => False.elim q))
                    exact f325.tr (ih _ _ _ _ h324)
                  ·
                    obtain ⟨q386, e326, h327⟩ := Option.bind_eq_some_iff.mp h317
                    have f328 : Fr v1 v2 S0 q386.2 := f316.tr (Fr.mo (fr_f_X5_isTestOver e326) (fun a k q => by refine s1 _ _ ?_; unfold w1_f_X5_isTestOver at q; unfold w1_lp_X5_readTest_21; rcases q with q | q | q | q | q; exact Or.inr (Or.inr (Or.inl (q))); exact Or.inr (Or.inr (Or.inr (Or.inr (Or.inl (q))))); exact Or.inr (Or.inr (Or.inr (Or.inr (Or.inr (Or.inr (Or.inl (q))))))); exact Or.inr (Or.inr (Or.inr (Or.inr (Or.inr (Or.inr (Or.inr (Or.inr (Or.inl (q))))))))); exact Or.inr (Or.inr (Or.inr (Or.inr (Or.inr (Or.inr (Or.inr (Or.inr (Or.inr ((q))))))))))) (fun _ _ q => False.elim q))
                    obtain ⟨z389, e329, h330⟩ := Option.bind_eq_some_iff.mp h327
                    exact fr_e2 h330 f328
def w1_f_X5_readTest (a k : Nat) : Prop := (a = 1 ∧ k = 2) ∨ (a = 1 ∧ k = 3) ∨ (a = 1 ∧ k = 4) ∨ (a = 38 ∧ k = 3) ∨ (a = 38 ∧ k = 4) ∨ (a = 38 ∧ k = 5) ∨ (a = 38 ∧ k = 6) ∨ a = 39 ∨ (a = 40 ∧ k = 2) ∨ a = 41
def w2_f_X5_readTest (a k : Nat) : Prop := False
theorem fr_f_X5_readTest {S : fS} {r : Int32 × fS} (h : f_X5_readTest S = some r) : Fr (w1_f_X5_readTest) (w2_f_X5_readTest) S r.2 := by
  unfold f_X5_readTest at h
  obtain ⟨S1, e1, h2⟩ := Option.bind_eq_some_iff.mp h
  have f3 : Fr (w1_f_X5_readTest) (w2_f_X5_readTest) S S1 := (Fr.rf (S := S)).tr (fr_pI e1 (by unfold w1_f_X5_readTest; exact Or.inr (Or.inr (Or.inr (Or.inr (Or.inl (⟨rfl, rfl⟩)))))))
  obtain ⟨S4, e4, h5⟩ := Option.bind_eq_some_iff.mp h2
  have f6 : Fr (w1_f_X5_readTest) (w2_f_X5_readTest) S S4 := f3.tr (fr_pI e4 (by unfold w1_f_X5_readTest; exact Or.inr (Or.inr (Or.inr (Or.inr (Or.inr (Or.inl (⟨rfl, rfl⟩))))))))
  obtain ⟨S7, e7, h8⟩ := Option.bind_eq_some_iff.mp h5
  have f9 : Fr (w1_f_X5_readTest) (w2_f_X5_readTest) S S7 := f6.tr (fr_pI e7 (by unfold w1_f_X5_readTest; exact Or.inr (Or.inr (Or.inr (Or.inr (Or.inr (Or.inr (Or.inl (⟨rfl, rfl⟩)))))))))
  refine f9.tr (fr_lp_X5_readTest_21 (v1 := w1_f_X5_readTest) (v2 := w2_f_X5_readTest) (fun a k q => by unfold w1_lp_X5_readTest_21 at q; unfold w1_f_X5_readTest; rcases q with q | q | q | q | q | q | q | q | q | q; exact Or.inl (q); exact Or.inr (Or.inl (q)); exact Or.inr (Or.inr (Or.inl (q))); exact Or.inr (Or.inr (Or.inr (Or.inl (q)))); exact Or.inr (Or.inr (Or.inr (Or.inr (Or.inl (q))))); exact Or.inr (Or.inr (Or.inr (Or.inr (Or.inr (Or.inl (q)))))); exact Or.inr (Or.inr (Or.inr (Or.inr (Or.inr (Or.inr (Or.inl (q))))))); exact Or.inr (Or.inr (Or.inr (Or.inr (Or.inr (Or.inr (Or.inr (Or.inl (q)))))))); exact Or.inr (Or.inr (Or.inr (Or.inr (Or.inr (Or.inr (Or.inr (Or.inr (Or.inl (q))))))))); exact Or.inr (Or.inr (Or.inr (Or.inr (Or.inr (Or.inr (Or.inr (Or.inr (Or.inr ((q))))))))))) (fun _ _ q => False.elim q) (fun S394 h10 => ?_) _ _ _ _ _ h8)
  exact fr_e2 h10 (Fr.rf (S := S394))
def w1_f_X5_readClause (a k : Nat) : Prop := (a = 1 ∧ k = 2) ∨ (a = 1 ∧ k = 3) ∨ (a = 1 ∧ k = 4) ∨ (a = 38 ∧ k = 3) ∨ (a = 38 ∧ k = 4) ∨ (a = 38 ∧ k = 5) ∨ (a = 38 ∧ k = 6) ∨ a = 39 ∨ (a = 40 ∧ k = 2) ∨ a = 41
def w2_f_X5_readClause (a k : Nat) : Prop := False
theorem fr_f_X5_readClause {v1 : Int32} {S : fS} {r : Int32 × fS} (h : f_X5_readClause v1 S = some r) : Fr (w1_f_X5_readClause) (w2_f_X5_readClause) S r.2 := by
  unfold f_X5_readClause at h
  obtain ⟨q1, e1, h2⟩ := Option.bind_eq_some_iff.mp h
  have f3 : Fr (w1_f_X5_readClause) (w2_f_X5_readClause) S q1.2 := (Fr.rf (S := S)).tr (Fr.mo (fr_f_X7_takeWord e1) (fun a k q => by unfold w1_f_X7_takeWord at q; unfold w1_f_X5_readClause; rcases q with q | q; exact Or.inl (q); exact Or.inr (Or.inl (q))) (fun _ _ q => False.elim q))
  rcases fr_ite h2 with h4 | h4
  ·
    obtain ⟨q40, e5, h6⟩ := Option.bind_eq_some_iff.mp h4
    have f7 : Fr (w1_f_X5_readClause) (w2_f_X5_readClause) S q40.2 := f3.tr (Fr.mo (fr_f_X7_fail e5) (fun a k q => by unfold w1_f_X7_fail at q; unfold w1_f_X5_readClause; exact Or.inr (Or.inr (Or.inl (q)))) (fun _ _ q => False.elim q))
    obtain ⟨z43, e8, h9⟩ := Option.bind_eq_some_iff.mp h6
    exact fr_e2 h9 f7
  ·
    rcases fr_ite h4 with h10 | h10
    ·
      obtain ⟨q6, e11, h12⟩ := Option.bind_eq_some_iff.mp h10
      have f13 : Fr (w1_f_X5_readClause) (w2_f_X5_readClause) S q6.2 := f3.tr (Fr.mo (fr_f_X7_takeNumber e11) (fun a k q => by unfold w1_f_X7_takeNumber at q; unfold w1_f_X5_readClause; rcases q with q | q | q; exact Or.inl (q); exact Or.inr (Or.inl (q)); exact Or.inr (Or.inr (Or.inl (q)))) (fun _ _ q => False.elim q))
      rcases fr_ite h12 with h14 | h14
      ·
        obtain ⟨q10, e15, h16⟩ := Option.bind_eq_some_iff.mp h14
        have f17 : Fr (w1_f_X5_readClause) (w2_f_X5_readClause) S q10.2 := f13.tr (Fr.mo (fr_f_X7_takeWord e15) (fun a k q => by unfold w1_f_X7_takeWord at q; unfold w1_f_X5_readClause; rcases q with q | q; exact Or.inl (q); exact Or.inr (Or.inl (q))) (fun _ _ q => False.elim q))
        rcases fr_ite h16 with h18 | h18
        ·
          rcases fr_ite h18 with h19 | h19
          ·
            obtain ⟨q15, e20, h21⟩ := Option.bind_eq_some_iff.mp h19
            have f22 : Fr (w1_f_X5_readClause) (w2_f_X5_readClause) S q15 := f17.tr (Fr.mo (fr_f_X4_write e20) (fun a k q => by unfold w1_f_X4_write at q; unfold w1_f_X5_readClause; rcases q with q | q; exact Or.inr (Or.inr (Or.inr (Or.inr (Or.inr (Or.inr (Or.inr (Or.inr (Or.inl (q))))))))); exact Or.inr (Or.inr (Or.inr (Or.inr (Or.inr (Or.inr (Or.inr (Or.inr (Or.inr ((q))))))))))) (fun _ _ q => False.elim q))
            exact fr_e2 h21 f22
          ·
            obtain ⟨q18, e23, h24⟩ := Option.bind_eq_some_iff.mp h19
            have f25 : Fr (w1_f_X5_readClause) (w2_f_X5_readClause) S q18 := f17.tr (Fr.mo (fr_f_X4_write e23) (fun a k q => by unfold w1_f_X4_write at q; unfold w1_f_X5_readClause; rcases q with q | q; exact Or.inr (Or.inr (Or.inr (Or.inr (Or.inr (Or.inr (Or.inr (Or.inr (Or.inl (q))))))))); exact Or.inr (Or.inr (Or.inr (Or.inr (Or.inr (Or.inr (Or.inr (Or.inr (Or.inr ((q))))))))))) (fun _ _ q => False.elim q))
            exact fr_e2 h24 f25
        ·
          obtain ⟨q21, e26, h27⟩ := Option.bind_eq_some_iff.mp h18
          have f28 : Fr (w1_f_X5_readClause) (w2_f_X5_readClause) S q21.2 := f17.tr (Fr.mo (fr_f_X5_readTest e26) (fun a k q => by unfold w1_f_X5_readTest at q; unfold w1_f_X5_readClause; rcases q with q | q | q | q | q | q | q | q | q | q; exact Or.inl (q); exact Or.inr (Or.inl (q)); exact Or.inr (Or.inr (Or.inl (q))); exact Or.inr (Or.inr (Or.inr (Or.inl (q)))); exact Or.inr (Or.inr (Or.inr (Or.inr (Or.inl (q))))); exact Or.inr (Or.inr (Or.inr (Or.inr (Or.inr (Or.inl (q)))))); exact Or.inr (Or.inr (Or.inr (Or.inr (Or.inr (Or.inr (Or.inl (q))))))); exact Or.inr (Or.inr (Or.inr (Or.inr (Or.inr (Or.inr (Or.inr (Or.inl (q)))))))); exact Or.inr (Or.inr (Or.inr (Or.inr (Or.inr (Or.inr (Or.inr (Or.inr (Or.inl (q))))))))); exact Or.inr (Or.inr (Or.inr (Or.inr (Or.inr (Or.inr (Or.inr (Or.inr (Or.inr ((q))))))))))) (fun _ _ q => False.elim q))
          rcases fr_ite h27 with h29 | h29
          ·
            exact fr_e2 h29 f28
          ·
            rcases fr_ite h29 with h30 | h30
            ·
              obtain ⟨q26, e31, h32⟩ := Option.bind_eq_some_iff.mp h30
              have f33 : Fr (w1_f_X5_readClause) (w2_f_X5_readClause) S q26 := f28.tr (Fr.mo (fr_f_X4_write e31) (fun a k q => by unfold w1_f_X4_write at q; unfold w1_f_X5_readClause; rcases q with q | q; exact Or.inr (Or.inr (Or.inr (Or.inr (Or.inr (Or.inr (Or.inr (Or.inr (Or.inl (q))))))))); exact Or.inr (Or.inr (Or.inr (Or.inr (Or.inr (Or.inr (Or.inr (Or.inr (Or.inr ((q))))))))))) (fun _ _ q => False.elim q))
              exact fr_e2 h32 f33
            ·
              obtain ⟨q29, e34, h35⟩ := Option.bind_eq_some_iff.mp h30
              have f36 : Fr (w1_f_X5_readClause) (w2_f_X5_readClause) S q29 := f28.tr (Fr.mo (fr_f_X4_write e34) (fun a k q => by unfold w1_f_X4_write at q; unfold w1_f_X5_readClause; rcases q with q | q; exact Or.inr (Or.inr (Or.inr (Or.inr (Or.inr (Or.inr (Or.inr (Or.inr (Or.inl (q))))))))); exact Or.inr (Or.inr (Or.inr (Or.inr (Or.inr (Or.inr (Or.inr (Or.inr (Or.inr ((q))))))))))) (fun _ _ q => False.elim q))
              exact fr_e2 h35 f36
      ·
        exact fr_e2 h14 f13
    ·
      obtain ⟨q32, e37, h38⟩ := Option.bind_eq_some_iff.mp h10
      have f39 : Fr (w1_f_X5_readClause) (w2_f_X5_readClause) S q32.2 := f3.tr (Fr.mo (fr_f_X7_fail e37) (fun a k q => by unfold w1_f_X7_fail at q; unfold w1_f_X5_readClause; exact Or.inr (Or.inr (Or.inl (q)))) (fun _ _ q => False.elim q))
      obtain ⟨z35, e40, h41⟩ := Option.bind_eq_some_iff.mp h38
      exact fr_e2 h41 f39
def w1_lp_X5_read_22 (a k : Nat) : Prop := (a = 1 ∧ k = 2) ∨ (a = 1 ∧ k = 3) ∨ (a = 1 ∧ k = 4) ∨ (a = 38 ∧ k = 3) ∨ (a = 38 ∧ k = 4) ∨ (a = 38 ∧ k = 5) ∨ (a = 38 ∧ k = 6) ∨ a = 39 ∨ (a = 40 ∧ k = 2) ∨ a = 41
def w2_lp_X5_read_22 (a k : Nat) : Prop := False
theorem fr_lp_X5_read_22 {K : fS → Option (Int32 × fS)} {r : Int32 × fS} {v1 v2 : Nat → Nat → Prop} (s1 : ∀ a k, w1_lp_X5_read_22 a k → v1 a k) (s2 : ∀ a k, w2_lp_X5_read_22 a k → v2 a k) (hK : ∀ (x0 : fS), K x0 = some r → Fr v1 v2 x0 r.2) : ∀ (n : Nat) (p1 : Int32) (S0 : fS), lp_X5_read_22 K n p1 S0 = some r → Fr v1 v2 S0 r.2 := by
  intro n
  induction n with
  | zero => intro p1 S0 h; exact mm_no h
  | succ n ih =>
    intro p1 S0 h
    rw [lp_X5_read_22.eq_2] at h
    rcases fr_ite h with h1 | h1
    ·
      exact (Fr.rf (S := S0)).tr (hK _ h1)
    ·
      obtain ⟨q11, e2, h3⟩ := Option.bind_eq_some_iff.mp h1
      have f4 : Fr v1 v2 S0 q11.2 := (Fr.rf (S := S0)).tr (Fr.mo (fr_f_X5_readClause e2) (fun a k q => by refine s1 _ _ ?_; unfold w1_f_X5_readClause at q; unfold w1_lp_X5_read_22; rcases q with q | q | q | q | q | q | q | q | q | q; exact Or.inl (q); exact Or.inr (Or.inl (q)); exact Or.inr (Or.inr (Or.inl (q))); exact Or.inr (Or.inr (Or.inr (Or.inl (q)))); exact Or.inr (Or.inr (Or.inr (Or.inr (Or.inl (q))))); exact Or.inr (Or.inr (Or.inr (Or.inr (Or.inr (Or.inl (q)))))); exact Or.inr (Or.inr (Or.inr (Or.inr (Or.inr (Or.inr (Or.inl (q))))))); exact Or.inr (Or.inr (Or.inr (Or.inr (Or.inr (Or.inr (Or.inr (Or.inl (q)))))))); exact Or.inr (Or.inr (Or.inr (Or.inr (Or.inr (Or.inr (Or.inr (Or.inr (Or.inl (q))))))))); exact Or.inr (Or.inr (Or.inr (Or.inr (Or.inr (Or.inr (Or.inr (Or.inr (Or.inr ((q))))))))))) (fun _ _ q => False.elim q))
      rcases fr_ite h3 with h5 | h5
      ·
        exact fr_e2 h5 f4
      ·
        obtain ⟨q15, e6, h7⟩ := Option.bind_eq_some_iff.mp h5
        have f8 : Fr v1 v2 S0 q15.2 := f4.tr (Fr.mo (fr_f_X7_isAtEnd e6) (fun a k q => by refine s1 _ _ ?_; unfold w1_f_X7_isAtEnd at q; unfold w1_lp_X5_read_22; exact Or.inl (q)) (fun _ _ q => False.elim q))
        rcases fr_ite h7 with h9 | h9
        ·
          obtain ⟨q19, e10, h11⟩ := Option.bind_eq_some_iff.mp h9
          have f12 : Fr v1 v2 S0 q19.2 := f8.tr (Fr.mo (fr_f_X7_takeSign e10) (fun a k q => by refine s1 _ _ ?_; unfold w1_f_X7_takeSign at q; unfold w1_lp_X5_read_22; rcases q with q | q; exact Or.inl (q); exact Or.inr (Or.inl (q))) (fun _ _ q => False.elim q))
          rcases fr_ite h11 with h13 | h13
          ·
            obtain ⟨q23, e14, h15⟩ := Option.bind_eq_some_iff.mp h13
            have f16 : Fr v1 v2 S0 q23.2 := f12.tr (Fr.mo (fr_f_X7_fail e14) (fun a k q => by refine s1 _ _ ?_; unfold w1_f_X7_fail at q; unfold w1_lp_X5_read_22; exact Or.inr (Or.inr (Or.inl (q)))) (fun _ _ q => False.elim q))
            obtain ⟨z26, e17, h18⟩ := Option.bind_eq_some_iff.mp h15
            exact fr_e2 h18 f16
          ·
            exact f12.tr (ih _ _ h13)
        ·
          exact fr_e2 h9 f8
def w1_f_X5_read (a k : Nat) : Prop := (a = 1 ∧ k = 2) ∨ (a = 1 ∧ k = 3) ∨ (a = 1 ∧ k = 4) ∨ (a = 38 ∧ k = 3) ∨ (a = 38 ∧ k = 4) ∨ (a = 38 ∧ k = 5) ∨ (a = 38 ∧ k = 6) ∨ a = 39 ∨ (a = 40 ∧ k = 2) ∨ a = 41
def w2_f_X5_read (a k : Nat) : Prop := False
theorem fr_f_X5_read {S : fS} {r : Int32 × fS} (h : f_X5_read S = some r) : Fr (w1_f_X5_read) (w2_f_X5_read) S r.2 := by
  unfold f_X5_read at h
  obtain ⟨S1, e1, h2⟩ := Option.bind_eq_some_iff.mp h
  have f3 : Fr (w1_f_X5_read) (w2_f_X5_read) S S1 := (Fr.rf (S := S)).tr (fr_pI e1 (by unfold w1_f_X5_read; exact Or.inr (Or.inr (Or.inr (Or.inr (Or.inr (Or.inr (Or.inr (Or.inr (Or.inl (⟨rfl, rfl⟩)))))))))))
  obtain ⟨S4, e4, h5⟩ := Option.bind_eq_some_iff.mp h2
  have f6 : Fr (w1_f_X5_read) (w2_f_X5_read) S S4 := f3.tr (fr_pI e4 (by unfold w1_f_X5_read; exact Or.inr (Or.inr (Or.inr (Or.inl (⟨rfl, rfl⟩))))))
  obtain ⟨q7, e7, h8⟩ := Option.bind_eq_some_iff.mp h5
  have f9 : Fr (w1_f_X5_read) (w2_f_X5_read) S q7 := f6.tr (Fr.mo (fr_f_X7_rewind e7) (fun a k q => by unfold w1_f_X7_rewind at q; unfold w1_f_X5_read; rcases q with q | q | q; exact Or.inl (q); exact Or.inr (Or.inl (q)); exact Or.inr (Or.inr (Or.inl (q)))) (fun _ _ q => False.elim q))
  refine f9.tr (fr_lp_X5_read_22 (v1 := w1_f_X5_read) (v2 := w2_f_X5_read) (fun a k q => by unfold w1_lp_X5_read_22 at q; unfold w1_f_X5_read; rcases q with q | q | q | q | q | q | q | q | q | q; exact Or.inl (q); exact Or.inr (Or.inl (q)); exact Or.inr (Or.inr (Or.inl (q))); exact Or.inr (Or.inr (Or.inr (Or.inl (q)))); exact Or.inr (Or.inr (Or.inr (Or.inr (Or.inl (q))))); exact Or.inr (Or.inr (Or.inr (Or.inr (Or.inr (Or.inl (q)))))); exact Or.inr (Or.inr (Or.inr (Or.inr (Or.inr (Or.inr (Or.inl (q))))))); exact Or.inr (Or.inr (Or.inr (Or.inr (Or.inr (Or.inr (Or.inr (Or.inl (q)))))))); exact Or.inr (Or.inr (Or.inr (Or.inr (Or.inr (Or.inr (Or.inr (Or.inr (Or.inl (q))))))))); exact Or.inr (Or.inr (Or.inr (Or.inr (Or.inr (Or.inr (Or.inr (Or.inr (Or.inr ((q))))))))))) (fun _ _ q => False.elim q) (fun S31 h10 => ?_) _ _ _ h8)
  exact fr_e2 h10 (Fr.rf (S := S31))
def w1_f_X4_copyFrom (v0 : Nat) (v1 : Nat) (a k : Nat) : Prop := (a = v0 ∧ k = 2) ∨ a = v0 + 1
def w2_f_X4_copyFrom (v0 : Nat) (v1 : Nat) (a k : Nat) : Prop := False
theorem fr_f_X4_copyFrom {v0 : Nat} {v1 : Nat} {S : fS} {r : fS} (h : f_X4_copyFrom v0 v1 S = some r) : Fr (w1_f_X4_copyFrom v0 v1) (w2_f_X4_copyFrom v0 v1) S r := by
  unfold f_X4_copyFrom at h
  obtain ⟨S1, e1, h2⟩ := Option.bind_eq_some_iff.mp h
  have f3 : Fr (w1_f_X4_copyFrom v0 v1) (w2_f_X4_copyFrom v0 v1) S S1 := (Fr.rf (S := S)).tr (fr_cI e1 (fun k => by unfold w1_f_X4_copyFrom; exact Or.inr ((rfl))))
  obtain ⟨S4, e4, h5⟩ := Option.bind_eq_some_iff.mp h2
  have f6 : Fr (w1_f_X4_copyFrom v0 v1) (w2_f_X4_copyFrom v0 v1) S S4 := f3.tr (fr_pI e4 (by unfold w1_f_X4_copyFrom; exact Or.inl (⟨rfl, rfl⟩)))
  exact fr_e1 h5 f6
def w1_f_X10_rule (a k : Nat) : Prop := (a = 0 ∧ k = 10) ∨ (a = 1 ∧ k = 1) ∨ (a = 1 ∧ k = 2) ∨ (a = 1 ∧ k = 3) ∨ (a = 1 ∧ k = 4) ∨ (a = 38 ∧ k = 3) ∨ (a = 38 ∧ k = 4) ∨ (a = 38 ∧ k = 5) ∨ (a = 38 ∧ k = 6) ∨ a = 39 ∨ (a = 40 ∧ k = 2) ∨ a = 41 ∨ (127 ≤ a ∧ a ≤ 144)
def w2_f_X10_rule (a k : Nat) : Prop := False
theorem fr_f_X10_rule {S : fS} {r : Int32 × fS} (h : f_X10_rule S = some r) : Fr (w1_f_X10_rule) (w2_f_X10_rule) S r.2 := by
  unfold f_X10_rule at h
  rcases fr_ite h with h1 | h1
  ·
    obtain ⟨q2, e2, h3⟩ := Option.bind_eq_some_iff.mp h1
    have f4 : Fr (w1_f_X10_rule) (w2_f_X10_rule) S q2.2 := (Fr.rf (S := S)).tr (Fr.mo (fr_f_X5_read e2) (fun a k q => by unfold w1_f_X5_read at q; unfold w1_f_X10_rule; rcases q with q | q | q | q | q | q | q | q | q | q; exact Or.inr (Or.inr (Or.inl (q))); exact Or.inr (Or.inr (Or.inr (Or.inl (q)))); exact Or.inr (Or.inr (Or.inr (Or.inr (Or.inl (q))))); exact Or.inr (Or.inr (Or.inr (Or.inr (Or.inr (Or.inl (q)))))); exact Or.inr (Or.inr (Or.inr (Or.inr (Or.inr (Or.inr (Or.inl (q))))))); exact Or.inr (Or.inr (Or.inr (Or.inr (Or.inr (Or.inr (Or.inr (Or.inl (q)))))))); exact Or.inr (Or.inr (Or.inr (Or.inr (Or.inr (Or.inr (Or.inr (Or.inr (Or.inl (q))))))))); exact Or.inr (Or.inr (Or.inr (Or.inr (Or.inr (Or.inr (Or.inr (Or.inr (Or.inr (Or.inl (q)))))))))); exact Or.inr (Or.inr (Or.inr (Or.inr (Or.inr (Or.inr (Or.inr (Or.inr (Or.inr (Or.inr (Or.inl (q))))))))))); exact Or.inr (Or.inr (Or.inr (Or.inr (Or.inr (Or.inr (Or.inr (Or.inr (Or.inr (Or.inr (Or.inr (Or.inl (q))))))))))))) (fun _ _ q => False.elim q))
    obtain ⟨S5, e5, h6⟩ := Option.bind_eq_some_iff.mp h3
    have f7 : Fr (w1_f_X10_rule) (w2_f_X10_rule) S S5 := f4.tr (fr_pI e5 (by unfold w1_f_X10_rule; exact Or.inr (Or.inl (⟨rfl, rfl⟩))))
    rcases fr_ite h6 with h8 | h8
    ·
      exact fr_e2 h8 f7
    ·
      obtain ⟨a9, e9, h10⟩ := Option.bind_eq_some_iff.mp h8
      have g11 := fr_A23 e9
      obtain ⟨q12, e12, h13⟩ := Option.bind_eq_some_iff.mp h10
      have f14 : Fr (w1_f_X10_rule) (w2_f_X10_rule) S q12 := f7.tr (Fr.mo (fr_f_X4_copyFrom e12) (fun a k q => by unfold w1_f_X4_copyFrom at q; unfold w1_f_X10_rule; rcases q with q | q; exact Or.inr (Or.inr (Or.inr (Or.inr (Or.inr (Or.inr (Or.inr (Or.inr (Or.inr (Or.inr (Or.inr (Or.inr (((by omega)))))))))))))); exact Or.inr (Or.inr (Or.inr (Or.inr (Or.inr (Or.inr (Or.inr (Or.inr (Or.inr (Or.inr (Or.inr (Or.inr (((by omega))))))))))))))) (fun _ _ q => False.elim q))
      obtain ⟨S15, e15, h16⟩ := Option.bind_eq_some_iff.mp h13
      have f17 : Fr (w1_f_X10_rule) (w2_f_X10_rule) S S15 := f14.tr (fr_pI e15 (by unfold w1_f_X10_rule; exact Or.inl (⟨rfl, rfl⟩)))
      exact fr_e2 h16 f17
  ·
    exact fr_e2 h1 (Fr.rf (S := S))
def w1_f_X0_setOff (v0 : Nat) (v1 : Nat) (a k : Nat) : Prop := a = v0 + 1 ∨ a = v0 + 2 ∨ a = v0 + 3 ∨ a = v0 + 4
def w2_f_X0_setOff (v0 : Nat) (v1 : Nat) (a k : Nat) : Prop := False
theorem fr_f_X0_setOff {v0 : Nat} {v1 : Nat} {v2 : Int32} {v3 : Int32} {S : fS} {r : Int32 × fS} (h : f_X0_setOff v0 v1 v2 v3 S = some r) : Fr (w1_f_X0_setOff v0 v1) (w2_f_X0_setOff v0 v1) S r.2 := by
  unfold f_X0_setOff at h
  rcases fr_ite h with h1 | h1
  ·
    obtain ⟨a2, e2, h3⟩ := Option.bind_eq_some_iff.mp h1
    obtain ⟨q5, e4, h5⟩ := Option.bind_eq_some_iff.mp h3
    rcases fr_ite h5 with h6 | h6
    ·
      obtain ⟨S9, e7, h8⟩ := Option.bind_eq_some_iff.mp h6
      have f9 : Fr (w1_f_X0_setOff v0 v1) (w2_f_X0_setOff v0 v1) S S9 := (Fr.rf (S := S)).tr (fr_sI e7 (fun k => by unfold w1_f_X0_setOff; exact Or.inl (rfl)))
      obtain ⟨S12, e10, h11⟩ := Option.bind_eq_some_iff.mp h8
      have f12 : Fr (w1_f_X0_setOff v0 v1) (w2_f_X0_setOff v0 v1) S S12 := f9.tr (fr_sI e10 (fun k => by unfold w1_f_X0_setOff; exact Or.inr (Or.inl (rfl))))
      obtain ⟨S15, e13, h14⟩ := Option.bind_eq_some_iff.mp h11
      have f15 : Fr (w1_f_X0_setOff v0 v1) (w2_f_X0_setOff v0 v1) S S15 := f12.tr (fr_sI e13 (fun k => by unfold w1_f_X0_setOff; exact Or.inr (Or.inr (Or.inl (rfl)))))
      obtain ⟨S18, e16, h17⟩ := Option.bind_eq_some_iff.mp h14
      have f18 : Fr (w1_f_X0_setOff v0 v1) (w2_f_X0_setOff v0 v1) S S18 := f15.tr (fr_sI e16 (fun k => by unfold w1_f_X0_setOff; exact Or.inr (Or.inr (Or.inr ((rfl))))))
      exact fr_e2 h17 f18
    ·
      exact fr_e2 h6 (Fr.rf (S := S))
  ·
    rcases fr_ite h1 with h19 | h19
    ·
      obtain ⟨S22, e20, h21⟩ := Option.bind_eq_some_iff.mp h19
      have f22 : Fr (w1_f_X0_setOff v0 v1) (w2_f_X0_setOff v0 v1) S S22 := (Fr.rf (S := S)).tr (fr_sI e20 (fun k => by unfold w1_f_X0_setOff; exact Or.inl (rfl)))
      obtain ⟨S25, e23, h24⟩ := Option.bind_eq_some_iff.mp h21
      have f25 : Fr (w1_f_X0_setOff v0 v1) (w2_f_X0_setOff v0 v1) S S25 := f22.tr (fr_sI e23 (fun k => by unfold w1_f_X0_setOff; exact Or.inr (Or.inl (rfl))))
      obtain ⟨S28, e26, h27⟩ := Option.bind_eq_some_iff.mp h24
      have f28 : Fr (w1_f_X0_setOff v0 v1) (w2_f_X0_setOff v0 v1) S S28 := f25.tr (fr_sI e26 (fun k => by unfold w1_f_X0_setOff; exact Or.inr (Or.inr (Or.inl (rfl)))))
      obtain ⟨S31, e29, h30⟩ := Option.bind_eq_some_iff.mp h27
      have f31 : Fr (w1_f_X0_setOff v0 v1) (w2_f_X0_setOff v0 v1) S S31 := f28.tr (fr_sI e29 (fun k => by unfold w1_f_X0_setOff; exact Or.inr (Or.inr (Or.inr ((rfl))))))
      exact fr_e2 h30 f31
    ·
      exact fr_e2 h19 (Fr.rf (S := S))
def w1_f_X10_go (a k : Nat) : Prop := a = 12 ∨ a = 13 ∨ a = 14 ∨ a = 15
def w2_f_X10_go (a k : Nat) : Prop := False
theorem fr_f_X10_go {v1 : Int32} {v2 : Int32} {S : fS} {r : Int32 × fS} (h : f_X10_go v1 v2 S = some r) : Fr (w1_f_X10_go) (w2_f_X10_go) S r.2 := by
  unfold f_X10_go at h
  obtain ⟨q1, e1, h2⟩ := Option.bind_eq_some_iff.mp h
  rcases fr_ite h2 with h3 | h3
  ·
    exact fr_e2 h3 (Fr.rf (S := S))
  ·
    obtain ⟨q5, e4, h5⟩ := Option.bind_eq_some_iff.mp h3
    rcases fr_ite h5 with h6 | h6
    ·
      exact fr_e2 h6 (Fr.rf (S := S))
    ·
      obtain ⟨q9, e7, h8⟩ := Option.bind_eq_some_iff.mp h6
      have f9 : Fr (w1_f_X10_go) (w2_f_X10_go) S q9.2 := (Fr.rf (S := S)).tr (Fr.mo (fr_f_X0_setOff e7) (fun a k q => by unfold w1_f_X0_setOff at q; unfold w1_f_X10_go; rcases q with q | q | q | q; exact Or.inl (q); exact Or.inr (Or.inl (q)); exact Or.inr (Or.inr (Or.inl (q))); exact Or.inr (Or.inr (Or.inr ((q))))) (fun _ _ q => False.elim q))
      obtain ⟨z12, e10, h11⟩ := Option.bind_eq_some_iff.mp h8
      exact fr_e2 h11 f9
def w1_f_X4_pop (v0 : Nat) (a k : Nat) : Prop := (a = v0 ∧ k = 3)
def w2_f_X4_pop (v0 : Nat) (a k : Nat) : Prop := False
theorem fr_f_X4_pop {v0 : Nat} {S : fS} {r : Int64 × fS} (h : f_X4_pop v0 S = some r) : Fr (w1_f_X4_pop v0) (w2_f_X4_pop v0) S r.2 := by
  unfold f_X4_pop at h
  rcases fr_ite h with h1 | h1
  ·
    exact fr_e2 h1 (Fr.rf (S := S))
  ·
    rcases fr_ite h1 with h2 | h2
    ·
      obtain ⟨S3, e3, h4⟩ := Option.bind_eq_some_iff.mp h2
      have f5 : Fr (w1_f_X4_pop v0) (w2_f_X4_pop v0) S S3 := (Fr.rf (S := S)).tr (fr_pI e3 (by unfold w1_f_X4_pop; exact ⟨rfl, rfl⟩))
      obtain ⟨a6, e6, h7⟩ := Option.bind_eq_some_iff.mp h4
      exact fr_e2 h7 f5
    ·
      exact fr_e2 h2 (Fr.rf (S := S))
def w1_f_X4_push (v0 : Nat) (a k : Nat) : Prop := (a = v0 ∧ k = 3)
def w2_f_X4_push (v0 : Nat) (a k : Nat) : Prop := a = v0 + 2
theorem fr_f_X4_push {v0 : Nat} {v1 : Int64} {S : fS} {r : fS} (h : f_X4_push v0 v1 S = some r) : Fr (w1_f_X4_push v0) (w2_f_X4_push v0) S r := by
  unfold f_X4_push at h
  rcases fr_ite h with h1 | h1
  ·
    exact fr_e1 h1 (Fr.rf (S := S))
  ·
    rcases fr_ite h1 with h2 | h2
    ·
      exact fr_e1 h2 (Fr.rf (S := S))
    ·
      obtain ⟨S3, e3, h4⟩ := Option.bind_eq_some_iff.mp h2
      have f5 : Fr (w1_f_X4_push v0) (w2_f_X4_push v0) S S3 := (Fr.rf (S := S)).tr (fr_sL e3 (fun k => by unfold w2_f_X4_push; exact rfl))
      obtain ⟨S6, e6, h7⟩ := Option.bind_eq_some_iff.mp h4
      have f8 : Fr (w1_f_X4_push v0) (w2_f_X4_push v0) S S6 := f5.tr (fr_pI e6 (by unfold w1_f_X4_push; exact ⟨rfl, rfl⟩))
      exact fr_e1 h7 f8
def w1_lp_X4_goalOf_8 (p0 : Nat) (p1 : Nat) (p2 : Nat) (a k : Nat) : Prop := (a = p0 ∧ k = 3)
def w2_lp_X4_goalOf_8 (p0 : Nat) (p1 : Nat) (p2 : Nat) (a k : Nat) : Prop := a = p0 + 2
theorem fr_lp_X4_goalOf_8 {p0 : Nat} {p1 : Nat} {p2 : Nat} {p3 : Int32} {K : fS → Option (Int32 × fS)} {r : Int32 × fS} {v1 v2 : Nat → Nat → Prop} (s1 : ∀ a k, w1_lp_X4_goalOf_8 p0 p1 p2 a k → v1 a k) (s2 : ∀ a k, w2_lp_X4_goalOf_8 p0 p1 p2 a k → v2 a k) (hK : ∀ (x0 : fS), K x0 = some r → Fr v1 v2 x0 r.2) : ∀ (n : Nat) (p4 : Int32) (S0 : fS), lp_X4_goalOf_8 p0 p1 p2 p3 K n p4 S0 = some r → Fr v1 v2 S0 r.2 := by
  intro n
  induction n with
  | zero => intro p4 S0 h; exact mm_no h
  | succ n ih =>
    intro p4 S0 h
    rw [lp_X4_goalOf_8.eq_2] at h
    rcases fr_ite h with h1 | h1
    ·
      exact (Fr.rf (S := S0)).tr (hK _ h1)
    ·
      rcases fr_ite h1 with h2 | h2
      ·
        exact (Fr.rf (S := S0)).tr (hK _ h2)
      ·
        obtain ⟨a6, e3, h4⟩ := Option.bind_eq_some_iff.mp h2
        obtain ⟨a9, e5, h6⟩ := Option.bind_eq_some_iff.mp h4
        rcases fr_ite h6 with h7 | h7
        ·
          exact fr_e2 h7 (Fr.rf (S := S0))
        ·
          rcases fr_ite h7 with h8 | h8
          ·
            obtain ⟨q48, e9, h10⟩ := Option.bind_eq_some_iff.mp h8
            have f11 : Fr v1 v2 S0 q48.2 := (Fr.rf (S := S0)).tr (Fr.mo (fr_f_X4_pop e9) (fun a k q => by refine s1 _ _ ?_; unfold w1_f_X4_pop at q; unfold w1_lp_X4_goalOf_8; exact q) (fun _ _ q => False.elim q))
            rcases fr_ite h10 with h12 | h12
            ·
              exact f11.tr (ih _ _ h12)
            ·
              exact fr_e2 h12 f11
          ·
            rcases fr_ite h8 with h13 | h13
            ·
              obtain ⟨q45, e14, h15⟩ := Option.bind_eq_some_iff.mp h13
              have f16 : Fr v1 v2 S0 q45 := (Fr.rf (S := S0)).tr (Fr.mo (fr_f_X4_push e14) (fun a k q => by refine s1 _ _ ?_; unfold w1_f_X4_push at q; unfold w1_lp_X4_goalOf_8; exact q) (fun a k q => by refine s2 _ _ ?_; unfold w2_f_X4_push at q; unfold w2_lp_X4_goalOf_8; exact q))
              exact f16.tr (ih _ _ h15)
            ·
              rcases fr_ite h13 with h17 | h17
              ·
                obtain ⟨q39, e18, h19⟩ := Option.bind_eq_some_iff.mp h17
                obtain ⟨q42, e20, h21⟩ := Option.bind_eq_some_iff.mp h19
                have f22 : Fr v1 v2 S0 q42 := (Fr.rf (S := S0)).tr (Fr.mo (fr_f_X4_push e20) (fun a k q => by refine s1 _ _ ?_; unfold w1_f_X4_push at q; unfold w1_lp_X4_goalOf_8; exact q) (fun a k q => by refine s2 _ _ ?_; unfold w2_f_X4_push at q; unfold w2_lp_X4_goalOf_8; exact q))
                exact f22.tr (ih _ _ h21)
              ·
                rcases fr_ite h17 with h23 | h23
                ·
                  obtain ⟨q29, e24, h25⟩ := Option.bind_eq_some_iff.mp h23
                  have f26 : Fr v1 v2 S0 q29.2 := (Fr.rf (S := S0)).tr (Fr.mo (fr_f_X4_pop e24) (fun a k q => by refine s1 _ _ ?_; unfold w1_f_X4_pop at q; unfold w1_lp_X4_goalOf_8; exact q) (fun _ _ q => False.elim q))
                  rcases fr_ite h25 with h27 | h27
                  ·
                    obtain ⟨q36, e28, h29⟩ := Option.bind_eq_some_iff.mp h27
                    have f30 : Fr v1 v2 S0 q36 := f26.tr (Fr.mo (fr_f_X4_push e28) (fun a k q => by refine s1 _ _ ?_; unfold w1_f_X4_push at q; unfold w1_lp_X4_goalOf_8; exact q) (fun a k q => by refine s2 _ _ ?_; unfold w2_f_X4_push at q; unfold w2_lp_X4_goalOf_8; exact q))
                    exact f30.tr (ih _ _ h29)
                  ·
                    obtain ⟨q33, e31, h32⟩ := Option.bind_eq_some_iff.mp h27
                    have f33 : Fr v1 v2 S0 q33 := f26.tr (Fr.mo (fr_f_X4_push e31) (fun a k q => by refine s1 _ _ ?_; unfold w1_f_X4_push at q; unfold w1_lp_X4_goalOf_8; exact q) (fun a k q => by refine s2 _ _ ?_; unfold w2_f_X4_push at q; unfold w2_lp_X4_goalOf_8; exact q))
                    exact f33.tr (ih _ _ h32)
                ·
                  obtain ⟨q17, e34, h35⟩ := Option.bind_eq_some_iff.mp h23
                  have f36 : Fr v1 v2 S0 q17.2 := (Fr.rf (S := S0)).tr (Fr.mo (fr_f_X4_pop e34) (fun a k q => by refine s1 _ _ ?_; unfold w1_f_X4_pop at q; unfold w1_lp_X4_goalOf_8; exact q) (fun _ _ q => False.elim q))
                  obtain ⟨q20, e37, h38⟩ := Option.bind_eq_some_iff.mp h35
                  have f39 : Fr v1 v2 S0 q20.2 := f36.tr (Fr.mo (fr_f_X4_pop e37) (fun a k q => by refine s1 _ _ ?_; unfold w1_f_X4_pop at q; unfold w1_lp_X4_goalOf_8; exact q) (fun _ _ q => False.elim q))
                  obtain ⟨q23, e40, h41⟩ := Option.bind_eq_some_iff.mp h38
                  obtain ⟨q26, e42, h43⟩ := Option.bind_eq_some_iff.mp h41
                  have f44 : Fr v1 v2 S0 q26 := f39.tr (Fr.mo (fr_f_X4_push e42) (fun a k q => by refine s1 _ _ ?_; unfold w1_f_X4_push at q; unfold w1_lp_X4_goalOf_8; exact q) (fun a k q => by refine s2 _ _ ?_; unfold w2_f_X4_push at q; unfold w2_lp_X4_goalOf_8; exact q))
                  exact f44.tr (ih _ _ h43)
def w1_f_X4_goalOf (v0 : Nat) (v1 : Nat) (v2 : Nat) (a k : Nat) : Prop := (a = v0 ∧ k = 3)
def w2_f_X4_goalOf (v0 : Nat) (v1 : Nat) (v2 : Nat) (a k : Nat) : Prop := a = v0 + 2
theorem fr_f_X4_goalOf {v0 : Nat} {v1 : Nat} {v2 : Nat} {v3 : Int32} {S : fS} {r : Int32 × fS} (h : f_X4_goalOf v0 v1 v2 v3 S = some r) : Fr (w1_f_X4_goalOf v0 v1 v2) (w2_f_X4_goalOf v0 v1 v2) S r.2 := by
  unfold f_X4_goalOf at h
  obtain ⟨S1, e1, h2⟩ := Option.bind_eq_some_iff.mp h
  have f3 : Fr (w1_f_X4_goalOf v0 v1 v2) (w2_f_X4_goalOf v0 v1 v2) S S1 := (Fr.rf (S := S)).tr (fr_pI e1 (by unfold w1_f_X4_goalOf; exact ⟨rfl, rfl⟩))
  refine f3.tr (fr_lp_X4_goalOf_8 (v1 := w1_f_X4_goalOf v0 v1 v2) (v2 := w2_f_X4_goalOf v0 v1 v2) (fun a k q => by unfold w1_lp_X4_goalOf_8 at q; unfold w1_f_X4_goalOf; exact q) (fun a k q => by unfold w2_lp_X4_goalOf_8 at q; unfold w2_f_X4_goalOf; exact q) (fun S52 h4 => ?_) _ _ _ h2)
  exact fr_e2 h4 (Fr.rf (S := S52))
def w1_lp_X0_obey_2 (p0 : Nat) (p1 : Nat) (p2 : Nat) (a k : Nat) : Prop := a = p0 + 1 ∨ a = p0 + 2 ∨ a = p0 + 3 ∨ a = p0 + 4 ∨ (a = p2 ∧ k = 3)
def w2_lp_X0_obey_2 (p0 : Nat) (p1 : Nat) (p2 : Nat) (a k : Nat) : Prop := a = p2 + 2
theorem fr_lp_X0_obey_2 {p0 : Nat} {p1 : Nat} {p2 : Nat} {K : fS → Option (fS)} {r : fS} {v1 v2 : Nat → Nat → Prop} (s1 : ∀ a k, w1_lp_X0_obey_2 p0 p1 p2 a k → v1 a k) (s2 : ∀ a k, w2_lp_X0_obey_2 p0 p1 p2 a k → v2 a k) (hK : ∀ (x0 : fS), K x0 = some r → Fr v1 v2 x0 r) : ∀ (n : Nat) (p3 : Int32) (S0 : fS), lp_X0_obey_2 p0 p1 p2 K n p3 S0 = some r → Fr v1 v2 S0 r := by
  intro n
  induction n with
  | zero => intro p3 S0 h; exact mm_no h
  | succ n ih =>
    intro p3 S0 h
    rw [lp_X0_obey_2.eq_2] at h
    rcases fr_ite h with h1 | h1
    ·
      exact (Fr.rf (S := S0)).tr (hK _ h1)
    ·
      obtain ⟨q2, e2, h3⟩ := Option.bind_eq_some_iff.mp h1
      rcases fr_ite h3 with h4 | h4
      ·
        exact (Fr.rf (S := S0)).tr (ih _ _ h4)
      ·
        obtain ⟨q6, e5, h6⟩ := Option.bind_eq_some_iff.mp h4
        have f7 : Fr v1 v2 S0 q6.2 := (Fr.rf (S := S0)).tr (Fr.mo (fr_f_X4_goalOf e5) (fun a k q => by refine s1 _ _ ?_; unfold w1_f_X4_goalOf at q; unfold w1_lp_X0_obey_2; exact Or.inr (Or.inr (Or.inr (Or.inr ((q)))))) (fun a k q => by refine s2 _ _ ?_; unfold w2_f_X4_goalOf at q; unfold w2_lp_X0_obey_2; exact q))
        obtain ⟨q9, e8, h9⟩ := Option.bind_eq_some_iff.mp h6
        rcases fr_ite h9 with h10 | h10
        ·
          exact f7.tr (ih _ _ h10)
        ·
          obtain ⟨a13, e11, h12⟩ := Option.bind_eq_some_iff.mp h10
          obtain ⟨q16, e13, h14⟩ := Option.bind_eq_some_iff.mp h12
          obtain ⟨q19, e15, h16⟩ := Option.bind_eq_some_iff.mp h14
          have f17 : Fr v1 v2 S0 q19.2 := f7.tr (Fr.mo (fr_f_X0_setOff e15) (fun a k q => by refine s1 _ _ ?_; unfold w1_f_X0_setOff at q; unfold w1_lp_X0_obey_2; rcases q with q | q | q | q; exact Or.inl (q); exact Or.inr (Or.inl (q)); exact Or.inr (Or.inr (Or.inl (q))); exact Or.inr (Or.inr (Or.inr (Or.inl (q))))) (fun _ _ q => False.elim q))
          exact f17.tr (ih _ _ h16)
def w1_f_X0_obey (v0 : Nat) (v1 : Nat) (v2 : Nat) (a k : Nat) : Prop := a = v0 + 1 ∨ a = v0 + 2 ∨ a = v0 + 3 ∨ a = v0 + 4 ∨ (a = v2 ∧ k = 3)
def w2_f_X0_obey (v0 : Nat) (v1 : Nat) (v2 : Nat) (a k : Nat) : Prop := a = v2 + 2
theorem fr_f_X0_obey {v0 : Nat} {v1 : Nat} {v2 : Nat} {S : fS} {r : fS} (h : f_X0_obey v0 v1 v2 S = some r) : Fr (w1_f_X0_obey v0 v1 v2) (w2_f_X0_obey v0 v1 v2) S r := by
  unfold f_X0_obey at h
  refine (Fr.rf (S := S)).tr (fr_lp_X0_obey_2 (v1 := w1_f_X0_obey v0 v1 v2) (v2 := w2_f_X0_obey v0 v1 v2) (fun a k q => by unfold w1_lp_X0_obey_2 at q; unfold w1_f_X0_obey; rcases q with q | q | q | q | q; exact Or.inl (q); exact Or.inr (Or.inl (q)); exact Or.inr (Or.inr (Or.inl (q))); exact Or.inr (Or.inr (Or.inr (Or.inl (q)))); exact Or.inr (Or.inr (Or.inr (Or.inr ((q)))))) (fun a k q => by unfold w2_lp_X0_obey_2 at q; unfold w2_f_X0_obey; exact q) (fun S22 h1 => ?_) _ _ _ h)
  exact fr_e1 h1 (Fr.rf (S := S22))
def w1_lp_X0_passHour_2 (p0 : Nat) (p1 : Nat) (a k : Nat) : Prop := a = p0 + 1 ∨ a = p0 + 2 ∨ a = p0 + 3 ∨ a = p0 + 4
def w2_lp_X0_passHour_2 (p0 : Nat) (p1 : Nat) (a k : Nat) : Prop := a = p0 + 5
theorem fr_lp_X0_passHour_2 {p0 : Nat} {p1 : Nat} {K : fS → Option (fS)} {r : fS} {v1 v2 : Nat → Nat → Prop} (s1 : ∀ a k, w1_lp_X0_passHour_2 p0 p1 a k → v1 a k) (s2 : ∀ a k, w2_lp_X0_passHour_2 p0 p1 a k → v2 a k) (hK : ∀ (x0 : fS), K x0 = some r → Fr v1 v2 x0 r) : ∀ (n : Nat) (p2 : Int32) (S0 : fS), lp_X0_passHour_2 p0 p1 K n p2 S0 = some r → Fr v1 v2 S0 r := by
  intro n
  induction n with
  | zero => intro p2 S0 h; exact mm_no h
  | succ n ih =>
    intro p2 S0 h
    rw [lp_X0_passHour_2.eq_2] at h
    rcases fr_ite h with h1 | h1
    ·
      exact (Fr.rf (S := S0)).tr (hK _ h1)
    ·
      obtain ⟨q2, e2, h3⟩ := Option.bind_eq_some_iff.mp h1
      rcases fr_ite h3 with h4 | h4
      ·
        obtain ⟨a6, e5, h6⟩ := Option.bind_eq_some_iff.mp h4
        obtain ⟨a9, e7, h8⟩ := Option.bind_eq_some_iff.mp h6
        obtain ⟨a12, e9, h10⟩ := Option.bind_eq_some_iff.mp h8
        obtain ⟨S15, e11, h12⟩ := Option.bind_eq_some_iff.mp h10
        have f13 : Fr v1 v2 S0 S15 := (Fr.rf (S := S0)).tr (fr_sL e11 (fun k => by refine s2 _ _ ?_; unfold w2_lp_X0_passHour_2; exact rfl))
        obtain ⟨a18, e14, h15⟩ := Option.bind_eq_some_iff.mp h12
        obtain ⟨S21, e16, h17⟩ := Option.bind_eq_some_iff.mp h15
        have f18 : Fr v1 v2 S0 S21 := f13.tr (fr_sI e16 (fun k => by refine s1 _ _ ?_; unfold w1_lp_X0_passHour_2; exact Or.inr (Or.inr (Or.inl (rfl)))))
        obtain ⟨a24, e19, h20⟩ := Option.bind_eq_some_iff.mp h17
        obtain ⟨a27, e21, h22⟩ := Option.bind_eq_some_iff.mp h20
        rcases fr_ite h22 with h23 | h23
        ·
          exact f18.tr (ih _ _ h23)
        ·
          obtain ⟨a31, e24, h25⟩ := Option.bind_eq_some_iff.mp h23
          obtain ⟨q34, e26, h27⟩ := Option.bind_eq_some_iff.mp h25
          have f28 : Fr v1 v2 S0 q34 := f18.tr (Fr.mo (fr_f_X0_putOn e26) (fun a k q => by refine s1 _ _ ?_; unfold w1_f_X0_putOn at q; unfold w1_lp_X0_passHour_2; rcases q with q | q | q | q; exact Or.inl (q); exact Or.inr (Or.inl (q)); exact Or.inr (Or.inr (Or.inl (q))); exact Or.inr (Or.inr (Or.inr ((q))))) (fun _ _ q => False.elim q))
          exact f28.tr (ih _ _ h27)
      ·
        obtain ⟨a37, e29, h30⟩ := Option.bind_eq_some_iff.mp h4
        obtain ⟨a40, e31, h32⟩ := Option.bind_eq_some_iff.mp h30
        obtain ⟨a43, e33, h34⟩ := Option.bind_eq_some_iff.mp h32
        obtain ⟨S46, e35, h36⟩ := Option.bind_eq_some_iff.mp h34
        have f37 : Fr v1 v2 S0 S46 := (Fr.rf (S := S0)).tr (fr_sL e35 (fun k => by refine s2 _ _ ?_; unfold w2_lp_X0_passHour_2; exact rfl))
        exact f37.tr (ih _ _ h36)
def w1_f_X0_passHour (v0 : Nat) (v1 : Nat) (a k : Nat) : Prop := (a = v0 ∧ k = 6) ∨ a = v0 + 1 ∨ a = v0 + 2 ∨ a = v0 + 3 ∨ a = v0 + 4
def w2_f_X0_passHour (v0 : Nat) (v1 : Nat) (a k : Nat) : Prop := a = v0 + 5
theorem fr_f_X0_passHour {v0 : Nat} {v1 : Nat} {S : fS} {r : fS} (h : f_X0_passHour v0 v1 S = some r) : Fr (w1_f_X0_passHour v0 v1) (w2_f_X0_passHour v0 v1) S r := by
  unfold f_X0_passHour at h
  refine (Fr.rf (S := S)).tr (fr_lp_X0_passHour_2 (v1 := w1_f_X0_passHour v0 v1) (v2 := w2_f_X0_passHour v0 v1) (fun a k q => by unfold w1_lp_X0_passHour_2 at q; unfold w1_f_X0_passHour; rcases q with q | q | q | q; exact Or.inr (Or.inl (q)); exact Or.inr (Or.inr (Or.inl (q))); exact Or.inr (Or.inr (Or.inr (Or.inl (q)))); exact Or.inr (Or.inr (Or.inr (Or.inr ((q)))))) (fun a k q => by unfold w2_lp_X0_passHour_2 at q; unfold w2_f_X0_passHour; exact q) (fun S49 h1 => ?_) _ _ _ h)
  obtain ⟨S51, e2, h3⟩ := Option.bind_eq_some_iff.mp h1
  have f4 : Fr (w1_f_X0_passHour v0 v1) (w2_f_X0_passHour v0 v1) S49 S51 := (Fr.rf (S := S49)).tr (fr_pI e2 (by unfold w1_f_X0_passHour; exact Or.inl (⟨rfl, rfl⟩)))
  exact fr_e1 h3 f4
def w1_lp_X0_live_3 (p0 : Nat) (p1 : Nat) (p2 : Option Nat) (a k : Nat) : Prop := (a = (p2.getD 127) ∧ k = 3) ∨ (a = p0 ∧ k = 6) ∨ a = p0 + 1 ∨ a = p0 + 2 ∨ a = p0 + 3 ∨ a = p0 + 4
def w2_lp_X0_live_3 (p0 : Nat) (p1 : Nat) (p2 : Option Nat) (a k : Nat) : Prop := a = (p2.getD 127) + 2 ∨ a = p0 + 5
theorem fr_lp_X0_live_3 {p0 : Nat} {p1 : Nat} {p2 : Option Nat} {p3 : Int32} {K : fS → Option (fS)} {r : fS} {v1 v2 : Nat → Nat → Prop} (s1 : ∀ a k, w1_lp_X0_live_3 p0 p1 p2 a k → v1 a k) (s2 : ∀ a k, w2_lp_X0_live_3 p0 p1 p2 a k → v2 a k) (hK : ∀ (x0 : fS), K x0 = some r → Fr v1 v2 x0 r) : ∀ (n : Nat) (p4 : Int32) (S0 : fS), lp_X0_live_3 p0 p1 p2 p3 K n p4 S0 = some r → Fr v1 v2 S0 r := by
  intro n
  induction n with
  | zero => intro p4 S0 h; exact mm_no h
  | succ n ih =>
    intro p4 S0 h
    cases p2 with
    | none =>
      rw [lp_X0_live_3.eq_2] at h
      rcases fr_ite h with h1 | h1
      ·
        exact (Fr.rf (S := S0)).tr (hK _ h1)
      ·
        obtain ⟨q3, e2, h3⟩ := Option.bind_eq_some_iff.mp h1
        have f4 : Fr v1 v2 S0 q3 := (Fr.rf (S := S0)).tr (Fr.mo (fr_f_X0_passHour e2) (fun a k q => by refine s1 _ _ ?_; unfold w1_f_X0_passHour at q; unfold w1_lp_X0_live_3; rcases q with q | q | q | q | q; exact Or.inr (Or.inl (q)); exact Or.inr (Or.inr (Or.inl (q))); exact Or.inr (Or.inr (Or.inr (Or.inl (q)))); exact Or.inr (Or.inr (Or.inr (Or.inr (Or.inl (q))))); exact Or.inr (Or.inr (Or.inr (Or.inr (Or.inr ((q))))))) (fun a k q => by refine s2 _ _ ?_; unfold w2_f_X0_passHour at q; unfold w2_lp_X0_live_3; exact Or.inr ((q))))
        exact f4.tr (ih _ _ h3)
    | some a2 =>
      rw [lp_X0_live_3.eq_3] at h
      rcases fr_ite h with h5 | h5
      ·
        exact (Fr.rf (S := S0)).tr (hK _ h5)
      ·
        obtain ⟨q6, e6, h7⟩ := Option.bind_eq_some_iff.mp h5
        have f8 : Fr v1 v2 S0 q6 := (Fr.rf (S := S0)).tr (Fr.mo (fr_f_X0_obey e6) (fun a k q => by refine s1 _ _ ?_; unfold w1_f_X0_obey at q; unfold w1_lp_X0_live_3; rcases q with q | q | q | q | q; exact Or.inr (Or.inr (Or.inl (q))); exact Or.inr (Or.inr (Or.inr (Or.inl (q)))); exact Or.inr (Or.inr (Or.inr (Or.inr (Or.inl (q))))); exact Or.inr (Or.inr (Or.inr (Or.inr (Or.inr ((q)))))); exact Or.inl (q)) (fun a k q => by refine s2 _ _ ?_; unfold w2_f_X0_obey at q; unfold w2_lp_X0_live_3; exact Or.inl (q)))
        obtain ⟨q9, e9, h10⟩ := Option.bind_eq_some_iff.mp h7
        have f11 : Fr v1 v2 S0 q9 := f8.tr (Fr.mo (fr_f_X0_passHour e9) (fun a k q => by refine s1 _ _ ?_; unfold w1_f_X0_passHour at q; unfold w1_lp_X0_live_3; rcases q with q | q | q | q | q; exact Or.inr (Or.inl (q)); exact Or.inr (Or.inr (Or.inl (q))); exact Or.inr (Or.inr (Or.inr (Or.inl (q)))); exact Or.inr (Or.inr (Or.inr (Or.inr (Or.inl (q))))); exact Or.inr (Or.inr (Or.inr (Or.inr (Or.inr ((q))))))) (fun a k q => by refine s2 _ _ ?_; unfold w2_f_X0_passHour at q; unfold w2_lp_X0_live_3; exact Or.inr ((q))))
        exact f11.tr (ih _ _ h10)
def w1_f_X0_live (v0 : Nat) (v1 : Nat) (v2 : Option Nat) (a k : Nat) : Prop := (a = (v2.getD 127) ∧ k = 3) ∨ (a = v0 ∧ k = 6) ∨ a = v0 + 1 ∨ a = v0 + 2 ∨ a = v0 + 3 ∨ a = v0 + 4
def w2_f_X0_live (v0 : Nat) (v1 : Nat) (v2 : Option Nat) (a k : Nat) : Prop := a = (v2.getD 127) + 2 ∨ a = v0 + 5
theorem fr_f_X0_live {v0 : Nat} {v1 : Nat} {v2 : Option Nat} {v3 : Int32} {S : fS} {r : fS} (h : f_X0_live v0 v1 v2 v3 S = some r) : Fr (w1_f_X0_live v0 v1 v2) (w2_f_X0_live v0 v1 v2) S r := by
  unfold f_X0_live at h
  refine (Fr.rf (S := S)).tr (fr_lp_X0_live_3 (v1 := w1_f_X0_live v0 v1 v2) (v2 := w2_f_X0_live v0 v1 v2) (fun a k q => by unfold w1_lp_X0_live_3 at q; unfold w1_f_X0_live; rcases q with q | q | q | q | q | q; exact Or.inl (q); exact Or.inr (Or.inl (q)); exact Or.inr (Or.inr (Or.inl (q))); exact Or.inr (Or.inr (Or.inr (Or.inl (q)))); exact Or.inr (Or.inr (Or.inr (Or.inr (Or.inl (q))))); exact Or.inr (Or.inr (Or.inr (Or.inr (Or.inr ((q))))))) (fun a k q => by unfold w2_lp_X0_live_3 at q; unfold w2_f_X0_live; rcases q with q | q; exact Or.inl (q); exact Or.inr ((q))) (fun S12 h1 => ?_) _ _ _ h)
  exact fr_e1 h1 (Fr.rf (S := S12))
def w1_f_X10_tick (a k : Nat) : Prop := (a = 11 ∧ k = 6) ∨ a = 12 ∨ a = 13 ∨ a = 14 ∨ a = 15 ∨ (127 ≤ a ∧ a ≤ 144)
def w2_f_X10_tick (a k : Nat) : Prop := a = 16 ∨ (127 ≤ a ∧ a ≤ 144)
theorem fr_f_X10_tick {v1 : Int32} {v2 : Int32} {S : fS} {r : Int32 × fS} (h : f_X10_tick v1 v2 S = some r) : Fr (w1_f_X10_tick) (w2_f_X10_tick) S r.2 := by
  unfold f_X10_tick at h
  obtain ⟨q1, e1, h2⟩ := Option.bind_eq_some_iff.mp h
  rcases fr_ite h2 with h3 | h3
  ·
    exact fr_e2 h3 (Fr.rf (S := S))
  ·
    obtain ⟨q5, e4, h5⟩ := Option.bind_eq_some_iff.mp h3
    rcases fr_ite h5 with h6 | h6
    ·
      exact fr_e2 h6 (Fr.rf (S := S))
    ·
      rcases fr_ite h6 with h7 | h7
      ·
        obtain ⟨q10, e8, h9⟩ := Option.bind_eq_some_iff.mp h7
        have g10 := fr_rON e8
        obtain ⟨q13, e11, h12⟩ := Option.bind_eq_some_iff.mp h9
        have f13 : Fr (w1_f_X10_tick) (w2_f_X10_tick) S q13 := (Fr.rf (S := S)).tr (Fr.mo (fr_f_X0_live e11) (fun a k q => by unfold w1_f_X0_live at q; unfold w1_f_X10_tick; rcases q with q | q | q | q | q | q; exact Or.inr (Or.inr (Or.inr (Or.inr (Or.inr (((by omega))))))); exact Or.inl (q); exact Or.inr (Or.inl (q)); exact Or.inr (Or.inr (Or.inl (q))); exact Or.inr (Or.inr (Or.inr (Or.inl (q)))); exact Or.inr (Or.inr (Or.inr (Or.inr (Or.inl (q)))))) (fun a k q => by unfold w2_f_X0_live at q; unfold w2_f_X10_tick; rcases q with q | q; exact Or.inr (((by omega))); exact Or.inl (q)))
        exact fr_e2 h12 f13
      ·
        exact fr_e2 h7 (Fr.rf (S := S))
def w1_f_X10_lookAhead (a k : Nat) : Prop := (a = 31 ∧ k = 5) ∨ (a = 31 ∧ k = 6) ∨ a = 32 ∨ a = 33 ∨ a = 34 ∨ a = 35 ∨ (127 ≤ a ∧ a ≤ 144)
def w2_f_X10_lookAhead (a k : Nat) : Prop := a = 36 ∨ (127 ≤ a ∧ a ≤ 144)
theorem fr_f_X10_lookAhead {v1 : Int32} {v2 : Int32} {S : fS} {r : fS} (h : f_X10_lookAhead v1 v2 S = some r) : Fr (w1_f_X10_lookAhead) (w2_f_X10_lookAhead) S r := by
  unfold f_X10_lookAhead at h
  obtain ⟨q1, e1, h2⟩ := Option.bind_eq_some_iff.mp h
  have f3 : Fr (w1_f_X10_lookAhead) (w2_f_X10_lookAhead) S q1 := (Fr.rf (S := S)).tr (Fr.mo (fr_f_X0_copyFrom e1) (fun a k q => by unfold w1_f_X0_copyFrom at q; unfold w1_f_X10_lookAhead; rcases q with q | q | q | q | q | q; exact Or.inl (q); exact Or.inr (Or.inl (q)); exact Or.inr (Or.inr (Or.inl (q))); exact Or.inr (Or.inr (Or.inr (Or.inl (q)))); exact Or.inr (Or.inr (Or.inr (Or.inr (Or.inl (q))))); exact Or.inr (Or.inr (Or.inr (Or.inr (Or.inr (Or.inl (q))))))) (fun a k q => by unfold w2_f_X0_copyFrom at q; unfold w2_f_X10_lookAhead; exact Or.inl (q)))
  obtain ⟨q4, e4, h5⟩ := Option.bind_eq_some_iff.mp h2
  have g6 := fr_rON e4
  obtain ⟨q7, e7, h8⟩ := Option.bind_eq_some_iff.mp h5
  have f9 : Fr (w1_f_X10_lookAhead) (w2_f_X10_lookAhead) S q7 := f3.tr (Fr.mo (fr_f_X0_live e7) (fun a k q => by unfold w1_f_X0_live at q; unfold w1_f_X10_lookAhead; rcases q with q | q | q | q | q | q; exact Or.inr (Or.inr (Or.inr (Or.inr (Or.inr (Or.inr (((by omega)))))))); exact Or.inr (Or.inl (q)); exact Or.inr (Or.inr (Or.inl (q))); exact Or.inr (Or.inr (Or.inr (Or.inl (q)))); exact Or.inr (Or.inr (Or.inr (Or.inr (Or.inl (q))))); exact Or.inr (Or.inr (Or.inr (Or.inr (Or.inr (Or.inl (q))))))) (fun a k q => by unfold w2_f_X0_live at q; unfold w2_f_X10_lookAhead; rcases q with q | q; exact Or.inr (((by omega))); exact Or.inl (q)))
  exact fr_e1 h8 f9
def w1_f_X10_ahead (a k : Nat) : Prop := (a = 31 ∧ k = 5) ∨ (a = 31 ∧ k = 6) ∨ a = 32 ∨ a = 33 ∨ a = 34 ∨ a = 35 ∨ (127 ≤ a ∧ a ≤ 144)
def w2_f_X10_ahead (a k : Nat) : Prop := a = 36 ∨ (127 ≤ a ∧ a ≤ 144)
theorem fr_f_X10_ahead {v1 : Int32} {v2 : Int32} {v3 : Int32} {v4 : Int32} {S : fS} {r : Int64 × fS} (h : f_X10_ahead v1 v2 v3 v4 S = some r) : Fr (w1_f_X10_ahead) (w2_f_X10_ahead) S r.2 := by
  unfold f_X10_ahead at h
  obtain ⟨q1, e1, h2⟩ := Option.bind_eq_some_iff.mp h
  rcases fr_ite h2 with h3 | h3
  ·
    exact fr_e2 h3 (Fr.rf (S := S))
  ·
    obtain ⟨q5, e4, h5⟩ := Option.bind_eq_some_iff.mp h3
    rcases fr_ite h5 with h6 | h6
    ·
      exact fr_e2 h6 (Fr.rf (S := S))
    ·
      obtain ⟨q9, e7, h8⟩ := Option.bind_eq_some_iff.mp h6
      rcases fr_ite h8 with h9 | h9
      ·
        exact fr_e2 h9 (Fr.rf (S := S))
      ·
        obtain ⟨q13, e10, h11⟩ := Option.bind_eq_some_iff.mp h9
        rcases fr_ite h11 with h12 | h12
        ·
          exact fr_e2 h12 (Fr.rf (S := S))
        ·
          obtain ⟨q17, e13, h14⟩ := Option.bind_eq_some_iff.mp h12
          have f15 : Fr (w1_f_X10_ahead) (w2_f_X10_ahead) S q17 := (Fr.rf (S := S)).tr (Fr.mo (fr_f_X10_lookAhead e13) (fun a k q => by unfold w1_f_X10_lookAhead at q; unfold w1_f_X10_ahead; rcases q with q | q | q | q | q | q | q; exact Or.inl (q); exact Or.inr (Or.inl (q)); exact Or.inr (Or.inr (Or.inl (q))); exact Or.inr (Or.inr (Or.inr (Or.inl (q)))); exact Or.inr (Or.inr (Or.inr (Or.inr (Or.inl (q))))); exact Or.inr (Or.inr (Or.inr (Or.inr (Or.inr (Or.inl (q)))))); exact Or.inr (Or.inr (Or.inr (Or.inr (Or.inr (Or.inr ((q)))))))) (fun a k q => by unfold w2_f_X10_lookAhead at q; unfold w2_f_X10_ahead; rcases q with q | q; exact Or.inl (q); exact Or.inr ((q))))
          rcases fr_ite h14 with h16 | h16
          ·
            obtain ⟨q31, e17, h18⟩ := Option.bind_eq_some_iff.mp h16
            rcases fr_ite h18 with h19 | h19
            ·
              exact fr_e2 h19 f15
            ·
              obtain ⟨a35, e20, h21⟩ := Option.bind_eq_some_iff.mp h19
              exact fr_e2 h21 f15
          ·
            rcases fr_ite h16 with h22 | h22
            ·
              obtain ⟨q28, e23, h24⟩ := Option.bind_eq_some_iff.mp h22
              exact fr_e2 h24 f15
            ·
              obtain ⟨a22, e25, h26⟩ := Option.bind_eq_some_iff.mp h22
              obtain ⟨q25, e27, h28⟩ := Option.bind_eq_some_iff.mp h26
              exact fr_e2 h28 f15
def w1_lp_X1_measure_3 (p1 : Nat) (a k : Nat) : Prop := False
def w2_lp_X1_measure_3 (p1 : Nat) (a k : Nat) : Prop := a = 44
theorem fr_lp_X1_measure_3 {p1 : Nat} {p2 : Int32} {p3 : Int32} {p4 : Int32} {K : fS → Option (fS)} {r : fS} {v1 v2 : Nat → Nat → Prop} (s1 : ∀ a k, w1_lp_X1_measure_3 p1 a k → v1 a k) (s2 : ∀ a k, w2_lp_X1_measure_3 p1 a k → v2 a k) (hK : ∀ (x0 : fS), K x0 = some r → Fr v1 v2 x0 r) : ∀ (n : Nat) (p5 : Int32) (S0 : fS), lp_X1_measure_3 p1 p2 p3 p4 K n p5 S0 = some r → Fr v1 v2 S0 r := by
  intro n
  induction n with
  | zero => intro p5 S0 h; exact mm_no h
  | succ n ih =>
    intro p5 S0 h
    rw [lp_X1_measure_3.eq_2] at h
    rcases fr_ite h with h1 | h1
    ·
      exact (Fr.rf (S := S0)).tr (hK _ h1)
    ·
      rcases fr_ite h1 with h2 | h2
      ·
        obtain ⟨S6, e3, h4⟩ := Option.bind_eq_some_iff.mp h2
        have f5 : Fr v1 v2 S0 S6 := (Fr.rf (S := S0)).tr (fr_sL e3 (fun k => by refine s2 _ _ ?_; unfold w2_lp_X1_measure_3; exact rfl))
        exact f5.tr (ih _ _ h4)
      ·
        obtain ⟨S3, e6, h7⟩ := Option.bind_eq_some_iff.mp h2
        have f8 : Fr v1 v2 S0 S3 := (Fr.rf (S := S0)).tr (fr_sL e6 (fun k => by refine s2 _ _ ?_; unfold w2_lp_X1_measure_3; exact rfl))
        exact f8.tr (ih _ _ h7)
def w1_lp_X1_measure_55 (p1 : Nat) (a k : Nat) : Prop := False
def w2_lp_X1_measure_55 (p1 : Nat) (a k : Nat) : Prop := a = 44
theorem fr_lp_X1_measure_55 {p1 : Nat} {p3 : Int32} {p4 : Int32} {p5 : Int32} {K : fS → Option (fS)} {r : fS} {v1 v2 : Nat → Nat → Prop} (s1 : ∀ a k, w1_lp_X1_measure_55 p1 a k → v1 a k) (s2 : ∀ a k, w2_lp_X1_measure_55 p1 a k → v2 a k) (hK : ∀ (x0 : fS), K x0 = some r → Fr v1 v2 x0 r) : ∀ (n : Nat) (p6 : Int32) (S0 : fS), lp_X1_measure_55 p1 p3 p4 p5 K n p6 S0 = some r → Fr v1 v2 S0 r := by
  intro n
  induction n with
  | zero => intro p6 S0 h; exact mm_no h
  | succ n ih =>
    intro p6 S0 h
    rw [lp_X1_measure_55.eq_2] at h
    rcases fr_ite h with h1 | h1
    ·
      exact (Fr.rf (S := S0)).tr (hK _ h1)
    ·
      obtain ⟨q14, e2, h3⟩ := Option.bind_eq_some_iff.mp h1
      obtain ⟨S17, e4, h5⟩ := Option.bind_eq_some_iff.mp h3
      have f6 : Fr v1 v2 S0 S17 := (Fr.rf (S := S0)).tr (fr_sL e4 (fun k => by refine s2 _ _ ?_; unfold w2_lp_X1_measure_55; exact rfl))
      exact f6.tr (ih _ _ h5)
def w1_lp_X1_measure_39 (p1 : Nat) (a k : Nat) : Prop := False
def w2_lp_X1_measure_39 (p1 : Nat) (a k : Nat) : Prop := a = 44
theorem fr_lp_X1_measure_39 {p1 : Nat} {p3 : Int32} {p4 : Int32} {K : fS → Option (fS)} {r : fS} {v1 v2 : Nat → Nat → Prop} (s1 : ∀ a k, w1_lp_X1_measure_39 p1 a k → v1 a k) (s2 : ∀ a k, w2_lp_X1_measure_39 p1 a k → v2 a k) (hK : ∀ (x0 : fS), K x0 = some r → Fr v1 v2 x0 r) : ∀ (n : Nat) (p5 : Int32) (S0 : fS), lp_X1_measure_39 p1 p3 p4 K n p5 S0 = some r → Fr v1 v2 S0 r := by
  intro n
  induction n with
  | zero => intro p5 S0 h; exact mm_no h
  | succ n ih =>
    intro p5 S0 h
    rw [lp_X1_measure_39.eq_2] at h
    rcases fr_ite h with h1 | h1
    ·
      exact (Fr.rf (S := S0)).tr (hK _ h1)
    ·
      rcases fr_ite h1 with h2 | h2
      ·
        exact (Fr.rf (S := S0)).tr (hK _ h2)
      ·
        refine (Fr.rf (S := S0)).tr (fr_lp_X1_measure_55 (v1 := v1) (v2 := v2) (fun _ _ q => False.elim q) (fun a k q => by refine s2 _ _ ?_; unfold w2_lp_X1_measure_55 at q; unfold w2_lp_X1_measure_39; exact q) (fun S20 h3 => ?_) _ _ _ h2)
        exact (Fr.rf (S := S20)).tr (ih _ _ h3)
def w1_f_X1_measure (v1 : Nat) (a k : Nat) : Prop := False
def w2_f_X1_measure (v1 : Nat) (a k : Nat) : Prop := a = 44
theorem fr_f_X1_measure {v1 : Nat} {v2 : Int32} {v3 : Int32} {v4 : Int32} {S : fS} {r : fS} (h : f_X1_measure v1 v2 v3 v4 S = some r) : Fr (w1_f_X1_measure v1) (w2_f_X1_measure v1) S r := by
  unfold f_X1_measure at h
  refine (Fr.rf (S := S)).tr (fr_lp_X1_measure_3 (v1 := w1_f_X1_measure v1) (v2 := w2_f_X1_measure v1) (fun _ _ q => False.elim q) (fun a k q => by unfold w2_lp_X1_measure_3 at q; unfold w2_f_X1_measure; exact q) (fun S9 h1 => ?_) _ _ _ h)
  refine (Fr.rf (S := S9)).tr (fr_lp_X1_measure_39 (v1 := w1_f_X1_measure v1) (v2 := w2_f_X1_measure v1) (fun _ _ q => False.elim q) (fun a k q => by unfold w2_lp_X1_measure_39 at q; unfold w2_f_X1_measure; exact q) (fun S22 h2 => ?_) _ _ _ h1)
  exact fr_e1 h2 (Fr.rf (S := S22))
def w1_f_X10_plan (a k : Nat) : Prop := False
def w2_f_X10_plan (a k : Nat) : Prop := a = 44
theorem fr_f_X10_plan {v1 : Int32} {v2 : Int32} {v3 : Int32} {v4 : Int32} {v5 : Int32} {S : fS} {r : Int64 × fS} (h : f_X10_plan v1 v2 v3 v4 v5 S = some r) : Fr (w1_f_X10_plan) (w2_f_X10_plan) S r.2 := by
  unfold f_X10_plan at h
  obtain ⟨q1, e1, h2⟩ := Option.bind_eq_some_iff.mp h
  rcases fr_ite h2 with h3 | h3
  ·
    exact fr_e2 h3 (Fr.rf (S := S))
  ·
    obtain ⟨q5, e4, h5⟩ := Option.bind_eq_some_iff.mp h3
    rcases fr_ite h5 with h6 | h6
    ·
      exact fr_e2 h6 (Fr.rf (S := S))
    ·
      obtain ⟨q9, e7, h8⟩ := Option.bind_eq_some_iff.mp h6
      rcases fr_ite h8 with h9 | h9
      ·
        exact fr_e2 h9 (Fr.rf (S := S))
      ·
        obtain ⟨q13, e10, h11⟩ := Option.bind_eq_some_iff.mp h9
        rcases fr_ite h11 with h12 | h12
        ·
          exact fr_e2 h12 (Fr.rf (S := S))
        ·
          obtain ⟨a17, e13, h14⟩ := Option.bind_eq_some_iff.mp h12
          obtain ⟨q20, e15, h16⟩ := Option.bind_eq_some_iff.mp h14
          have f17 : Fr (w1_f_X10_plan) (w2_f_X10_plan) S q20 := (Fr.rf (S := S)).tr (Fr.mo (fr_f_X1_measure e15) (fun _ _ q => False.elim q) (fun a k q => by unfold w2_f_X1_measure at q; unfold w2_f_X10_plan; exact q))
          obtain ⟨q23, e18, h19⟩ := Option.bind_eq_some_iff.mp h16
          rcases fr_ite h19 with h20 | h20
          ·
            rcases fr_ite h20 with h21 | h21
            ·
              obtain ⟨q34, e22, h23⟩ := Option.bind_eq_some_iff.mp h21
              exact fr_e2 h23 f17
            ·
              obtain ⟨a28, e24, h25⟩ := Option.bind_eq_some_iff.mp h21
              obtain ⟨q31, e26, h27⟩ := Option.bind_eq_some_iff.mp h25
              exact fr_e2 h27 f17
          ·
            exact fr_e2 h20 f17
def w1_f_X3_keep (a k : Nat) : Prop := (a = 45 ∧ k = 5)
def w2_f_X3_keep (a k : Nat) : Prop := a = 46
theorem fr_f_X3_keep {v1 : Int32} {v2 : Int64} {S : fS} {r : Int32 × fS} (h : f_X3_keep v1 v2 S = some r) : Fr (w1_f_X3_keep) (w2_f_X3_keep) S r.2 := by
  unfold f_X3_keep at h
  rcases fr_ite h with h1 | h1
  ·
    rcases fr_ite h1 with h2 | h2
    ·
      obtain ⟨S3, e3, h4⟩ := Option.bind_eq_some_iff.mp h2
      have f5 : Fr (w1_f_X3_keep) (w2_f_X3_keep) S S3 := (Fr.rf (S := S)).tr (fr_sL e3 (fun k => by unfold w2_f_X3_keep; exact rfl))
      obtain ⟨S6, e6, h7⟩ := Option.bind_eq_some_iff.mp h4
      have f8 : Fr (w1_f_X3_keep) (w2_f_X3_keep) S S6 := f5.tr (fr_pI e6 (by unfold w1_f_X3_keep; exact ⟨rfl, rfl⟩))
      exact fr_e2 h7 f8
    ·
      exact fr_e2 h2 (Fr.rf (S := S))
  ·
    obtain ⟨a9, e9, h10⟩ := Option.bind_eq_some_iff.mp h1
    obtain ⟨q12, e11, h12⟩ := Option.bind_eq_some_iff.mp h10
    obtain ⟨q15, e13, h14⟩ := Option.bind_eq_some_iff.mp h12
    rcases fr_ite h14 with h15 | h15
    ·
      exact fr_e2 h15 (Fr.rf (S := S))
    ·
      rcases fr_ite h15 with h16 | h16
      ·
        obtain ⟨S20, e17, h18⟩ := Option.bind_eq_some_iff.mp h16
        have f19 : Fr (w1_f_X3_keep) (w2_f_X3_keep) S S20 := (Fr.rf (S := S)).tr (fr_sL e17 (fun k => by unfold w2_f_X3_keep; exact rfl))
        obtain ⟨S23, e20, h21⟩ := Option.bind_eq_some_iff.mp h18
        have f22 : Fr (w1_f_X3_keep) (w2_f_X3_keep) S S23 := f19.tr (fr_pI e20 (by unfold w1_f_X3_keep; exact ⟨rfl, rfl⟩))
        exact fr_e2 h21 f22
      ·
        exact fr_e2 h16 (Fr.rf (S := S))
def w1_f_X3_addSource (a k : Nat) : Prop := (a = 45 ∧ k = 6) ∨ a = 48 ∨ a = 49
def w2_f_X3_addSource (a k : Nat) : Prop := a = 50
theorem fr_f_X3_addSource {v1 : Int32} {v2 : Int64} {S : fS} {r : fS} (h : f_X3_addSource v1 v2 S = some r) : Fr (w1_f_X3_addSource) (w2_f_X3_addSource) S r := by
  unfold f_X3_addSource at h
  rcases fr_ite h with h1 | h1
  ·
    exact fr_e1 h1 (Fr.rf (S := S))
  ·
    obtain ⟨a2, e2, h3⟩ := Option.bind_eq_some_iff.mp h1
    obtain ⟨a5, e4, h5⟩ := Option.bind_eq_some_iff.mp h3
    rcases fr_ite h5 with h6 | h6
    ·
      exact fr_e1 h6 (Fr.rf (S := S))
    ·
      obtain ⟨a9, e7, h8⟩ := Option.bind_eq_some_iff.mp h6
      obtain ⟨S12, e9, h10⟩ := Option.bind_eq_some_iff.mp h8
      have f11 : Fr (w1_f_X3_addSource) (w2_f_X3_addSource) S S12 := (Fr.rf (S := S)).tr (fr_sI e9 (fun k => by unfold w1_f_X3_addSource; exact Or.inr (Or.inl (rfl))))
      obtain ⟨a15, e12, h13⟩ := Option.bind_eq_some_iff.mp h10
      obtain ⟨S18, e14, h15⟩ := Option.bind_eq_some_iff.mp h13
      have f16 : Fr (w1_f_X3_addSource) (w2_f_X3_addSource) S S18 := f11.tr (fr_sI e14 (fun k => by unfold w1_f_X3_addSource; exact Or.inr (Or.inr ((rfl)))))
      obtain ⟨S21, e17, h18⟩ := Option.bind_eq_some_iff.mp h15
      have f19 : Fr (w1_f_X3_addSource) (w2_f_X3_addSource) S S21 := f16.tr (fr_sL e17 (fun k => by unfold w2_f_X3_addSource; exact rfl))
      obtain ⟨S24, e20, h21⟩ := Option.bind_eq_some_iff.mp h18
      have f22 : Fr (w1_f_X3_addSource) (w2_f_X3_addSource) S S24 := f19.tr (fr_pI e20 (by unfold w1_f_X3_addSource; exact Or.inl (⟨rfl, rfl⟩)))
      exact fr_e1 h21 f22
def w1_lp_X3_gatherSources_37 (p1 : Nat) (a k : Nat) : Prop := (a = 45 ∧ k = 6) ∨ a = 48 ∨ a = 49
def w2_lp_X3_gatherSources_37 (p1 : Nat) (a k : Nat) : Prop := a = 50
theorem fr_lp_X3_gatherSources_37 {p1 : Nat} {p2 : Int32} {p3 : Int32} {K : fS → Option (fS)} {r : fS} {v1 v2 : Nat → Nat → Prop} (s1 : ∀ a k, w1_lp_X3_gatherSources_37 p1 a k → v1 a k) (s2 : ∀ a k, w2_lp_X3_gatherSources_37 p1 a k → v2 a k) (hK : ∀ (x0 : fS), K x0 = some r → Fr v1 v2 x0 r) : ∀ (n : Nat) (p4 : Int32) (S0 : fS), lp_X3_gatherSources_37 p1 p2 p3 K n p4 S0 = some r → Fr v1 v2 S0 r := by
  intro n
  induction n with
  | zero => intro p4 S0 h; exact mm_no h
  | succ n ih =>
    intro p4 S0 h
    rw [lp_X3_gatherSources_37.eq_2] at h
    rcases fr_ite h with h1 | h1
    ·
      exact (Fr.rf (S := S0)).tr (hK _ h1)
    ·
      obtain ⟨q6, e2, h3⟩ := Option.bind_eq_some_iff.mp h1
      obtain ⟨a9, e4, h5⟩ := Option.bind_eq_some_iff.mp h3
      rcases fr_ite h5 with h6 | h6
      ·
        exact (Fr.rf (S := S0)).tr (ih _ _ h6)
      ·
        rcases fr_ite h6 with h7 | h7
        ·
          exact (Fr.rf (S := S0)).tr (ih _ _ h7)
        ·
          obtain ⟨a14, e8, h9⟩ := Option.bind_eq_some_iff.mp h7
          obtain ⟨q17, e10, h11⟩ := Option.bind_eq_some_iff.mp h9
          obtain ⟨q20, e12, h13⟩ := Option.bind_eq_some_iff.mp h11
          have f14 : Fr v1 v2 S0 q20 := (Fr.rf (S := S0)).tr (Fr.mo (fr_f_X3_addSource e12) (fun a k q => by refine s1 _ _ ?_; unfold w1_f_X3_addSource at q; unfold w1_lp_X3_gatherSources_37; rcases q with q | q | q; exact Or.inl (q); exact Or.inr (Or.inl (q)); exact Or.inr (Or.inr ((q)))) (fun a k q => by refine s2 _ _ ?_; unfold w2_f_X3_addSource at q; unfold w2_lp_X3_gatherSources_37; exact q))
          exact f14.tr (ih _ _ h13)
def w1_f_X3_gatherSources (v1 : Nat) (a k : Nat) : Prop := (a = 45 ∧ k = 6) ∨ a = 48 ∨ a = 49
def w2_f_X3_gatherSources (v1 : Nat) (a k : Nat) : Prop := a = 50
theorem fr_f_X3_gatherSources {v1 : Nat} {v2 : Int32} {v3 : Int32} {S : fS} {r : fS} (h : f_X3_gatherSources v1 v2 v3 S = some r) : Fr (w1_f_X3_gatherSources v1) (w2_f_X3_gatherSources v1) S r := by
  unfold f_X3_gatherSources at h
  obtain ⟨S1, e1, h2⟩ := Option.bind_eq_some_iff.mp h
  have f3 : Fr (w1_f_X3_gatherSources v1) (w2_f_X3_gatherSources v1) S S1 := (Fr.rf (S := S)).tr (fr_pI e1 (by unfold w1_f_X3_gatherSources; exact Or.inl (⟨rfl, rfl⟩)))
  rcases fr_ite h2 with h4 | h4
  ·
    refine f3.tr (fr_lp_X3_gatherSources_37 (v1 := w1_f_X3_gatherSources v1) (v2 := w2_f_X3_gatherSources v1) (fun a k q => by unfold w1_lp_X3_gatherSources_37 at q; unfold w1_f_X3_gatherSources; rcases q with q | q | q; exact Or.inl (q); exact Or.inr (Or.inl (q)); exact Or.inr (Or.inr ((q)))) (fun a k q => by unfold w2_lp_X3_gatherSources_37 at q; unfold w2_f_X3_gatherSources; exact q) (fun S23 h5 => ?_) _ _ _ h4)
    exact fr_e1 h5 (Fr.rf (S := S23))
  ·
    obtain ⟨a25, e6, h7⟩ := Option.bind_eq_some_iff.mp h4
    obtain ⟨q28, e8, h9⟩ := Option.bind_eq_some_iff.mp h7
    obtain ⟨q31, e10, h11⟩ := Option.bind_eq_some_iff.mp h9
    have f12 : Fr (w1_f_X3_gatherSources v1) (w2_f_X3_gatherSources v1) S q31 := f3.tr (Fr.mo (fr_f_X3_addSource e10) (fun a k q => by unfold w1_f_X3_addSource at q; unfold w1_f_X3_gatherSources; rcases q with q | q | q; exact Or.inl (q); exact Or.inr (Or.inl (q)); exact Or.inr (Or.inr ((q)))) (fun a k q => by unfold w2_f_X3_addSource at q; unfold w2_f_X3_gatherSources; exact q))
    refine f12.tr (fr_lp_X3_gatherSources_37 (v1 := w1_f_X3_gatherSources v1) (v2 := w2_f_X3_gatherSources v1) (fun a k q => by unfold w1_lp_X3_gatherSources_37 at q; unfold w1_f_X3_gatherSources; rcases q with q | q | q; exact Or.inl (q); exact Or.inr (Or.inl (q)); exact Or.inr (Or.inr ((q)))) (fun a k q => by unfold w2_lp_X3_gatherSources_37 at q; unfold w2_f_X3_gatherSources; exact q) (fun S34 h13 => ?_) _ _ _ h11)
    exact fr_e1 h13 (Fr.rf (S := S34))
def w1_lp_X3_merge_2 (a k : Nat) : Prop := (a = 45 ∧ k = 5) ∨ a = 48
def w2_lp_X3_merge_2 (a k : Nat) : Prop := a = 46
theorem fr_lp_X3_merge_2 {p1 : Int32} {K : fS → Option (Int32 × fS)} {r : Int32 × fS} {v1 v2 : Nat → Nat → Prop} (s1 : ∀ a k, w1_lp_X3_merge_2 a k → v1 a k) (s2 : ∀ a k, w2_lp_X3_merge_2 a k → v2 a k) (hK : ∀ (x0 : fS), K x0 = some r → Fr v1 v2 x0 r.2) : ∀ (n : Nat) (p2 : Int32) (S0 : fS), lp_X3_merge_2 p1 K n p2 S0 = some r → Fr v1 v2 S0 r.2 := by
  intro n
  induction n with
  | zero => intro p2 S0 h; exact mm_no h
  | succ n ih =>
    intro p2 S0 h
    rw [lp_X3_merge_2.eq_2] at h
    rcases fr_ite h with h1 | h1
    ·
      exact (Fr.rf (S := S0)).tr (hK _ h1)
    ·
      obtain ⟨q2, e2, h3⟩ := Option.bind_eq_some_iff.mp h1
      rcases fr_ite h3 with h4 | h4
      ·
        obtain ⟨a6, e5, h6⟩ := Option.bind_eq_some_iff.mp h4
        obtain ⟨a9, e7, h8⟩ := Option.bind_eq_some_iff.mp h6
        obtain ⟨S12, e9, h10⟩ := Option.bind_eq_some_iff.mp h8
        have f11 : Fr v1 v2 S0 S12 := (Fr.rf (S := S0)).tr (fr_sI e9 (fun k => by refine s1 _ _ ?_; unfold w1_lp_X3_merge_2; exact Or.inr ((rfl))))
        obtain ⟨a15, e12, h13⟩ := Option.bind_eq_some_iff.mp h10
        obtain ⟨a18, e14, h15⟩ := Option.bind_eq_some_iff.mp h13
        obtain ⟨q21, e16, h17⟩ := Option.bind_eq_some_iff.mp h15
        have f18 : Fr v1 v2 S0 q21.2 := f11.tr (Fr.mo (fr_f_X3_keep e16) (fun a k q => by refine s1 _ _ ?_; unfold w1_f_X3_keep at q; unfold w1_lp_X3_merge_2; exact Or.inl (q)) (fun a k q => by refine s2 _ _ ?_; unfold w2_f_X3_keep at q; unfold w2_lp_X3_merge_2; exact q))
        rcases fr_ite h17 with h19 | h19
        ·
          exact fr_e2 h19 f18
        ·
          exact f18.tr (ih _ _ h19)
      ·
        exact fr_e2 h4 (Fr.rf (S := S0))
def w1_f_X3_merge (a k : Nat) : Prop := (a = 45 ∧ k = 5) ∨ a = 48
def w2_f_X3_merge (a k : Nat) : Prop := a = 46
theorem fr_f_X3_merge {v1 : Int32} {S : fS} {r : Int32 × fS} (h : f_X3_merge v1 S = some r) : Fr (w1_f_X3_merge) (w2_f_X3_merge) S r.2 := by
  unfold f_X3_merge at h
  refine (Fr.rf (S := S)).tr (fr_lp_X3_merge_2 (v1 := w1_f_X3_merge) (v2 := w2_f_X3_merge) (fun a k q => by unfold w1_lp_X3_merge_2 at q; unfold w1_f_X3_merge; rcases q with q | q; exact Or.inl (q); exact Or.inr ((q))) (fun a k q => by unfold w2_lp_X3_merge_2 at q; unfold w2_f_X3_merge; exact q) (fun S25 h1 => ?_) _ _ _ h)
  exact fr_e2 h1 (Fr.rf (S := S25))
def w1_lp_X3_spread_24 (p1 : Nat) (a k : Nat) : Prop := (a = 45 ∧ k = 5) ∨ (a = 45 ∧ k = 6) ∨ a = 47 ∨ a = 48 ∨ a = 49
def w2_lp_X3_spread_24 (p1 : Nat) (a k : Nat) : Prop := a = 46 ∨ a = 50
theorem fr_lp_X3_spread_24 {p1 : Nat} {p2 : Int32} {p3 : Int32} {p4 : Int32} {K : fS → Option (Int32 × fS)} {r : Int32 × fS} {v1 v2 : Nat → Nat → Prop} (s1 : ∀ a k, w1_lp_X3_spread_24 p1 a k → v1 a k) (s2 : ∀ a k, w2_lp_X3_spread_24 p1 a k → v2 a k) (hK : ∀ (x0 : fS), K x0 = some r → Fr v1 v2 x0 r.2) : ∀ (n : Nat) (p5 : Int32) (S0 : fS), lp_X3_spread_24 p1 p2 p3 p4 K n p5 S0 = some r → Fr v1 v2 S0 r.2 := by
  intro n
  induction n with
  | zero => intro p5 S0 h; exact mm_no h
  | succ n ih =>
    intro p5 S0 h
    rw [lp_X3_spread_24.eq_2] at h
    rcases fr_ite h with h1 | h1
    ·
      exact (Fr.rf (S := S0)).tr (hK _ h1)
    ·
      obtain ⟨S7, e2, h3⟩ := Option.bind_eq_some_iff.mp h1
      have f4 : Fr v1 v2 S0 S7 := (Fr.rf (S := S0)).tr (fr_sI e2 (fun k => by refine s1 _ _ ?_; unfold w1_lp_X3_spread_24; exact Or.inr (Or.inr (Or.inl (rfl)))))
      rcases fr_ite h3 with h5 | h5
      ·
        obtain ⟨q11, e6, h7⟩ := Option.bind_eq_some_iff.mp h5
        have f8 : Fr v1 v2 S0 q11 := f4.tr (Fr.mo (fr_f_X3_gatherSources e6) (fun a k q => by refine s1 _ _ ?_; unfold w1_f_X3_gatherSources at q; unfold w1_lp_X3_spread_24; rcases q with q | q | q; exact Or.inr (Or.inl (q)); exact Or.inr (Or.inr (Or.inr (Or.inl (q)))); exact Or.inr (Or.inr (Or.inr (Or.inr ((q)))))) (fun a k q => by refine s2 _ _ ?_; unfold w2_f_X3_gatherSources at q; unfold w2_lp_X3_spread_24; exact Or.inr ((q))))
        rcases fr_ite h7 with h9 | h9
        ·
          exact fr_e2 h9 f8
        ·
          obtain ⟨q15, e10, h11⟩ := Option.bind_eq_some_iff.mp h9
          have f12 : Fr v1 v2 S0 q15.2 := f8.tr (Fr.mo (fr_f_X3_merge e10) (fun a k q => by refine s1 _ _ ?_; unfold w1_f_X3_merge at q; unfold w1_lp_X3_spread_24; rcases q with q | q; exact Or.inl (q); exact Or.inr (Or.inr (Or.inr (Or.inl (q))))) (fun a k q => by refine s2 _ _ ?_; unfold w2_f_X3_merge at q; unfold w2_lp_X3_spread_24; exact Or.inl (q)))
          rcases fr_ite h11 with h13 | h13
          ·
            exact fr_e2 h13 f12
          ·
            obtain ⟨S19, e14, h15⟩ := Option.bind_eq_some_iff.mp h13
            have f16 : Fr v1 v2 S0 S19 := f12.tr (fr_sI e14 (fun k => by refine s1 _ _ ?_; unfold w1_lp_X3_spread_24; exact Or.inr (Or.inr (Or.inl (rfl)))))
            exact f16.tr (ih _ _ h15)
      ·
        rcases fr_ite h5 with h17 | h17
        ·
          obtain ⟨q34, e18, h19⟩ := Option.bind_eq_some_iff.mp h17
          obtain ⟨q37, e20, h21⟩ := Option.bind_eq_some_iff.mp h19
          have f22 : Fr v1 v2 S0 q37.2 := f4.tr (Fr.mo (fr_f_X3_keep e20) (fun a k q => by refine s1 _ _ ?_; unfold w1_f_X3_keep at q; unfold w1_lp_X3_spread_24; exact Or.inl (q)) (fun a k q => by refine s2 _ _ ?_; unfold w2_f_X3_keep at q; unfold w2_lp_X3_spread_24; exact Or.inl (q)))
          rcases fr_ite h21 with h23 | h23
          ·
            obtain ⟨q41, e24, h25⟩ := Option.bind_eq_some_iff.mp h23
            have f26 : Fr v1 v2 S0 q41 := f22.tr (Fr.mo (fr_f_X3_gatherSources e24) (fun a k q => by refine s1 _ _ ?_; unfold w1_f_X3_gatherSources at q; unfold w1_lp_X3_spread_24; rcases q with q | q | q; exact Or.inr (Or.inl (q)); exact Or.inr (Or.inr (Or.inr (Or.inl (q)))); exact Or.inr (Or.inr (Or.inr (Or.inr ((q)))))) (fun a k q => by refine s2 _ _ ?_; unfold w2_f_X3_gatherSources at q; unfold w2_lp_X3_spread_24; exact Or.inr ((q))))
            rcases fr_ite h25 with h27 | h27
            ·
              exact fr_e2 h27 f26
            ·
              obtain ⟨q45, e28, h29⟩ := Option.bind_eq_some_iff.mp h27
              have f30 : Fr v1 v2 S0 q45.2 := f26.tr (Fr.mo (fr_f_X3_merge e28) (fun a k q => by refine s1 _ _ ?_; unfold w1_f_X3_merge at q; unfold w1_lp_X3_spread_24; rcases q with q | q; exact Or.inl (q); exact Or.inr (Or.inr (Or.inr (Or.inl (q))))) (fun a k q => by refine s2 _ _ ?_; unfold w2_f_X3_merge at q; unfold w2_lp_X3_spread_24; exact Or.inl (q)))
              rcases fr_ite h29 with h31 | h31
              ·
                exact fr_e2 h31 f30
              ·
                obtain ⟨S49, e32, h33⟩ := Option.bind_eq_some_iff.mp h31
                have f34 : Fr v1 v2 S0 S49 := f30.tr (fr_sI e32 (fun k => by refine s1 _ _ ?_; unfold w1_lp_X3_spread_24; exact Or.inr (Or.inr (Or.inl (rfl)))))
                exact f34.tr (ih _ _ h33)
          ·
            obtain ⟨q52, e35, h36⟩ := Option.bind_eq_some_iff.mp h23
            have f37 : Fr v1 v2 S0 q52 := f22.tr (Fr.mo (fr_f_X3_gatherSources e35) (fun a k q => by refine s1 _ _ ?_; unfold w1_f_X3_gatherSources at q; unfold w1_lp_X3_spread_24; rcases q with q | q | q; exact Or.inr (Or.inl (q)); exact Or.inr (Or.inr (Or.inr (Or.inl (q)))); exact Or.inr (Or.inr (Or.inr (Or.inr ((q)))))) (fun a k q => by refine s2 _ _ ?_; unfold w2_f_X3_gatherSources at q; unfold w2_lp_X3_spread_24; exact Or.inr ((q))))
            rcases fr_ite h36 with h38 | h38
            ·
              exact fr_e2 h38 f37
            ·
              obtain ⟨q56, e39, h40⟩ := Option.bind_eq_some_iff.mp h38
              have f41 : Fr v1 v2 S0 q56.2 := f37.tr (Fr.mo (fr_f_X3_merge e39) (fun a k q => by refine s1 _ _ ?_; unfold w1_f_X3_merge at q; unfold w1_lp_X3_spread_24; rcases q with q | q; exact Or.inl (q); exact Or.inr (Or.inr (Or.inr (Or.inl (q))))) (fun a k q => by refine s2 _ _ ?_; unfold w2_f_X3_merge at q; unfold w2_lp_X3_spread_24; exact Or.inl (q)))
              rcases fr_ite h40 with h42 | h42
              ·
                exact fr_e2 h42 f41
              ·
                obtain ⟨S60, e43, h44⟩ := Option.bind_eq_some_iff.mp h42
                have f45 : Fr v1 v2 S0 S60 := f41.tr (fr_sI e43 (fun k => by refine s1 _ _ ?_; unfold w1_lp_X3_spread_24; exact Or.inr (Or.inr (Or.inl (rfl)))))
                exact f45.tr (ih _ _ h44)
        ·
          obtain ⟨q23, e46, h47⟩ := Option.bind_eq_some_iff.mp h17
          have f48 : Fr v1 v2 S0 q23 := f4.tr (Fr.mo (fr_f_X3_gatherSources e46) (fun a k q => by refine s1 _ _ ?_; unfold w1_f_X3_gatherSources at q; unfold w1_lp_X3_spread_24; rcases q with q | q | q; exact Or.inr (Or.inl (q)); exact Or.inr (Or.inr (Or.inr (Or.inl (q)))); exact Or.inr (Or.inr (Or.inr (Or.inr ((q)))))) (fun a k q => by refine s2 _ _ ?_; unfold w2_f_X3_gatherSources at q; unfold w2_lp_X3_spread_24; exact Or.inr ((q))))
          rcases fr_ite h47 with h49 | h49
          ·
            exact fr_e2 h49 f48
          ·
            obtain ⟨q27, e50, h51⟩ := Option.bind_eq_some_iff.mp h49
            have f52 : Fr v1 v2 S0 q27.2 := f48.tr (Fr.mo (fr_f_X3_merge e50) (fun a k q => by refine s1 _ _ ?_; unfold w1_f_X3_merge at q; unfold w1_lp_X3_spread_24; rcases q with q | q; exact Or.inl (q); exact Or.inr (Or.inr (Or.inr (Or.inl (q))))) (fun a k q => by refine s2 _ _ ?_; unfold w2_f_X3_merge at q; unfold w2_lp_X3_spread_24; exact Or.inl (q)))
            rcases fr_ite h51 with h53 | h53
            ·
              exact fr_e2 h53 f52
            ·
              obtain ⟨S31, e54, h55⟩ := Option.bind_eq_some_iff.mp h53
              have f56 : Fr v1 v2 S0 S31 := f52.tr (fr_sI e54 (fun k => by refine s1 _ _ ?_; unfold w1_lp_X3_spread_24; exact Or.inr (Or.inr (Or.inl (rfl)))))
              exact f56.tr (ih _ _ h55)
def w1_lp_X3_spread_8 (p1 : Nat) (a k : Nat) : Prop := (a = 45 ∧ k = 5) ∨ (a = 45 ∧ k = 6) ∨ a = 47 ∨ a = 48 ∨ a = 49
def w2_lp_X3_spread_8 (p1 : Nat) (a k : Nat) : Prop := a = 46 ∨ a = 50
theorem fr_lp_X3_spread_8 {p1 : Nat} {p2 : Int32} {p3 : Int32} {K : fS → Option (Int32 × fS)} {r : Int32 × fS} {v1 v2 : Nat → Nat → Prop} (s1 : ∀ a k, w1_lp_X3_spread_8 p1 a k → v1 a k) (s2 : ∀ a k, w2_lp_X3_spread_8 p1 a k → v2 a k) (hK : ∀ (x0 : fS), K x0 = some r → Fr v1 v2 x0 r.2) : ∀ (n : Nat) (p4 : Int32) (S0 : fS), lp_X3_spread_8 p1 p2 p3 K n p4 S0 = some r → Fr v1 v2 S0 r.2 := by
  intro n
  induction n with
  | zero => intro p4 S0 h; exact mm_no h
  | succ n ih =>
    intro p4 S0 h
    rw [lp_X3_spread_8.eq_2] at h
    rcases fr_ite h with h1 | h1
    ·
      exact (Fr.rf (S := S0)).tr (hK _ h1)
    ·
      rcases fr_ite h1 with h2 | h2
      ·
        exact (Fr.rf (S := S0)).tr (hK _ h2)
      ·
        refine (Fr.rf (S := S0)).tr (fr_lp_X3_spread_24 (v1 := v1) (v2 := v2) (fun a k q => by refine s1 _ _ ?_; unfold w1_lp_X3_spread_24 at q; unfold w1_lp_X3_spread_8; rcases q with q | q | q | q | q; exact Or.inl (q); exact Or.inr (Or.inl (q)); exact Or.inr (Or.inr (Or.inl (q))); exact Or.inr (Or.inr (Or.inr (Or.inl (q)))); exact Or.inr (Or.inr (Or.inr (Or.inr ((q)))))) (fun a k q => by refine s2 _ _ ?_; unfold w2_lp_X3_spread_24 at q; unfold w2_lp_X3_spread_8; rcases q with q | q; exact Or.inl (q); exact Or.inr ((q))) (fun S63 h3 => ?_) _ _ _ h2)
        exact (Fr.rf (S := S63)).tr (ih _ _ h3)
def w1_f_X3_spread (v1 : Nat) (a k : Nat) : Prop := (a = 45 ∧ k = 5) ∨ (a = 45 ∧ k = 6) ∨ a = 47 ∨ a = 48 ∨ a = 49
def w2_f_X3_spread (v1 : Nat) (a k : Nat) : Prop := a = 46 ∨ a = 50
theorem fr_f_X3_spread {v1 : Nat} {v2 : Int32} {v3 : Int32} {S : fS} {r : Int32 × fS} (h : f_X3_spread v1 v2 v3 S = some r) : Fr (w1_f_X3_spread v1) (w2_f_X3_spread v1) S r.2 := by
  unfold f_X3_spread at h
  obtain ⟨S1, e1, h2⟩ := Option.bind_eq_some_iff.mp h
  have f3 : Fr (w1_f_X3_spread v1) (w2_f_X3_spread v1) S S1 := (Fr.rf (S := S)).tr (fr_pI e1 (by unfold w1_f_X3_spread; exact Or.inl (⟨rfl, rfl⟩)))
  refine f3.tr (fr_lp_X3_spread_8 (v1 := w1_f_X3_spread v1) (v2 := w2_f_X3_spread v1) (fun a k q => by unfold w1_lp_X3_spread_8 at q; unfold w1_f_X3_spread; rcases q with q | q | q | q | q; exact Or.inl (q); exact Or.inr (Or.inl (q)); exact Or.inr (Or.inr (Or.inl (q))); exact Or.inr (Or.inr (Or.inr (Or.inl (q)))); exact Or.inr (Or.inr (Or.inr (Or.inr ((q)))))) (fun a k q => by unfold w2_lp_X3_spread_8 at q; unfold w2_f_X3_spread; rcases q with q | q; exact Or.inl (q); exact Or.inr ((q))) (fun S65 h4 => ?_) _ _ _ h2)
  exact fr_e2 h4 (Fr.rf (S := S65))
def w1_f_X10_ripe (a k : Nat) : Prop := (a = 45 ∧ k = 5) ∨ (a = 45 ∧ k = 6) ∨ a = 47 ∨ a = 48 ∨ a = 49
def w2_f_X10_ripe (a k : Nat) : Prop := a = 46 ∨ a = 50
theorem fr_f_X10_ripe {v1 : Int32} {v2 : Int32} {v3 : Int32} {v4 : Int32} {v5 : Int32} {S : fS} {r : Int32 × fS} (h : f_X10_ripe v1 v2 v3 v4 v5 S = some r) : Fr (w1_f_X10_ripe) (w2_f_X10_ripe) S r.2 := by
  unfold f_X10_ripe at h
  obtain ⟨q1, e1, h2⟩ := Option.bind_eq_some_iff.mp h
  rcases fr_ite h2 with h3 | h3
  ·
    exact fr_e2 h3 (Fr.rf (S := S))
  ·
    obtain ⟨q5, e4, h5⟩ := Option.bind_eq_some_iff.mp h3
    rcases fr_ite h5 with h6 | h6
    ·
      exact fr_e2 h6 (Fr.rf (S := S))
    ·
      obtain ⟨q9, e7, h8⟩ := Option.bind_eq_some_iff.mp h6
      rcases fr_ite h8 with h9 | h9
      ·
        exact fr_e2 h9 (Fr.rf (S := S))
      ·
        obtain ⟨q13, e10, h11⟩ := Option.bind_eq_some_iff.mp h9
        rcases fr_ite h11 with h12 | h12
        ·
          exact fr_e2 h12 (Fr.rf (S := S))
        ·
          obtain ⟨q17, e13, h14⟩ := Option.bind_eq_some_iff.mp h12
          rcases fr_ite h14 with h15 | h15
          ·
            exact fr_e2 h15 (Fr.rf (S := S))
          ·
            obtain ⟨q21, e16, h17⟩ := Option.bind_eq_some_iff.mp h15
            have f18 : Fr (w1_f_X10_ripe) (w2_f_X10_ripe) S q21.2 := (Fr.rf (S := S)).tr (Fr.mo (fr_f_X3_spread e16) (fun a k q => by unfold w1_f_X3_spread at q; unfold w1_f_X10_ripe; rcases q with q | q | q | q | q; exact Or.inl (q); exact Or.inr (Or.inl (q)); exact Or.inr (Or.inr (Or.inl (q))); exact Or.inr (Or.inr (Or.inr (Or.inl (q)))); exact Or.inr (Or.inr (Or.inr (Or.inr ((q)))))) (fun a k q => by unfold w2_f_X3_spread at q; unfold w2_f_X10_ripe; rcases q with q | q; exact Or.inl (q); exact Or.inr ((q))))
            rcases fr_ite h17 with h19 | h19
            ·
              exact fr_e2 h19 f18
            ·
              obtain ⟨q25, e20, h21⟩ := Option.bind_eq_some_iff.mp h19
              exact fr_e2 h21 f18
def w1_f_X10_waiting (a k : Nat) : Prop := False
def w2_f_X10_waiting (a k : Nat) : Prop := a = 44
theorem fr_f_X10_waiting {v1 : Int32} {v2 : Int32} {v3 : Int32} {S : fS} {r : Int32 × fS} (h : f_X10_waiting v1 v2 v3 S = some r) : Fr (w1_f_X10_waiting) (w2_f_X10_waiting) S r.2 := by
  unfold f_X10_waiting at h
  obtain ⟨q1, e1, h2⟩ := Option.bind_eq_some_iff.mp h
  rcases fr_ite h2 with h3 | h3
  ·
    exact fr_e2 h3 (Fr.rf (S := S))
  ·
    obtain ⟨q5, e4, h5⟩ := Option.bind_eq_some_iff.mp h3
    rcases fr_ite h5 with h6 | h6
    ·
      exact fr_e2 h6 (Fr.rf (S := S))
    ·
      obtain ⟨a9, e7, h8⟩ := Option.bind_eq_some_iff.mp h6
      obtain ⟨q12, e9, h10⟩ := Option.bind_eq_some_iff.mp h8
      have f11 : Fr (w1_f_X10_waiting) (w2_f_X10_waiting) S q12 := (Fr.rf (S := S)).tr (Fr.mo (fr_f_X1_measure e9) (fun _ _ q => False.elim q) (fun a k q => by unfold w2_f_X1_measure at q; unfold w2_f_X10_waiting; exact q))
      obtain ⟨q15, e12, h13⟩ := Option.bind_eq_some_iff.mp h10
      exact fr_e2 h13 f11
def w1_f_X10_elder (a k : Nat) : Prop := (a = 31 ∧ k = 5) ∨ (a = 31 ∧ k = 6) ∨ a = 32 ∨ a = 33 ∨ a = 34 ∨ a = 35 ∨ (127 ≤ a ∧ a ≤ 144)
def w2_f_X10_elder (a k : Nat) : Prop := a = 36 ∨ (127 ≤ a ∧ a ≤ 144)
theorem fr_f_X10_elder {v1 : Int32} {v2 : Int32} {v3 : Int32} {S : fS} {r : Int64 × fS} (h : f_X10_elder v1 v2 v3 S = some r) : Fr (w1_f_X10_elder) (w2_f_X10_elder) S r.2 := by
  unfold f_X10_elder at h
  obtain ⟨q1, e1, h2⟩ := Option.bind_eq_some_iff.mp h
  rcases fr_ite h2 with h3 | h3
  ·
    exact fr_e2 h3 (Fr.rf (S := S))
  ·
    obtain ⟨q5, e4, h5⟩ := Option.bind_eq_some_iff.mp h3
    rcases fr_ite h5 with h6 | h6
    ·
      exact fr_e2 h6 (Fr.rf (S := S))
    ·
      rcases fr_ite h6 with h7 | h7
      ·
        exact fr_e2 h7 (Fr.rf (S := S))
      ·
        obtain ⟨q10, e8, h9⟩ := Option.bind_eq_some_iff.mp h7
        rcases fr_ite h9 with h10 | h10
        ·
          exact fr_e2 h10 (Fr.rf (S := S))
        ·
          obtain ⟨q14, e11, h12⟩ := Option.bind_eq_some_iff.mp h10
          have f13 : Fr (w1_f_X10_elder) (w2_f_X10_elder) S q14 := (Fr.rf (S := S)).tr (Fr.mo (fr_f_X10_lookAhead e11) (fun a k q => by unfold w1_f_X10_lookAhead at q; unfold w1_f_X10_elder; rcases q with q | q | q | q | q | q | q; exact Or.inl (q); exact Or.inr (Or.inl (q)); exact Or.inr (Or.inr (Or.inl (q))); exact Or.inr (Or.inr (Or.inr (Or.inl (q)))); exact Or.inr (Or.inr (Or.inr (Or.inr (Or.inl (q))))); exact Or.inr (Or.inr (Or.inr (Or.inr (Or.inr (Or.inl (q)))))); exact Or.inr (Or.inr (Or.inr (Or.inr (Or.inr (Or.inr ((q)))))))) (fun a k q => by unfold w2_f_X10_lookAhead at q; unfold w2_f_X10_elder; rcases q with q | q; exact Or.inl (q); exact Or.inr ((q))))
          obtain ⟨q17, e14, h15⟩ := Option.bind_eq_some_iff.mp h12
          obtain ⟨q20, e16, h17⟩ := Option.bind_eq_some_iff.mp h15
          rcases fr_ite h17 with h18 | h18
          ·
            obtain ⟨a24, e19, h20⟩ := Option.bind_eq_some_iff.mp h18
            obtain ⟨a27, e21, h22⟩ := Option.bind_eq_some_iff.mp h20
            obtain ⟨q30, e23, h24⟩ := Option.bind_eq_some_iff.mp h22
            exact fr_e2 h24 f13
          ·
            rcases fr_ite h18 with h25 | h25
            ·
              exact fr_e2 h25 f13
            ·
              exact fr_e2 h25 f13
def w1_f_X2_send (v0 : Nat) (a k : Nat) : Prop := (a = v0 ∧ k = 4) ∨ a = v0 + 1 ∨ a = v0 + 2 ∨ a = v0 + 3 ∨ a = v0 + 4
def w2_f_X2_send (v0 : Nat) (a k : Nat) : Prop := False
theorem fr_f_X2_send {v0 : Nat} {v1 : Int32} {v2 : Int32} {v3 : Int32} {v4 : Int32} {S : fS} {r : fS} (h : f_X2_send v0 v1 v2 v3 v4 S = some r) : Fr (w1_f_X2_send v0) (w2_f_X2_send v0) S r := by
  unfold f_X2_send at h
  rcases fr_ite h with h1 | h1
  ·
    exact fr_e1 h1 (Fr.rf (S := S))
  ·
    obtain ⟨S2, e2, h3⟩ := Option.bind_eq_some_iff.mp h1
    have f4 : Fr (w1_f_X2_send v0) (w2_f_X2_send v0) S S2 := (Fr.rf (S := S)).tr (fr_sI e2 (fun k => by unfold w1_f_X2_send; exact Or.inr (Or.inl (rfl))))
    obtain ⟨S5, e5, h6⟩ := Option.bind_eq_some_iff.mp h3
    have f7 : Fr (w1_f_X2_send v0) (w2_f_X2_send v0) S S5 := f4.tr (fr_sI e5 (fun k => by unfold w1_f_X2_send; exact Or.inr (Or.inr (Or.inl (rfl)))))
    obtain ⟨S8, e8, h9⟩ := Option.bind_eq_some_iff.mp h6
    have f10 : Fr (w1_f_X2_send v0) (w2_f_X2_send v0) S S8 := f7.tr (fr_sI e8 (fun k => by unfold w1_f_X2_send; exact Or.inr (Or.inr (Or.inr (Or.inl (rfl))))))
    obtain ⟨S11, e11, h12⟩ := Option.bind_eq_some_iff.mp h9
    have f13 : Fr (w1_f_X2_send v0) (w2_f_X2_send v0) S S11 := f10.tr (fr_sI e11 (fun k => by unfold w1_f_X2_send; exact Or.inr (Or.inr (Or.inr (Or.inr ((rfl)))))))
    obtain ⟨S14, e14, h15⟩ := Option.bind_eq_some_iff.mp h12
    have f16 : Fr (w1_f_X2_send v0) (w2_f_X2_send v0) S S14 := f13.tr (fr_pI e14 (by unfold w1_f_X2_send; exact Or.inl (⟨rfl, rfl⟩)))
    exact fr_e1 h15 f16
def w1_f_X10_letter (a k : Nat) : Prop := (a = 17 ∧ k = 4) ∨ a = 18 ∨ a = 19 ∨ a = 20 ∨ a = 21
def w2_f_X10_letter (a k : Nat) : Prop := False
theorem fr_f_X10_letter {v1 : Int32} {v2 : Int32} {v3 : Int32} {S : fS} {r : Int32 × fS} (h : f_X10_letter v1 v2 v3 S = some r) : Fr (w1_f_X10_letter) (w2_f_X10_letter) S r.2 := by
  unfold f_X10_letter at h
  rcases fr_ite h with h1 | h1
  ·
    obtain ⟨S22, e2, h3⟩ := Option.bind_eq_some_iff.mp h1
    have f4 : Fr (w1_f_X10_letter) (w2_f_X10_letter) S S22 := (Fr.rf (S := S)).tr (fr_pI e2 (by unfold w1_f_X10_letter; exact Or.inl (⟨rfl, rfl⟩)))
    exact fr_e2 h3 f4
  ·
    obtain ⟨q2, e5, h6⟩ := Option.bind_eq_some_iff.mp h1
    rcases fr_ite h6 with h7 | h7
    ·
      exact fr_e2 h7 (Fr.rf (S := S))
    ·
      obtain ⟨q6, e8, h9⟩ := Option.bind_eq_some_iff.mp h7
      rcases fr_ite h9 with h10 | h10
      ·
        exact fr_e2 h10 (Fr.rf (S := S))
      ·
        obtain ⟨q10, e11, h12⟩ := Option.bind_eq_some_iff.mp h10
        rcases fr_ite h12 with h13 | h13
        ·
          exact fr_e2 h13 (Fr.rf (S := S))
        ·
          rcases fr_ite h13 with h14 | h14
          ·
            obtain ⟨q15, e15, h16⟩ := Option.bind_eq_some_iff.mp h14
            rcases fr_ite h16 with h17 | h17
            ·
              obtain ⟨q19, e18, h19⟩ := Option.bind_eq_some_iff.mp h17
              have f20 : Fr (w1_f_X10_letter) (w2_f_X10_letter) S q19 := (Fr.rf (S := S)).tr (Fr.mo (fr_f_X2_send e18) (fun a k q => by unfold w1_f_X2_send at q; unfold w1_f_X10_letter; rcases q with q | q | q | q | q; exact Or.inl (q); exact Or.inr (Or.inl (q)); exact Or.inr (Or.inr (Or.inl (q))); exact Or.inr (Or.inr (Or.inr (Or.inl (q)))); exact Or.inr (Or.inr (Or.inr (Or.inr ((q)))))) (fun _ _ q => False.elim q))
              exact fr_e2 h19 f20
            ·
              exact fr_e2 h17 (Fr.rf (S := S))
          ·
            exact fr_e2 h14 (Fr.rf (S := S))
def w1_f_X10_seed (a k : Nat) : Prop := (a = 3 ∧ k = 3)
def w2_f_X10_seed (a k : Nat) : Prop := False
theorem fr_f_X10_seed {v1 : Int32} {S : fS} {r : Int32 × fS} (h : f_X10_seed v1 S = some r) : Fr (w1_f_X10_seed) (w2_f_X10_seed) S r.2 := by
  unfold f_X10_seed at h
  rcases fr_ite h with h1 | h1
  ·
    obtain ⟨S2, e2, h3⟩ := Option.bind_eq_some_iff.mp h1
    have f4 : Fr (w1_f_X10_seed) (w2_f_X10_seed) S S2 := (Fr.rf (S := S)).tr (fr_pI e2 (by unfold w1_f_X10_seed; exact ⟨rfl, rfl⟩))
    exact fr_e2 h3 f4
  ·
    exact fr_e2 h1 (Fr.rf (S := S))
def w1_f_X6_draw (v0 : Nat) (a k : Nat) : Prop := (a = v0 ∧ k = 3)
def w2_f_X6_draw (v0 : Nat) (a k : Nat) : Prop := False
theorem fr_f_X6_draw {v0 : Nat} {S : fS} {r : Int32 × fS} (h : f_X6_draw v0 S = some r) : Fr (w1_f_X6_draw v0) (w2_f_X6_draw v0) S r.2 := by
  unfold f_X6_draw at h
  obtain ⟨S1, e1, h2⟩ := Option.bind_eq_some_iff.mp h
  have f3 : Fr (w1_f_X6_draw v0) (w2_f_X6_draw v0) S S1 := (Fr.rf (S := S)).tr (fr_pI e1 (by unfold w1_f_X6_draw; exact ⟨rfl, rfl⟩))
  obtain ⟨a4, e4, h5⟩ := Option.bind_eq_some_iff.mp h2
  exact fr_e2 h5 f3
def w1_lp_X10_wander_2 (a k : Nat) : Prop := (a = 3 ∧ k = 3) ∨ a = 32 ∨ a = 33 ∨ a = 34 ∨ a = 35
def w2_lp_X10_wander_2 (a k : Nat) : Prop := False
theorem fr_lp_X10_wander_2 {K : fS → Option (fS)} {r : fS} {v1 v2 : Nat → Nat → Prop} (s1 : ∀ a k, w1_lp_X10_wander_2 a k → v1 a k) (s2 : ∀ a k, w2_lp_X10_wander_2 a k → v2 a k) (hK : ∀ (x0 : fS), K x0 = some r → Fr v1 v2 x0 r) : ∀ (n : Nat) (p1 : Int32) (S0 : fS), lp_X10_wander_2 K n p1 S0 = some r → Fr v1 v2 S0 r := by
  intro n
  induction n with
  | zero => intro p1 S0 h; exact mm_no h
  | succ n ih =>
    intro p1 S0 h
    rw [lp_X10_wander_2.eq_2] at h
    rcases fr_ite h with h1 | h1
    ·
      exact (Fr.rf (S := S0)).tr (hK _ h1)
    ·
      obtain ⟨q2, e2, h3⟩ := Option.bind_eq_some_iff.mp h1
      rcases fr_ite h3 with h4 | h4
      ·
        exact (Fr.rf (S := S0)).tr (ih _ _ h4)
      ·
        obtain ⟨a6, e5, h6⟩ := Option.bind_eq_some_iff.mp h4
        obtain ⟨q9, e7, h8⟩ := Option.bind_eq_some_iff.mp h6
        have f9 : Fr v1 v2 S0 q9.2 := (Fr.rf (S := S0)).tr (Fr.mo (fr_f_X6_draw e7) (fun a k q => by refine s1 _ _ ?_; unfold w1_f_X6_draw at q; unfold w1_lp_X10_wander_2; exact Or.inl (q)) (fun _ _ q => False.elim q))
        obtain ⟨a12, e10, h11⟩ := Option.bind_eq_some_iff.mp h8
        rcases fr_ite h11 with h12 | h12
        ·
          obtain ⟨q33, e13, h14⟩ := Option.bind_eq_some_iff.mp h12
          rcases fr_ite h14 with h15 | h15
          ·
            exact f9.tr (ih _ _ h15)
          ·
            rcases fr_ite h15 with h16 | h16
            ·
              exact f9.tr (ih _ _ h16)
            ·
              obtain ⟨q38, e17, h18⟩ := Option.bind_eq_some_iff.mp h16
              have f19 : Fr v1 v2 S0 q38.2 := f9.tr (Fr.mo (fr_f_X6_draw e17) (fun a k q => by refine s1 _ _ ?_; unfold w1_f_X6_draw at q; unfold w1_lp_X10_wander_2; exact Or.inl (q)) (fun _ _ q => False.elim q))
              obtain ⟨a41, e20, h21⟩ := Option.bind_eq_some_iff.mp h18
              obtain ⟨q44, e22, h23⟩ := Option.bind_eq_some_iff.mp h21
              obtain ⟨q47, e24, h25⟩ := Option.bind_eq_some_iff.mp h23
              have f26 : Fr v1 v2 S0 q47.2 := f19.tr (Fr.mo (fr_f_X0_setOff e24) (fun a k q => by refine s1 _ _ ?_; unfold w1_f_X0_setOff at q; unfold w1_lp_X10_wander_2; rcases q with q | q | q | q; exact Or.inr (Or.inl (q)); exact Or.inr (Or.inr (Or.inl (q))); exact Or.inr (Or.inr (Or.inr (Or.inl (q)))); exact Or.inr (Or.inr (Or.inr (Or.inr ((q)))))) (fun _ _ q => False.elim q))
              exact f26.tr (ih _ _ h25)
        ·
          obtain ⟨q16, e27, h28⟩ := Option.bind_eq_some_iff.mp h12
          rcases fr_ite h28 with h29 | h29
          ·
            exact f9.tr (ih _ _ h29)
          ·
            rcases fr_ite h29 with h30 | h30
            ·
              exact f9.tr (ih _ _ h30)
            ·
              obtain ⟨q21, e31, h32⟩ := Option.bind_eq_some_iff.mp h30
              have f33 : Fr v1 v2 S0 q21.2 := f9.tr (Fr.mo (fr_f_X6_draw e31) (fun a k q => by refine s1 _ _ ?_; unfold w1_f_X6_draw at q; unfold w1_lp_X10_wander_2; exact Or.inl (q)) (fun _ _ q => False.elim q))
              obtain ⟨a24, e34, h35⟩ := Option.bind_eq_some_iff.mp h32
              obtain ⟨q27, e36, h37⟩ := Option.bind_eq_some_iff.mp h35
              obtain ⟨q30, e38, h39⟩ := Option.bind_eq_some_iff.mp h37
              have f40 : Fr v1 v2 S0 q30.2 := f33.tr (Fr.mo (fr_f_X0_setOff e38) (fun a k q => by refine s1 _ _ ?_; unfold w1_f_X0_setOff at q; unfold w1_lp_X10_wander_2; rcases q with q | q | q | q; exact Or.inr (Or.inl (q)); exact Or.inr (Or.inr (Or.inl (q))); exact Or.inr (Or.inr (Or.inr (Or.inl (q)))); exact Or.inr (Or.inr (Or.inr (Or.inr ((q)))))) (fun _ _ q => False.elim q))
              exact f40.tr (ih _ _ h39)
def w1_f_X10_wander (a k : Nat) : Prop := (a = 3 ∧ k = 3) ∨ a = 32 ∨ a = 33 ∨ a = 34 ∨ a = 35
def w2_f_X10_wander (a k : Nat) : Prop := False
theorem fr_f_X10_wander {S : fS} {r : fS} (h : f_X10_wander S = some r) : Fr (w1_f_X10_wander) (w2_f_X10_wander) S r := by
  unfold f_X10_wander at h
  refine (Fr.rf (S := S)).tr (fr_lp_X10_wander_2 (v1 := w1_f_X10_wander) (v2 := w2_f_X10_wander) (fun a k q => by unfold w1_lp_X10_wander_2 at q; unfold w1_f_X10_wander; rcases q with q | q | q | q | q; exact Or.inl (q); exact Or.inr (Or.inl (q)); exact Or.inr (Or.inr (Or.inl (q))); exact Or.inr (Or.inr (Or.inr (Or.inl (q)))); exact Or.inr (Or.inr (Or.inr (Or.inr ((q)))))) (fun _ _ q => False.elim q) (fun S50 h1 => ?_) _ _ _ h)
  exact fr_e1 h1 (Fr.rf (S := S50))
def w1_lp_X10_hoursMet_20 (a k : Nat) : Prop := (a = 3 ∧ k = 3) ∨ (a = 31 ∧ k = 6) ∨ a = 32 ∨ a = 33 ∨ a = 34 ∨ a = 35
def w2_lp_X10_hoursMet_20 (a k : Nat) : Prop := a = 36
theorem fr_lp_X10_hoursMet_20 {p1 : Int32} {p2 : Int32} {p3 : Int32} {K : Int32 → fS → Option (Int32 × fS)} {r : Int32 × fS} {v1 v2 : Nat → Nat → Prop} (s1 : ∀ a k, w1_lp_X10_hoursMet_20 a k → v1 a k) (s2 : ∀ a k, w2_lp_X10_hoursMet_20 a k → v2 a k) (hK : ∀ (x0 : Int32) (x1 : fS), K x0 x1 = some r → Fr v1 v2 x1 r.2) : ∀ (n : Nat) (p4 : Int32) (p5 : Int32) (S0 : fS), lp_X10_hoursMet_20 p1 p2 p3 K n p4 p5 S0 = some r → Fr v1 v2 S0 r.2 := by
  intro n
  induction n with
  | zero => intro p4 p5 S0 h; exact mm_no h
  | succ n ih =>
    intro p4 p5 S0 h
    rw [lp_X10_hoursMet_20.eq_2] at h
    rcases fr_ite h with h1 | h1
    ·
      exact (Fr.rf (S := S0)).tr (hK _ _ h1)
    ·
      obtain ⟨q5, e2, h3⟩ := Option.bind_eq_some_iff.mp h1
      have f4 : Fr v1 v2 S0 q5 := (Fr.rf (S := S0)).tr (Fr.mo (fr_f_X10_wander e2) (fun a k q => by refine s1 _ _ ?_; unfold w1_f_X10_wander at q; unfold w1_lp_X10_hoursMet_20; rcases q with q | q | q | q | q; exact Or.inl (q); exact Or.inr (Or.inr (Or.inl (q))); exact Or.inr (Or.inr (Or.inr (Or.inl (q)))); exact Or.inr (Or.inr (Or.inr (Or.inr (Or.inl (q))))); exact Or.inr (Or.inr (Or.inr (Or.inr (Or.inr ((q))))))) (fun _ _ q => False.elim q))
      obtain ⟨q8, e5, h6⟩ := Option.bind_eq_some_iff.mp h3
      have f7 : Fr v1 v2 S0 q8 := f4.tr (Fr.mo (fr_f_X0_passHour e5) (fun a k q => by refine s1 _ _ ?_; unfold w1_f_X0_passHour at q; unfold w1_lp_X10_hoursMet_20; rcases q with q | q | q | q | q; exact Or.inr (Or.inl (q)); exact Or.inr (Or.inr (Or.inl (q))); exact Or.inr (Or.inr (Or.inr (Or.inl (q)))); exact Or.inr (Or.inr (Or.inr (Or.inr (Or.inl (q))))); exact Or.inr (Or.inr (Or.inr (Or.inr (Or.inr ((q))))))) (fun a k q => by refine s2 _ _ ?_; unfold w2_f_X0_passHour at q; unfold w2_lp_X10_hoursMet_20; exact q))
      obtain ⟨q11, e8, h9⟩ := Option.bind_eq_some_iff.mp h6
      rcases fr_ite h9 with h10 | h10
      ·
        exact f7.tr (ih _ _ _ h10)
      ·
        exact f7.tr (ih _ _ _ h10)
def w1_f_X10_hoursMet (a k : Nat) : Prop := (a = 3 ∧ k = 3) ∨ (a = 31 ∧ k = 5) ∨ (a = 31 ∧ k = 6) ∨ a = 32 ∨ a = 33 ∨ a = 34 ∨ a = 35
def w2_f_X10_hoursMet (a k : Nat) : Prop := a = 36
theorem fr_f_X10_hoursMet {v1 : Int32} {v2 : Int32} {v3 : Int32} {S : fS} {r : Int32 × fS} (h : f_X10_hoursMet v1 v2 v3 S = some r) : Fr (w1_f_X10_hoursMet) (w2_f_X10_hoursMet) S r.2 := by
  unfold f_X10_hoursMet at h
  obtain ⟨q1, e1, h2⟩ := Option.bind_eq_some_iff.mp h
  have f3 : Fr (w1_f_X10_hoursMet) (w2_f_X10_hoursMet) S q1 := (Fr.rf (S := S)).tr (Fr.mo (fr_f_X0_copyFrom e1) (fun a k q => by unfold w1_f_X0_copyFrom at q; unfold w1_f_X10_hoursMet; rcases q with q | q | q | q | q | q; exact Or.inr (Or.inl (q)); exact Or.inr (Or.inr (Or.inl (q))); exact Or.inr (Or.inr (Or.inr (Or.inl (q)))); exact Or.inr (Or.inr (Or.inr (Or.inr (Or.inl (q))))); exact Or.inr (Or.inr (Or.inr (Or.inr (Or.inr (Or.inl (q)))))); exact Or.inr (Or.inr (Or.inr (Or.inr (Or.inr (Or.inr ((q)))))))) (fun a k q => by unfold w2_f_X0_copyFrom at q; unfold w2_f_X10_hoursMet; exact q))
  refine f3.tr (fr_lp_X10_hoursMet_20 (v1 := w1_f_X10_hoursMet) (v2 := w2_f_X10_hoursMet) (fun a k q => by unfold w1_lp_X10_hoursMet_20 at q; unfold w1_f_X10_hoursMet; rcases q with q | q | q | q | q | q; exact Or.inl (q); exact Or.inr (Or.inr (Or.inl (q))); exact Or.inr (Or.inr (Or.inr (Or.inl (q)))); exact Or.inr (Or.inr (Or.inr (Or.inr (Or.inl (q))))); exact Or.inr (Or.inr (Or.inr (Or.inr (Or.inr (Or.inl (q)))))); exact Or.inr (Or.inr (Or.inr (Or.inr (Or.inr (Or.inr ((q)))))))) (fun a k q => by unfold w2_lp_X10_hoursMet_20 at q; unfold w2_f_X10_hoursMet; exact q) (fun u15 S16 h4 => ?_) _ _ _ _ h2)
  exact fr_e2 h4 (Fr.rf (S := S16))
def w1_lp_X10_meetings_66 (a k : Nat) : Prop := (a = 3 ∧ k = 3) ∨ (a = 31 ∧ k = 5) ∨ (a = 31 ∧ k = 6) ∨ a = 32 ∨ a = 33 ∨ a = 34 ∨ a = 35
def w2_lp_X10_meetings_66 (a k : Nat) : Prop := a = 36
theorem fr_lp_X10_meetings_66 {p1 : Int32} {p2 : Int32} {p3 : Int32} {p4 : Int32} {p5 : Int32} {K : Int32 → Int32 → fS → Option (Int32 × fS)} {r : Int32 × fS} {v1 v2 : Nat → Nat → Prop} (s1 : ∀ a k, w1_lp_X10_meetings_66 a k → v1 a k) (s2 : ∀ a k, w2_lp_X10_meetings_66 a k → v2 a k) (hK : ∀ (x0 : Int32) (x1 : Int32) (x2 : fS), K x0 x1 x2 = some r → Fr v1 v2 x2 r.2) : ∀ (n : Nat) (p6 : Int32) (p7 : Int32) (p8 : Int32) (S0 : fS), lp_X10_meetings_66 p1 p2 p3 p4 p5 K n p6 p7 p8 S0 = some r → Fr v1 v2 S0 r.2 := by
  intro n
  induction n with
  | zero => intro p6 p7 p8 S0 h; exact mm_no h
  | succ n ih =>
    intro p6 p7 p8 S0 h
    rw [lp_X10_meetings_66.eq_2] at h
    rcases fr_ite h with h1 | h1
    ·
      exact (Fr.rf (S := S0)).tr (hK _ _ _ h1)
    ·
      obtain ⟨q23, e2, h3⟩ := Option.bind_eq_some_iff.mp h1
      have f4 : Fr v1 v2 S0 q23.2 := (Fr.rf (S := S0)).tr (Fr.mo (fr_f_X10_hoursMet e2) (fun a k q => by refine s1 _ _ ?_; unfold w1_f_X10_hoursMet at q; unfold w1_lp_X10_meetings_66; rcases q with q | q | q | q | q | q | q; exact Or.inl (q); exact Or.inr (Or.inl (q)); exact Or.inr (Or.inr (Or.inl (q))); exact Or.inr (Or.inr (Or.inr (Or.inl (q)))); exact Or.inr (Or.inr (Or.inr (Or.inr (Or.inl (q))))); exact Or.inr (Or.inr (Or.inr (Or.inr (Or.inr (Or.inl (q)))))); exact Or.inr (Or.inr (Or.inr (Or.inr (Or.inr (Or.inr ((q)))))))) (fun a k q => by refine s2 _ _ ?_; unfold w2_f_X10_hoursMet at q; unfold w2_lp_X10_meetings_66; exact q))
      rcases fr_ite h3 with h5 | h5
      ·
        exact f4.tr (ih _ _ _ _ h5)
      ·
        exact f4.tr (ih _ _ _ _ h5)
def w1_f_X10_meetings (a k : Nat) : Prop := (a = 3 ∧ k = 3) ∨ (a = 31 ∧ k = 5) ∨ (a = 31 ∧ k = 6) ∨ a = 32 ∨ a = 33 ∨ a = 34 ∨ a = 35
def w2_f_X10_meetings (a k : Nat) : Prop := a = 36
theorem fr_f_X10_meetings {v1 : Int32} {v2 : Int32} {v3 : Int32} {v4 : Int32} {v5 : Int32} {S : fS} {r : Int32 × fS} (h : f_X10_meetings v1 v2 v3 v4 v5 S = some r) : Fr (w1_f_X10_meetings) (w2_f_X10_meetings) S r.2 := by
  unfold f_X10_meetings at h
  obtain ⟨q1, e1, h2⟩ := Option.bind_eq_some_iff.mp h
  rcases fr_ite h2 with h3 | h3
  ·
    exact fr_e2 h3 (Fr.rf (S := S))
  ·
    obtain ⟨q5, e4, h5⟩ := Option.bind_eq_some_iff.mp h3
    rcases fr_ite h5 with h6 | h6
    ·
      exact fr_e2 h6 (Fr.rf (S := S))
    ·
      rcases fr_ite h6 with h7 | h7
      ·
        exact fr_e2 h7 (Fr.rf (S := S))
      ·
        obtain ⟨q10, e8, h9⟩ := Option.bind_eq_some_iff.mp h7
        rcases fr_ite h9 with h10 | h10
        ·
          exact fr_e2 h10 (Fr.rf (S := S))
        ·
          obtain ⟨q14, e11, h12⟩ := Option.bind_eq_some_iff.mp h10
          rcases fr_ite h12 with h13 | h13
          ·
            exact fr_e2 h13 (Fr.rf (S := S))
          ·
            obtain ⟨q18, e14, h15⟩ := Option.bind_eq_some_iff.mp h13
            rcases fr_ite h15 with h16 | h16
            ·
              exact fr_e2 h16 (Fr.rf (S := S))
            ·
              refine (Fr.rf (S := S)).tr (fr_lp_X10_meetings_66 (v1 := w1_f_X10_meetings) (v2 := w2_f_X10_meetings) (fun a k q => by unfold w1_lp_X10_meetings_66 at q; unfold w1_f_X10_meetings; rcases q with q | q | q | q | q | q | q; exact Or.inl (q); exact Or.inr (Or.inl (q)); exact Or.inr (Or.inr (Or.inl (q))); exact Or.inr (Or.inr (Or.inr (Or.inl (q)))); exact Or.inr (Or.inr (Or.inr (Or.inr (Or.inl (q))))); exact Or.inr (Or.inr (Or.inr (Or.inr (Or.inr (Or.inl (q)))))); exact Or.inr (Or.inr (Or.inr (Or.inr (Or.inr (Or.inr ((q)))))))) (fun a k q => by unfold w2_lp_X10_meetings_66 at q; unfold w2_f_X10_meetings; exact q) (fun u27 u28 S29 h17 => ?_) _ _ _ _ _ h16)
              rcases fr_ite h17 with h18 | h18
              ·
                exact fr_e2 h18 (Fr.rf (S := S29))
              ·
                exact fr_e2 h18 (Fr.rf (S := S29))
def w1_f_X2_copyFrom (v0 : Nat) (v1 : Nat) (a k : Nat) : Prop := (a = v0 ∧ k = 4) ∨ a = v0 + 1 ∨ a = v0 + 2 ∨ a = v0 + 3 ∨ a = v0 + 4
def w2_f_X2_copyFrom (v0 : Nat) (v1 : Nat) (a k : Nat) : Prop := False
theorem fr_f_X2_copyFrom {v0 : Nat} {v1 : Nat} {S : fS} {r : fS} (h : f_X2_copyFrom v0 v1 S = some r) : Fr (w1_f_X2_copyFrom v0 v1) (w2_f_X2_copyFrom v0 v1) S r := by
  unfold f_X2_copyFrom at h
  obtain ⟨S1, e1, h2⟩ := Option.bind_eq_some_iff.mp h
  have f3 : Fr (w1_f_X2_copyFrom v0 v1) (w2_f_X2_copyFrom v0 v1) S S1 := (Fr.rf (S := S)).tr (fr_cI e1 (fun k => by unfold w1_f_X2_copyFrom; exact Or.inr (Or.inl (rfl))))
  obtain ⟨S4, e4, h5⟩ := Option.bind_eq_some_iff.mp h2
  have f6 : Fr (w1_f_X2_copyFrom v0 v1) (w2_f_X2_copyFrom v0 v1) S S4 := f3.tr (fr_cI e4 (fun k => by unfold w1_f_X2_copyFrom; exact Or.inr (Or.inr (Or.inl (rfl)))))
  obtain ⟨S7, e7, h8⟩ := Option.bind_eq_some_iff.mp h5
  have f9 : Fr (w1_f_X2_copyFrom v0 v1) (w2_f_X2_copyFrom v0 v1) S S7 := f6.tr (fr_cI e7 (fun k => by unfold w1_f_X2_copyFrom; exact Or.inr (Or.inr (Or.inr (Or.inl (rfl))))))
  obtain ⟨S10, e10, h11⟩ := Option.bind_eq_some_iff.mp h8
  have f12 : Fr (w1_f_X2_copyFrom v0 v1) (w2_f_X2_copyFrom v0 v1) S S10 := f9.tr (fr_cI e10 (fun k => by unfold w1_f_X2_copyFrom; exact Or.inr (Or.inr (Or.inr (Or.inr ((rfl)))))))
  obtain ⟨S13, e13, h14⟩ := Option.bind_eq_some_iff.mp h11
  have f15 : Fr (w1_f_X2_copyFrom v0 v1) (w2_f_X2_copyFrom v0 v1) S S13 := f12.tr (fr_pI e13 (by unfold w1_f_X2_copyFrom; exact Or.inl (⟨rfl, rfl⟩)))
  exact fr_e1 h14 f15
def w1_f_X6_copyFrom (v0 : Nat) (v1 : Nat) (a k : Nat) : Prop := (a = v0 ∧ k = 3) ∨ (a = v0 + 1 ∧ k = 6) ∨ (a = v0 + 1 ∧ k = 7) ∨ a = v0 + 3 ∨ a = v0 + 4 ∨ a = v0 + 5 ∨ a = v0 + 7 ∨ (a = v0 + 8 ∧ k = 5) ∨ (a = v0 + 8 ∧ k = 6) ∨ a = v0 + 9 ∨ a = v0 + 10 ∨ a = v0 + 11 ∨ a = v0 + 12 ∨ (a = v0 + 14 ∧ k = 4) ∨ a = v0 + 15 ∨ a = v0 + 16 ∨ a = v0 + 17 ∨ a = v0 + 18
def w2_f_X6_copyFrom (v0 : Nat) (v1 : Nat) (a k : Nat) : Prop := a = v0 + 2 ∨ a = v0 + 6 ∨ a = v0 + 13
theorem fr_f_X6_copyFrom {v0 : Nat} {v1 : Nat} {S : fS} {r : fS} (h : f_X6_copyFrom v0 v1 S = some r) : Fr (w1_f_X6_copyFrom v0 v1) (w2_f_X6_copyFrom v0 v1) S r := by
  unfold f_X6_copyFrom at h
  obtain ⟨q1, e1, h2⟩ := Option.bind_eq_some_iff.mp h
  have f3 : Fr (w1_f_X6_copyFrom v0 v1) (w2_f_X6_copyFrom v0 v1) S q1 := (Fr.rf (S := S)).tr (Fr.mo (fr_f_X8_copyFrom e1) (fun a k q => by unfold w1_f_X8_copyFrom at q; unfold w1_f_X6_copyFrom; rcases q with q | q | q | q | q | q; exact Or.inr (Or.inl (q)); exact Or.inr (Or.inr (Or.inl (q))); exact Or.inr (Or.inr (Or.inr (Or.inl (q)))); exact Or.inr (Or.inr (Or.inr (Or.inr (Or.inl (q))))); exact Or.inr (Or.inr (Or.inr (Or.inr (Or.inr (Or.inl (q)))))); exact Or.inr (Or.inr (Or.inr (Or.inr (Or.inr (Or.inr (Or.inl (q)))))))) (fun a k q => by unfold w2_f_X8_copyFrom at q; unfold w2_f_X6_copyFrom; rcases q with q | q; exact Or.inl (q); exact Or.inr (Or.inl (q))))
  obtain ⟨q4, e4, h5⟩ := Option.bind_eq_some_iff.mp h2
  have f6 : Fr (w1_f_X6_copyFrom v0 v1) (w2_f_X6_copyFrom v0 v1) S q4 := f3.tr (Fr.mo (fr_f_X0_copyFrom e4) (fun a k q => by unfold w1_f_X0_copyFrom at q; unfold w1_f_X6_copyFrom; rcases q with q | q | q | q | q | q; exact Or.inr (Or.inr (Or.inr (Or.inr (Or.inr (Or.inr (Or.inr (Or.inl (q)))))))); exact Or.inr (Or.inr (Or.inr (Or.inr (Or.inr (Or.inr (Or.inr (Or.inr (Or.inl (q))))))))); exact Or.inr (Or.inr (Or.inr (Or.inr (Or.inr (Or.inr (Or.inr (Or.inr (Or.inr (Or.inl (q)))))))))); exact Or.inr (Or.inr (Or.inr (Or.inr (Or.inr (Or.inr (Or.inr (Or.inr (Or.inr (Or.inr (Or.inl (q))))))))))); exact Or.inr (Or.inr (Or.inr (Or.inr (Or.inr (Or.inr (Or.inr (Or.inr (Or.inr (Or.inr (Or.inr (Or.inl (q)))))))))))); exact Or.inr (Or.inr (Or.inr (Or.inr (Or.inr (Or.inr (Or.inr (Or.inr (Or.inr (Or.inr (Or.inr (Or.inr (Or.inl (q)))))))))))))) (fun a k q => by unfold w2_f_X0_copyFrom at q; unfold w2_f_X6_copyFrom; exact Or.inr (Or.inr ((q)))))
  obtain ⟨q7, e7, h8⟩ := Option.bind_eq_some_iff.mp h5
  have f9 : Fr (w1_f_X6_copyFrom v0 v1) (w2_f_X6_copyFrom v0 v1) S q7 := f6.tr (Fr.mo (fr_f_X2_copyFrom e7) (fun a k q => by unfold w1_f_X2_copyFrom at q; unfold w1_f_X6_copyFrom; rcases q with q | q | q | q | q; exact Or.inr (Or.inr (Or.inr (Or.inr (Or.inr (Or.inr (Or.inr (Or.inr (Or.inr (Or.inr (Or.inr (Or.inr (Or.inr (Or.inl (q)))))))))))))); exact Or.inr (Or.inr (Or.inr (Or.inr (Or.inr (Or.inr (Or.inr (Or.inr (Or.inr (Or.inr (Or.inr (Or.inr (Or.inr (Or.inr (Or.inl (q))))))))))))))); exact Or.inr (Or.inr (Or.inr (Or.inr (Or.inr (Or.inr (Or.inr (Or.inr (Or.inr (Or.inr (Or.inr (Or.inr (Or.inr (Or.inr (Or.inr (Or.inl (q)))))))))))))))); exact Or.inr (Or.inr (Or.inr (Or.inr (Or.inr (Or.inr (Or.inr (Or.inr (Or.inr (Or.inr (Or.inr (Or.inr (Or.inr (Or.inr (Or.inr (Or.inr (Or.inl (q))))))))))))))))); exact Or.inr (Or.inr (Or.inr (Or.inr (Or.inr (Or.inr (Or.inr (Or.inr (Or.inr (Or.inr (Or.inr (Or.inr (Or.inr (Or.inr (Or.inr (Or.inr (Or.inr ((q))))))))))))))))))) (fun _ _ q => False.elim q))
  obtain ⟨S10, e10, h11⟩ := Option.bind_eq_some_iff.mp h8
  have f12 : Fr (w1_f_X6_copyFrom v0 v1) (w2_f_X6_copyFrom v0 v1) S S10 := f9.tr (fr_pI e10 (by unfold w1_f_X6_copyFrom; exact Or.inl (⟨rfl, rfl⟩)))
  exact fr_e1 h11 f12
def w1_f_X10_image (a k : Nat) : Prop := (51 ≤ a ∧ a ≤ 126)
def w2_f_X10_image (a k : Nat) : Prop := (51 ≤ a ∧ a ≤ 126)
theorem fr_f_X10_image {v1 : Int32} {S : fS} {r : Int32 × fS} (h : f_X10_image v1 S = some r) : Fr (w1_f_X10_image) (w2_f_X10_image) S r.2 := by
  unfold f_X10_image at h
  obtain ⟨q1, e1, h2⟩ := Option.bind_eq_some_iff.mp h
  rcases fr_ite h2 with h3 | h3
  ·
    exact fr_e2 h3 (Fr.rf (S := S))
  ·
    obtain ⟨a5, e4, h5⟩ := Option.bind_eq_some_iff.mp h3
    have g6 := fr_A22 e4
    obtain ⟨q8, e7, h8⟩ := Option.bind_eq_some_iff.mp h5
    have f9 : Fr (w1_f_X10_image) (w2_f_X10_image) S q8 := (Fr.rf (S := S)).tr (Fr.mo (fr_f_X6_copyFrom e7) (fun a k q => by unfold w1_f_X6_copyFrom at q; unfold w1_f_X10_image; rcases q with q | q | q | q | q | q | q | q | q | q | q | q | q | q | q | q | q | q; exact (by omega); exact (by omega); exact (by omega); exact (by omega); exact (by omega); exact (by omega); exact (by omega); exact (by omega); exact (by omega); exact (by omega); exact (by omega); exact (by omega); exact (by omega); exact (by omega); exact (by omega); exact (by omega); exact (by omega); exact (by omega)) (fun a k q => by unfold w2_f_X6_copyFrom at q; unfold w2_f_X10_image; rcases q with q | q | q; exact (by omega); exact (by omega); exact (by omega)))
    obtain ⟨a11, e10, h11⟩ := Option.bind_eq_some_iff.mp h8
    have g12 := fr_A22 e10
    obtain ⟨S14, e13, h14⟩ := Option.bind_eq_some_iff.mp h11
    have f15 : Fr (w1_f_X10_image) (w2_f_X10_image) S S14 := f9.tr (fr_pI e13 (by unfold w1_f_X10_image; exact (by omega)))
    exact fr_e2 h14 f15
def w1_f_X10_back (a k : Nat) : Prop := (a = 3 ∧ k = 3) ∨ (a = 4 ∧ k = 6) ∨ (a = 4 ∧ k = 7) ∨ a = 6 ∨ a = 7 ∨ a = 8 ∨ a = 10 ∨ (a = 11 ∧ k = 5) ∨ (a = 11 ∧ k = 6) ∨ a = 12 ∨ a = 13 ∨ a = 14 ∨ a = 15 ∨ (a = 17 ∧ k = 4) ∨ a = 18 ∨ a = 19 ∨ a = 20 ∨ a = 21
def w2_f_X10_back (a k : Nat) : Prop := a = 5 ∨ a = 9 ∨ a = 16
theorem fr_f_X10_back {v1 : Int32} {S : fS} {r : Int32 × fS} (h : f_X10_back v1 S = some r) : Fr (w1_f_X10_back) (w2_f_X10_back) S r.2 := by
  unfold f_X10_back at h
  obtain ⟨q1, e1, h2⟩ := Option.bind_eq_some_iff.mp h
  rcases fr_ite h2 with h3 | h3
  ·
    exact fr_e2 h3 (Fr.rf (S := S))
  ·
    obtain ⟨a5, e4, h5⟩ := Option.bind_eq_some_iff.mp h3
    have g6 := fr_A22 e4
    rcases fr_ite h5 with h7 | h7
    ·
      exact fr_e2 h7 (Fr.rf (S := S))
    ·
      obtain ⟨a9, e8, h9⟩ := Option.bind_eq_some_iff.mp h7
      have g10 := fr_A22 e8
      obtain ⟨q12, e11, h12⟩ := Option.bind_eq_some_iff.mp h9
      have f13 : Fr (w1_f_X10_back) (w2_f_X10_back) S q12 := (Fr.rf (S := S)).tr (Fr.mo (fr_f_X6_copyFrom e11) (fun a k q => by unfold w1_f_X6_copyFrom at q; unfold w1_f_X10_back; rcases q with q | q | q | q | q | q | q | q | q | q | q | q | q | q | q | q | q | q; exact Or.inl (q); exact Or.inr (Or.inl (q)); exact Or.inr (Or.inr (Or.inl (q))); exact Or.inr (Or.inr (Or.inr (Or.inl (q)))); exact Or.inr (Or.inr (Or.inr (Or.inr (Or.inl (q))))); exact Or.inr (Or.inr (Or.inr (Or.inr (Or.inr (Or.inl (q)))))); exact Or.inr (Or.inr (Or.inr (Or.inr (Or.inr (Or.inr (Or.inl (q))))))); exact Or.inr (Or.inr (Or.inr (Or.inr (Or.inr (Or.inr (Or.inr (Or.inl (q)))))))); exact Or.inr (Or.inr (Or.inr (Or.inr (Or.inr (Or.inr (Or.inr (Or.inr (Or.inl (q))))))))); exact Or.inr (Or.inr (Or.inr (Or.inr (Or.inr (Or.inr (Or.inr (Or.inr (Or.inr (Or.inl (q)))))))))); exact Or.inr (Or.inr (Or.inr (Or.inr (Or.inr (Or.inr (Or.inr (Or.inr (Or.inr (Or.inr (Or.inl (q))))))))))); exact Or.inr (Or.inr (Or.inr (Or.inr (Or.inr (Or.inr (Or.inr (Or.inr (Or.inr (Or.inr (Or.inr (Or.inl (q)))))))))))); exact Or.inr (Or.inr (Or.inr (Or.inr (Or.inr (Or.inr (Or.inr (Or.inr (Or.inr (Or.inr (Or.inr (Or.inr (Or.inl (q))))))))))))); exact Or.inr (Or.inr (Or.inr (Or.inr (Or.inr (Or.inr (Or.inr (Or.inr (Or.inr (Or.inr (Or.inr (Or.inr (Or.inr (Or.inl (q)))))))))))))); exact Or.inr (Or.inr (Or.inr (Or.inr (Or.inr (Or.inr (Or.inr (Or.inr (Or.inr (Or.inr (Or.inr (Or.inr (Or.inr (Or.inr (Or.inl (q))))))))))))))); exact Or.inr (Or.inr (Or.inr (Or.inr (Or.inr (Or.inr (Or.inr (Or.inr (Or.inr (Or.inr (Or.inr (Or.inr (Or.inr (Or.inr (Or.inr (Or.inl (q)))))))))))))))); exact Or.inr (Or.inr (Or.inr (Or.inr (Or.inr (Or.inr (Or.inr (Or.inr (Or.inr (Or.inr (Or.inr (Or.inr (Or.inr (Or.inr (Or.inr (Or.inr (Or.inl (q))))))))))))))))); exact Or.inr (Or.inr (Or.inr (Or.inr (Or.inr (Or.inr (Or.inr (Or.inr (Or.inr (Or.inr (Or.inr (Or.inr (Or.inr (Or.inr (Or.inr (Or.inr (Or.inr ((q))))))))))))))))))) (fun a k q => by unfold w2_f_X6_copyFrom at q; unfold w2_f_X10_back; rcases q with q | q | q; exact Or.inl (q); exact Or.inr (Or.inl (q)); exact Or.inr (Or.inr ((q)))))
      exact fr_e2 h12 f13
def w1_lp_X11_four_3 (a k : Nat) : Prop := (a = 145 ∧ k = 1) ∨ a = 146
def w2_lp_X11_four_3 (a k : Nat) : Prop := False
theorem fr_lp_X11_four_3 {p1 : Int32} {K : fS → Option (fS)} {r : fS} {v1 v2 : Nat → Nat → Prop} (s1 : ∀ a k, w1_lp_X11_four_3 a k → v1 a k) (s2 : ∀ a k, w2_lp_X11_four_3 a k → v2 a k) (hK : ∀ (x0 : fS), K x0 = some r → Fr v1 v2 x0 r) : ∀ (n : Nat) (p2 : Int32) (S0 : fS), lp_X11_four_3 p1 K n p2 S0 = some r → Fr v1 v2 S0 r := by
  intro n
  induction n with
  | zero => intro p2 S0 h; exact mm_no h
  | succ n ih =>
    intro p2 S0 h
    rw [lp_X11_four_3.eq_2] at h
    rcases fr_ite h with h1 | h1
    ·
      exact (Fr.rf (S := S0)).tr (hK _ h1)
    ·
      obtain ⟨S2, e2, h3⟩ := Option.bind_eq_some_iff.mp h1
      have f4 : Fr v1 v2 S0 S2 := (Fr.rf (S := S0)).tr (fr_sI e2 (fun k => by refine s1 _ _ ?_; unfold w1_lp_X11_four_3; exact Or.inr ((rfl))))
      obtain ⟨S5, e5, h6⟩ := Option.bind_eq_some_iff.mp h3
      have f7 : Fr v1 v2 S0 S5 := f4.tr (fr_pI e5 (by refine s1 _ _ ?_; unfold w1_lp_X11_four_3; exact Or.inl (⟨rfl, rfl⟩)))
      exact f7.tr (ih _ _ h6)
def w1_f_X11_four (a k : Nat) : Prop := (a = 145 ∧ k = 1) ∨ a = 146
def w2_f_X11_four (a k : Nat) : Prop := False
theorem fr_f_X11_four {v1 : Int32} {S : fS} {r : fS} (h : f_X11_four v1 S = some r) : Fr (w1_f_X11_four) (w2_f_X11_four) S r := by
  unfold f_X11_four at h
  refine (Fr.rf (S := S)).tr (fr_lp_X11_four_3 (v1 := w1_f_X11_four) (v2 := w2_f_X11_four) (fun a k q => by unfold w1_lp_X11_four_3 at q; unfold w1_f_X11_four; rcases q with q | q; exact Or.inl (q); exact Or.inr ((q))) (fun _ _ q => False.elim q) (fun S8 h1 => ?_) _ _ _ h)
  exact fr_e1 h1 (Fr.rf (S := S8))
def w1_f_X11_feed (a k : Nat) : Prop := (a = 145 ∧ k = 1) ∨ a = 146
def w2_f_X11_feed (a k : Nat) : Prop := False
theorem fr_f_X11_feed {v1 : Int32} {v2 : Int32} {v3 : Int32} {v4 : Int32} {v5 : Int32} {S : fS} {r : Int32 × fS} (h : f_X11_feed v1 v2 v3 v4 v5 S = some r) : Fr (w1_f_X11_feed) (w2_f_X11_feed) S r.2 := by
  unfold f_X11_feed at h
  rcases fr_ite h with h1 | h1
  ·
    obtain ⟨q2, e2, h3⟩ := Option.bind_eq_some_iff.mp h1
    have f4 : Fr (w1_f_X11_feed) (w2_f_X11_feed) S q2 := (Fr.rf (S := S)).tr (Fr.mo (fr_f_X11_four e2) (fun a k q => by unfold w1_f_X11_four at q; unfold w1_f_X11_feed; rcases q with q | q; exact Or.inl (q); exact Or.inr ((q))) (fun _ _ q => False.elim q))
    obtain ⟨q5, e5, h6⟩ := Option.bind_eq_some_iff.mp h3
    have f7 : Fr (w1_f_X11_feed) (w2_f_X11_feed) S q5 := f4.tr (Fr.mo (fr_f_X11_four e5) (fun a k q => by unfold w1_f_X11_four at q; unfold w1_f_X11_feed; rcases q with q | q; exact Or.inl (q); exact Or.inr ((q))) (fun _ _ q => False.elim q))
    obtain ⟨q8, e8, h9⟩ := Option.bind_eq_some_iff.mp h6
    have f10 : Fr (w1_f_X11_feed) (w2_f_X11_feed) S q8 := f7.tr (Fr.mo (fr_f_X11_four e8) (fun a k q => by unfold w1_f_X11_four at q; unfold w1_f_X11_feed; rcases q with q | q; exact Or.inl (q); exact Or.inr ((q))) (fun _ _ q => False.elim q))
    obtain ⟨q11, e11, h12⟩ := Option.bind_eq_some_iff.mp h9
    have f13 : Fr (w1_f_X11_feed) (w2_f_X11_feed) S q11 := f10.tr (Fr.mo (fr_f_X11_four e11) (fun a k q => by unfold w1_f_X11_four at q; unfold w1_f_X11_feed; rcases q with q | q; exact Or.inl (q); exact Or.inr ((q))) (fun _ _ q => False.elim q))
    obtain ⟨q14, e14, h15⟩ := Option.bind_eq_some_iff.mp h12
    have f16 : Fr (w1_f_X11_feed) (w2_f_X11_feed) S q14 := f13.tr (Fr.mo (fr_f_X11_four e14) (fun a k q => by unfold w1_f_X11_four at q; unfold w1_f_X11_feed; rcases q with q | q; exact Or.inl (q); exact Or.inr ((q))) (fun _ _ q => False.elim q))
    exact fr_e2 h15 f16
  ·
    exact fr_e2 h1 (Fr.rf (S := S))
def w1_f_X11_end (a k : Nat) : Prop := (a = 145 ∧ k = 1)
def w2_f_X11_end (a k : Nat) : Prop := False
theorem fr_f_X11_end {v1 : Int32} {S : fS} {r : Int32 × fS} (h : f_X11_end v1 S = some r) : Fr (w1_f_X11_end) (w2_f_X11_end) S r.2 := by
  unfold f_X11_end at h
  rcases fr_ite h with h1 | h1
  ·
    exact fr_e2 h1 (Fr.rf (S := S))
  ·
    rcases fr_ite h1 with h2 | h2
    ·
      obtain ⟨S3, e3, h4⟩ := Option.bind_eq_some_iff.mp h2
      have f5 : Fr (w1_f_X11_end) (w2_f_X11_end) S S3 := (Fr.rf (S := S)).tr (fr_pI e3 (by unfold w1_f_X11_end; exact ⟨rfl, rfl⟩))
      exact fr_e2 h4 f5
    ·
      exact fr_e2 h2 (Fr.rf (S := S))
def w1_lp_X11_see_0 (a k : Nat) : Prop := (a = 145 ∧ k = 13)
def w2_lp_X11_see_0 (a k : Nat) : Prop := False
theorem fr_lp_X11_see_0 {K : fS → Option (Int32 × fS)} {r : Int32 × fS} {v1 v2 : Nat → Nat → Prop} (s1 : ∀ a k, w1_lp_X11_see_0 a k → v1 a k) (s2 : ∀ a k, w2_lp_X11_see_0 a k → v2 a k) (hK : ∀ (x0 : fS), K x0 = some r → Fr v1 v2 x0 r.2) : ∀ (n : Nat) (S0 : fS), lp_X11_see_0 K n S0 = some r → Fr v1 v2 S0 r.2 := by
  intro n
  induction n with
  | zero => intro S0 h; exact mm_no h
  | succ n ih =>
    intro S0 h
    rw [lp_X11_see_0.eq_2] at h
    rcases fr_ite h with h1 | h1
    ·
      exact (Fr.rf (S := S0)).tr (hK _ h1)
    ·
      obtain ⟨a2, e2, h3⟩ := Option.bind_eq_some_iff.mp h1
      rcases fr_ite h3 with h4 | h4
      ·
        obtain ⟨S6, e5, h6⟩ := Option.bind_eq_some_iff.mp h4
        have f7 : Fr v1 v2 S0 S6 := (Fr.rf (S := S0)).tr (fr_pI e5 (by refine s1 _ _ ?_; unfold w1_lp_X11_see_0; exact ⟨rfl, rfl⟩))
        exact f7.tr (ih _ h6)
      ·
        exact (Fr.rf (S := S0)).tr (hK _ h4)
def w1_f_X11_see (a k : Nat) : Prop := (a = 145 ∧ k = 13)
def w2_f_X11_see (a k : Nat) : Prop := False
theorem fr_f_X11_see {S : fS} {r : Int32 × fS} (h : f_X11_see S = some r) : Fr (w1_f_X11_see) (w2_f_X11_see) S r.2 := by
  unfold f_X11_see at h
  refine (Fr.rf (S := S)).tr (fr_lp_X11_see_0 (v1 := w1_f_X11_see) (v2 := w2_f_X11_see) (fun a k q => by unfold w1_lp_X11_see_0 at q; unfold w1_f_X11_see; exact q) (fun _ _ q => False.elim q) (fun S9 h1 => ?_) _ _ h)
  rcases fr_ite h1 with h2 | h2
  ·
    exact fr_e2 h2 (Fr.rf (S := S9))
  ·
    obtain ⟨a12, e3, h4⟩ := Option.bind_eq_some_iff.mp h2
    exact fr_e2 h4 (Fr.rf (S := S9))
def w1_lp_X11_isWord_10 (a k : Nat) : Prop := False
def w2_lp_X11_isWord_10 (a k : Nat) : Prop := False
theorem fr_lp_X11_isWord_10 {p1 : Int64} {K : Int64 → Int32 → fS → Option (Int32 × fS)} {r : Int32 × fS} {v1 v2 : Nat → Nat → Prop} (s1 : ∀ a k, w1_lp_X11_isWord_10 a k → v1 a k) (s2 : ∀ a k, w2_lp_X11_isWord_10 a k → v2 a k) (hK : ∀ (x0 : Int64) (x1 : Int32) (x2 : fS), K x0 x1 x2 = some r → Fr v1 v2 x2 r.2) : ∀ (n : Nat) (p3 : Int64) (p5 : Int32) (S0 : fS), lp_X11_isWord_10 p1 K n p3 p5 S0 = some r → Fr v1 v2 S0 r.2 := by
  intro n
  induction n with
  | zero => intro p3 p5 S0 h; exact mm_no h
  | succ n ih =>
    intro p3 p5 S0 h
    rw [lp_X11_isWord_10.eq_2] at h
    obtain ⟨q4, e1, h2⟩ := Option.bind_eq_some_iff.mp h
    rcases fr_ite h2 with h3 | h3
    ·
      exact (Fr.rf (S := S0)).tr (hK _ _ _ h3)
    ·
      rcases fr_ite h3 with h4 | h4
      ·
        exact (Fr.rf (S := S0)).tr (ih _ _ _ h4)
      ·
        obtain ⟨a9, e5, h6⟩ := Option.bind_eq_some_iff.mp h4
        exact (Fr.rf (S := S0)).tr (ih _ _ _ h6)
def w1_f_X11_isWord (a k : Nat) : Prop := (a = 145 ∧ k = 13)
def w2_f_X11_isWord (a k : Nat) : Prop := False
theorem fr_f_X11_isWord {v1 : Int64} {S : fS} {r : Int32 × fS} (h : f_X11_isWord v1 S = some r) : Fr (w1_f_X11_isWord) (w2_f_X11_isWord) S r.2 := by
  unfold f_X11_isWord at h
  obtain ⟨q1, e1, h2⟩ := Option.bind_eq_some_iff.mp h
  have f3 : Fr (w1_f_X11_isWord) (w2_f_X11_isWord) S q1.2 := (Fr.rf (S := S)).tr (Fr.mo (fr_f_X11_see e1) (fun a k q => by unfold w1_f_X11_see at q; unfold w1_f_X11_isWord; exact q) (fun _ _ q => False.elim q))
  refine f3.tr (fr_lp_X11_isWord_10 (v1 := w1_f_X11_isWord) (v2 := w2_f_X11_isWord) (fun _ _ q => False.elim q) (fun _ _ q => False.elim q) (fun u12 u13 S14 h4 => ?_) _ _ _ _ h2)
  rcases fr_ite h4 with h5 | h5
  ·
    exact fr_e2 h5 (Fr.rf (S := S14))
  ·
    rcases fr_ite h5 with h6 | h6
    ·
      exact fr_e2 h6 (Fr.rf (S := S14))
    ·
      rcases fr_ite h6 with h7 | h7
      ·
        exact fr_e2 h7 (Fr.rf (S := S14))
      ·
        exact fr_e2 h7 (Fr.rf (S := S14))
def w1_f_X11_fails (a k : Nat) : Prop := (a = 145 ∧ k = 14)
def w2_f_X11_fails (a k : Nat) : Prop := False
theorem fr_f_X11_fails {v1 : Int32} {v2 : Int32} {S : fS} {r : Int32 × fS} (h : f_X11_fails v1 v2 S = some r) : Fr (w1_f_X11_fails) (w2_f_X11_fails) S r.2 := by
  unfold f_X11_fails at h
  rcases fr_ite h with h1 | h1
  ·
    obtain ⟨S2, e2, h3⟩ := Option.bind_eq_some_iff.mp h1
    have f4 : Fr (w1_f_X11_fails) (w2_f_X11_fails) S S2 := (Fr.rf (S := S)).tr (fr_pI e2 (by unfold w1_f_X11_fails; exact ⟨rfl, rfl⟩))
    exact fr_e2 h3 f4
  ·
    exact fr_e2 h1 (Fr.rf (S := S))
def w1_lp_X11_passWord_0 (a k : Nat) : Prop := (a = 145 ∧ k = 13)
def w2_lp_X11_passWord_0 (a k : Nat) : Prop := False
theorem fr_lp_X11_passWord_0 {K : fS → Option (fS)} {r : fS} {v1 v2 : Nat → Nat → Prop} (s1 : ∀ a k, w1_lp_X11_passWord_0 a k → v1 a k) (s2 : ∀ a k, w2_lp_X11_passWord_0 a k → v2 a k) (hK : ∀ (x0 : fS), K x0 = some r → Fr v1 v2 x0 r) : ∀ (n : Nat) (S0 : fS), lp_X11_passWord_0 K n S0 = some r → Fr v1 v2 S0 r := by
  intro n
  induction n with
  | zero => intro S0 h; exact mm_no h
  | succ n ih =>
    intro S0 h
    rw [lp_X11_passWord_0.eq_2] at h
    obtain ⟨q1, e1, h2⟩ := Option.bind_eq_some_iff.mp h
    rcases fr_ite h2 with h3 | h3
    ·
      exact (Fr.rf (S := S0)).tr (hK _ h3)
    ·
      obtain ⟨S5, e4, h5⟩ := Option.bind_eq_some_iff.mp h3
      have f6 : Fr v1 v2 S0 S5 := (Fr.rf (S := S0)).tr (fr_pI e4 (by refine s1 _ _ ?_; unfold w1_lp_X11_passWord_0; exact ⟨rfl, rfl⟩))
      exact f6.tr (ih _ h5)
def w1_f_X11_passWord (a k : Nat) : Prop := (a = 145 ∧ k = 13)
def w2_f_X11_passWord (a k : Nat) : Prop := False
theorem fr_f_X11_passWord {S : fS} {r : fS} (h : f_X11_passWord S = some r) : Fr (w1_f_X11_passWord) (w2_f_X11_passWord) S r := by
  unfold f_X11_passWord at h
  refine (Fr.rf (S := S)).tr (fr_lp_X11_passWord_0 (v1 := w1_f_X11_passWord) (v2 := w2_f_X11_passWord) (fun a k q => by unfold w1_lp_X11_passWord_0 at q; unfold w1_f_X11_passWord; exact q) (fun _ _ q => False.elim q) (fun S8 h1 => ?_) _ _ h)
  exact fr_e1 h1 (Fr.rf (S := S8))
def w1_lp_X11_numberHere_34 (a k : Nat) : Prop := (a = 145 ∧ k = 13)
def w2_lp_X11_numberHere_34 (a k : Nat) : Prop := False
theorem fr_lp_X11_numberHere_34 {p1 : Int32} {p2 : Int32} {p3 : Int32} {K : Int32 → fS → Option (Int32 × fS)} {r : Int32 × fS} {v1 v2 : Nat → Nat → Prop} (s1 : ∀ a k, w1_lp_X11_numberHere_34 a k → v1 a k) (s2 : ∀ a k, w2_lp_X11_numberHere_34 a k → v2 a k) (hK : ∀ (x0 : Int32) (x1 : fS), K x0 x1 = some r → Fr v1 v2 x1 r.2) : ∀ (n : Nat) (p4 : Int32) (S0 : fS), lp_X11_numberHere_34 p1 p2 p3 K n p4 S0 = some r → Fr v1 v2 S0 r.2 := by
  intro n
  induction n with
  | zero => intro p4 S0 h; exact mm_no h
  | succ n ih =>
    intro p4 S0 h
    rw [lp_X11_numberHere_34.eq_2] at h
    obtain ⟨q8, e1, h2⟩ := Option.bind_eq_some_iff.mp h
    rcases fr_ite h2 with h3 | h3
    ·
      exact (Fr.rf (S := S0)).tr (hK _ _ h3)
    ·
      rcases fr_ite h3 with h4 | h4
      ·
        obtain ⟨S13, e5, h6⟩ := Option.bind_eq_some_iff.mp h4
        have f7 : Fr v1 v2 S0 S13 := (Fr.rf (S := S0)).tr (fr_pI e5 (by refine s1 _ _ ?_; unfold w1_lp_X11_numberHere_34; exact ⟨rfl, rfl⟩))
        exact f7.tr (ih _ _ h6)
      ·
        obtain ⟨a16, e8, h9⟩ := Option.bind_eq_some_iff.mp h4
        obtain ⟨S19, e10, h11⟩ := Option.bind_eq_some_iff.mp h9
        have f12 : Fr v1 v2 S0 S19 := (Fr.rf (S := S0)).tr (fr_pI e10 (by refine s1 _ _ ?_; unfold w1_lp_X11_numberHere_34; exact ⟨rfl, rfl⟩))
        exact f12.tr (ih _ _ h11)
def w1_f_X11_numberHere (a k : Nat) : Prop := (a = 145 ∧ k = 13) ∨ (a = 145 ∧ k = 14) ∨ (a = 145 ∧ k = 15)
def w2_f_X11_numberHere (a k : Nat) : Prop := False
theorem fr_f_X11_numberHere {v1 : Int32} {v2 : Int32} {S : fS} {r : Int32 × fS} (h : f_X11_numberHere v1 v2 S = some r) : Fr (w1_f_X11_numberHere) (w2_f_X11_numberHere) S r.2 := by
  unfold f_X11_numberHere at h
  obtain ⟨q1, e1, h2⟩ := Option.bind_eq_some_iff.mp h
  have f3 : Fr (w1_f_X11_numberHere) (w2_f_X11_numberHere) S q1.2 := (Fr.rf (S := S)).tr (Fr.mo (fr_f_X11_see e1) (fun a k q => by unfold w1_f_X11_see at q; unfold w1_f_X11_numberHere; exact Or.inl (q)) (fun _ _ q => False.elim q))
  obtain ⟨q4, e4, h5⟩ := Option.bind_eq_some_iff.mp h2
  rcases fr_ite h5 with h6 | h6
  ·
    obtain ⟨q41, e7, h8⟩ := Option.bind_eq_some_iff.mp h6
    have f9 : Fr (w1_f_X11_numberHere) (w2_f_X11_numberHere) S q41.2 := f3.tr (Fr.mo (fr_f_X11_fails e7) (fun a k q => by unfold w1_f_X11_fails at q; unfold w1_f_X11_numberHere; exact Or.inr (Or.inl (q))) (fun _ _ q => False.elim q))
    obtain ⟨z44, e10, h11⟩ := Option.bind_eq_some_iff.mp h8
    exact fr_e2 h11 f9
  ·
    refine f3.tr (fr_lp_X11_numberHere_34 (v1 := w1_f_X11_numberHere) (v2 := w2_f_X11_numberHere) (fun a k q => by unfold w1_lp_X11_numberHere_34 at q; unfold w1_f_X11_numberHere; exact Or.inl (q)) (fun _ _ q => False.elim q) (fun u22 S23 h12 => ?_) _ _ _ h6)
    obtain ⟨S25, e13, h14⟩ := Option.bind_eq_some_iff.mp h12
    have f15 : Fr (w1_f_X11_numberHere) (w2_f_X11_numberHere) S23 S25 := (Fr.rf (S := S23)).tr (fr_pI e13 (by unfold w1_f_X11_numberHere; exact Or.inr (Or.inr ((⟨rfl, rfl⟩)))))
    rcases fr_ite h14 with h16 | h16
    ·
      obtain ⟨q29, e17, h18⟩ := Option.bind_eq_some_iff.mp h16
      have f19 : Fr (w1_f_X11_numberHere) (w2_f_X11_numberHere) S23 q29.2 := f15.tr (Fr.mo (fr_f_X11_fails e17) (fun a k q => by unfold w1_f_X11_fails at q; unfold w1_f_X11_numberHere; exact Or.inr (Or.inl (q))) (fun _ _ q => False.elim q))
      rcases fr_ite h18 with h20 | h20
      ·
        exact fr_e2 h20 f19
      ·
        exact fr_e2 h20 f19
    ·
      obtain ⟨q33, e21, h22⟩ := Option.bind_eq_some_iff.mp h16
      rcases fr_ite h22 with h23 | h23
      ·
        obtain ⟨q37, e24, h25⟩ := Option.bind_eq_some_iff.mp h23
        have f26 : Fr (w1_f_X11_numberHere) (w2_f_X11_numberHere) S23 q37.2 := f15.tr (Fr.mo (fr_f_X11_fails e24) (fun a k q => by unfold w1_f_X11_fails at q; unfold w1_f_X11_numberHere; exact Or.inr (Or.inl (q))) (fun _ _ q => False.elim q))
        rcases fr_ite h25 with h27 | h27
        ·
          exact fr_e2 h27 f26
        ·
          exact fr_e2 h27 f26
      ·
        exact fr_e2 h23 f15
