def w1_j_X9_readClause_30 (a k : Nat) : Prop := (a = 1 ∧ k = 2) ∨ (a = 1 ∧ k = 3) ∨ (a = 1 ∧ k = 4) ∨ (a = 24 ∧ k = 6) ∨ (a = 24 ∧ k = 7) ∨ a = 26 ∨ a = 27 ∨ a = 28 ∨ (a = 31 ∧ k = 5) ∨ a = 32 ∨ a = 33 ∨ a = 34 ∨ a = 35
def w2_j_X9_readClause_30 (a k : Nat) : Prop := a = 25 ∨ a = 29 ∨ a = 36
theorem fr_j_X9_readClause_30 {p1 : Int32} {p2 : Int32} {S : fS} {r : Int32 × fS} (h : j_X9_readClause_30 p1 p2 S = some r) : Fr (w1_j_X9_readClause_30) (w2_j_X9_readClause_30) S r.2 := by
  unfold j_X9_readClause_30 at h
  exact (Fr.rf (S := S)).tr (Fr.mo (fr_j_X9_readClause_31 h) (fun a k q => by unfold w1_j_X9_readClause_31 at q; unfold w1_j_X9_readClause_30; rcases q with q | q | q | q | q | q | q | q | q | q | q | q | q; exact Or.inl (q); exact Or.inr (Or.inl (q)); exact Or.inr (Or.inr (Or.inl (q))); exact Or.inr (Or.inr (Or.inr (Or.inl (q)))); exact Or.inr (Or.inr (Or.inr (Or.inr (Or.inl (q))))); exact Or.inr (Or.inr (Or.inr (Or.inr (Or.inr (Or.inl (q)))))); exact Or.inr (Or.inr (Or.inr (Or.inr (Or.inr (Or.inr (Or.inl (q))))))); exact Or.inr (Or.inr (Or.inr (Or.inr (Or.inr (Or.inr (Or.inr (Or.inl (q)))))))); exact Or.inr (Or.inr (Or.inr (Or.inr (Or.inr (Or.inr (Or.inr (Or.inr (Or.inl (q))))))))); exact Or.inr (Or.inr (Or.inr (Or.inr (Or.inr (Or.inr (Or.inr (Or.inr (Or.inr (Or.inl (q)))))))))); exact Or.inr (Or.inr (Or.inr (Or.inr (Or.inr (Or.inr (Or.inr (Or.inr (Or.inr (Or.inr (Or.inl (q))))))))))); exact Or.inr (Or.inr (Or.inr (Or.inr (Or.inr (Or.inr (Or.inr (Or.inr (Or.inr (Or.inr (Or.inr (Or.inl (q)))))))))))); exact Or.inr (Or.inr (Or.inr (Or.inr (Or.inr (Or.inr (Or.inr (Or.inr (Or.inr (Or.inr (Or.inr (Or.inr ((q)))))))))))))) (fun a k q => by unfold w2_j_X9_readClause_31 at q; unfold w2_j_X9_readClause_30; rcases q with q | q | q; exact Or.inl (q); exact Or.inr (Or.inl (q)); exact Or.inr (Or.inr ((q)))))
def w1_f_X9_readClause (a k : Nat) : Prop := (a = 1 ∧ k = 2) ∨ (a = 1 ∧ k = 3) ∨ (a = 1 ∧ k = 4) ∨ (a = 24 ∧ k = 6) ∨ (a = 24 ∧ k = 7) ∨ a = 26 ∨ a = 27 ∨ a = 28 ∨ (a = 31 ∧ k = 5) ∨ a = 32 ∨ a = 33 ∨ a = 34 ∨ a = 35
def w2_f_X9_readClause (a k : Nat) : Prop := a = 25 ∨ a = 29 ∨ a = 36
theorem fr_f_X9_readClause {v1 : Int32} {S : fS} {r : Int32 × fS} (h : f_X9_readClause v1 S = some r) : Fr (w1_f_X9_readClause) (w2_f_X9_readClause) S r.2 := by
  unfold f_X9_readClause at h
  obtain ⟨q1, e1, h2⟩ := Option.bind_eq_some_iff.mp h
  have f3 : Fr (w1_f_X9_readClause) (w2_f_X9_readClause) S q1.2 := (Fr.rf (S := S)).tr (Fr.mo (fr_f_X7_takeWord e1) (fun a k q => by unfold w1_f_X7_takeWord at q; unfold w1_f_X9_readClause; rcases q with q | q; exact Or.inl (q); exact Or.inr (Or.inl (q))) (fun _ _ q => False.elim q))
  rcases fr_ite h2 with h4 | h4
  ·
    obtain ⟨q59, e5, h6⟩ := Option.bind_eq_some_iff.mp h4
    have f7 : Fr (w1_f_X9_readClause) (w2_f_X9_readClause) S q59.2 := f3.tr (Fr.mo (fr_f_X7_takeWord e5) (fun a k q => by unfold w1_f_X7_takeWord at q; unfold w1_f_X9_readClause; rcases q with q | q; exact Or.inl (q); exact Or.inr (Or.inl (q))) (fun _ _ q => False.elim q))
    rcases fr_ite h6 with h8 | h8
    ·
      exact f7.tr (Fr.mo (fr_j_X9_readClause_30 h8) (fun a k q => by unfold w1_j_X9_readClause_30 at q; unfold w1_f_X9_readClause; rcases q with q | q | q | q | q | q | q | q | q | q | q | q | q; exact Or.inl (q); exact Or.inr (Or.inl (q)); exact Or.inr (Or.inr (Or.inl (q))); exact Or.inr (Or.inr (Or.inr (Or.inl (q)))); exact Or.inr (Or.inr (Or.inr (Or.inr (Or.inl (q))))); exact Or.inr (Or.inr (Or.inr (Or.inr (Or.inr (Or.inl (q)))))); exact Or.inr (Or.inr (Or.inr (Or.inr (Or.inr (Or.inr (Or.inl (q))))))); exact Or.inr (Or.inr (Or.inr (Or.inr (Or.inr (Or.inr (Or.inr (Or.inl (q)))))))); exact Or.inr (Or.inr (Or.inr (Or.inr (Or.inr (Or.inr (Or.inr (Or.inr (Or.inl (q))))))))); exact Or.inr (Or.inr (Or.inr (Or.inr (Or.inr (Or.inr (Or.inr (Or.inr (Or.inr (Or.inl (q)))))))))); exact Or.inr (Or.inr (Or.inr (Or.inr (Or.inr (Or.inr (Or.inr (Or.inr (Or.inr (Or.inr (Or.inl (q))))))))))); exact Or.inr (Or.inr (Or.inr (Or.inr (Or.inr (Or.inr (Or.inr (Or.inr (Or.inr (Or.inr (Or.inr (Or.inl (q)))))))))))); exact Or.inr (Or.inr (Or.inr (Or.inr (Or.inr (Or.inr (Or.inr (Or.inr (Or.inr (Or.inr (Or.inr (Or.inr ((q)))))))))))))) (fun a k q => by unfold w2_j_X9_readClause_30 at q; unfold w2_f_X9_readClause; rcases q with q | q | q; exact Or.inl (q); exact Or.inr (Or.inl (q)); exact Or.inr (Or.inr ((q)))))
    ·
      exact f7.tr (Fr.mo (fr_j_X9_readClause_31 h8) (fun a k q => by unfold w1_j_X9_readClause_31 at q; unfold w1_f_X9_readClause; rcases q with q | q | q | q | q | q | q | q | q | q | q | q | q; exact Or.inl (q); exact Or.inr (Or.inl (q)); exact Or.inr (Or.inr (Or.inl (q))); exact Or.inr (Or.inr (Or.inr (Or.inl (q)))); exact Or.inr (Or.inr (Or.inr (Or.inr (Or.inl (q))))); exact Or.inr (Or.inr (Or.inr (Or.inr (Or.inr (Or.inl (q)))))); exact Or.inr (Or.inr (Or.inr (Or.inr (Or.inr (Or.inr (Or.inl (q))))))); exact Or.inr (Or.inr (Or.inr (Or.inr (Or.inr (Or.inr (Or.inr (Or.inl (q)))))))); exact Or.inr (Or.inr (Or.inr (Or.inr (Or.inr (Or.inr (Or.inr (Or.inr (Or.inl (q))))))))); exact Or.inr (Or.inr (Or.inr (Or.inr (Or.inr (Or.inr (Or.inr (Or.inr (Or.inr (Or.inl (q)))))))))); exact Or.inr (Or.inr (Or.inr (Or.inr (Or.inr (Or.inr (Or.inr (Or.inr (Or.inr (Or.inr (Or.inl (q))))))))))); exact Or.inr (Or.inr (Or.inr (Or.inr (Or.inr (Or.inr (Or.inr (Or.inr (Or.inr (Or.inr (Or.inr (Or.inl (q)))))))))))); exact Or.inr (Or.inr (Or.inr (Or.inr (Or.inr (Or.inr (Or.inr (Or.inr (Or.inr (Or.inr (Or.inr (Or.inr ((q)))))))))))))) (fun a k q => by unfold w2_j_X9_readClause_31 at q; unfold w2_f_X9_readClause; rcases q with q | q | q; exact Or.inl (q); exact Or.inr (Or.inl (q)); exact Or.inr (Or.inr ((q)))))
  ·
    exact f3.tr (Fr.mo (fr_j_X9_readClause_30 h4) (fun a k q => by unfold w1_j_X9_readClause_30 at q; unfold w1_f_X9_readClause; rcases q with q | q | q | q | q | q | q | q | q | q | q | q | q; exact Or.inl (q); exact Or.inr (Or.inl (q)); exact Or.inr (Or.inr (Or.inl (q))); exact Or.inr (Or.inr (Or.inr (Or.inl (q)))); exact Or.inr (Or.inr (Or.inr (Or.inr (Or.inl (q))))); exact Or.inr (Or.inr (Or.inr (Or.inr (Or.inr (Or.inl (q)))))); exact Or.inr (Or.inr (Or.inr (Or.inr (Or.inr (Or.inr (Or.inl (q))))))); exact Or.inr (Or.inr (Or.inr (Or.inr (Or.inr (Or.inr (Or.inr (Or.inl (q)))))))); exact Or.inr (Or.inr (Or.inr (Or.inr (Or.inr (Or.inr (Or.inr (Or.inr (Or.inl (q))))))))); exact Or.inr (Or.inr (Or.inr (Or.inr (Or.inr (Or.inr (Or.inr (Or.inr (Or.inr (Or.inl (q)))))))))); exact Or.inr (Or.inr (Or.inr (Or.inr (Or.inr (Or.inr (Or.inr (Or.inr (Or.inr (Or.inr (Or.inl (q))))))))))); exact Or.inr (Or.inr (Or.inr (Or.inr (Or.inr (Or.inr (Or.inr (Or.inr (Or.inr (Or.inr (Or.inr (Or.inl (q)))))))))))); exact Or.inr (Or.inr (Or.inr (Or.inr (Or.inr (Or.inr (Or.inr (Or.inr (Or.inr (Or.inr (Or.inr (Or.inr ((q)))))))))))))) (fun a k q => by unfold w2_j_X9_readClause_30 at q; unfold w2_f_X9_readClause; rcases q with q | q | q; exact Or.inl (q); exact Or.inr (Or.inl (q)); exact Or.inr (Or.inr ((q)))))
def w1_f_X7_isAtEnd (a k : Nat) : Prop := (a = 1 ∧ k = 2)
def w2_f_X7_isAtEnd (a k : Nat) : Prop := False
theorem fr_f_X7_isAtEnd {S : fS} {r : Int32 × fS} (h : f_X7_isAtEnd S = some r) : Fr (w1_f_X7_isAtEnd) (w2_f_X7_isAtEnd) S r.2 := by
  unfold f_X7_isAtEnd at h
  obtain ⟨q1, e1, h2⟩ := Option.bind_eq_some_iff.mp h
  have f3 : Fr (w1_f_X7_isAtEnd) (w2_f_X7_isAtEnd) S q1 := (Fr.rf (S := S)).tr (Fr.mo (fr_f_X7_skipBlanks e1) (fun a k q => by unfold w1_f_X7_skipBlanks at q; unfold w1_f_X7_isAtEnd; exact q) (fun _ _ q => False.elim q))
  rcases fr_ite h2 with h4 | h4
  ·
    exact fr_e2 h4 f3
  ·
    exact fr_e2 h4 f3
def w1_f_X8_shorten (v0 : Nat) (a k : Nat) : Prop := a = v0 + 6
def w2_f_X8_shorten (v0 : Nat) (a k : Nat) : Prop := False
theorem fr_f_X8_shorten {v0 : Nat} {v1 : Int32} {v2 : Int32} {v3 : Int32} {S : fS} {r : fS} (h : f_X8_shorten v0 v1 v2 v3 S = some r) : Fr (w1_f_X8_shorten v0) (w2_f_X8_shorten v0) S r := by
  unfold f_X8_shorten at h
  obtain ⟨q1, e1, h2⟩ := Option.bind_eq_some_iff.mp h
  rcases fr_ite h2 with h3 | h3
  ·
    obtain ⟨S5, e4, h5⟩ := Option.bind_eq_some_iff.mp h3
    have f6 : Fr (w1_f_X8_shorten v0) (w2_f_X8_shorten v0) S S5 := (Fr.rf (S := S)).tr (fr_sI e4 (fun k => by unfold w1_f_X8_shorten; exact rfl))
    exact fr_e1 h5 f6
  ·
    rcases fr_ite h3 with h7 | h7
    ·
      exact fr_e1 h7 (Fr.rf (S := S))
    ·
      obtain ⟨S9, e8, h9⟩ := Option.bind_eq_some_iff.mp h7
      have f10 : Fr (w1_f_X8_shorten v0) (w2_f_X8_shorten v0) S S9 := (Fr.rf (S := S)).tr (fr_sI e8 (fun k => by unfold w1_f_X8_shorten; exact rfl))
      exact fr_e1 h9 f10
def w1_lp_X8_measureWays_2 (p0 : Nat) (a k : Nat) : Prop := a = p0 + 6
def w2_lp_X8_measureWays_2 (p0 : Nat) (a k : Nat) : Prop := False
theorem fr_lp_X8_measureWays_2 {p0 : Nat} {K : fS → Option (fS)} {r : fS} {v1 v2 : Nat → Nat → Prop} (s1 : ∀ a k, w1_lp_X8_measureWays_2 p0 a k → v1 a k) (s2 : ∀ a k, w2_lp_X8_measureWays_2 p0 a k → v2 a k) (hK : ∀ (x0 : fS), K x0 = some r → Fr v1 v2 x0 r) : ∀ (n : Nat) (p1 : Int32) (S0 : fS), lp_X8_measureWays_2 p0 K n p1 S0 = some r → Fr v1 v2 S0 r := by
  intro n
  induction n with
  | zero => intro p1 S0 h; exact mm_no h
  | succ n ih =>
    intro p1 S0 h
    rw [lp_X8_measureWays_2.eq_2] at h
    rcases fr_ite h with h1 | h1
    ·
      exact (Fr.rf (S := S0)).tr (hK _ h1)
    ·
      obtain ⟨a2, e2, h3⟩ := Option.bind_eq_some_iff.mp h1
      obtain ⟨a5, e4, h5⟩ := Option.bind_eq_some_iff.mp h3
      rcases fr_ite h5 with h6 | h6
      ·
        obtain ⟨S12, e7, h8⟩ := Option.bind_eq_some_iff.mp h6
        have f9 : Fr v1 v2 S0 S12 := (Fr.rf (S := S0)).tr (fr_sI e7 (fun k => by refine s1 _ _ ?_; unfold w1_lp_X8_measureWays_2; exact rfl))
        exact f9.tr (ih _ _ h8)
      ·
        obtain ⟨S9, e10, h11⟩ := Option.bind_eq_some_iff.mp h6
        have f12 : Fr v1 v2 S0 S9 := (Fr.rf (S := S0)).tr (fr_sI e10 (fun k => by refine s1 _ _ ?_; unfold w1_lp_X8_measureWays_2; exact rfl))
        exact f12.tr (ih _ _ h11)
def w1_lp_X8_measureWays_38 (p0 : Nat) (a k : Nat) : Prop := a = p0 + 6
def w2_lp_X8_measureWays_38 (p0 : Nat) (a k : Nat) : Prop := False
theorem fr_lp_X8_measureWays_38 {p0 : Nat} {K : fS → Option (fS)} {r : fS} {v1 v2 : Nat → Nat → Prop} (s1 : ∀ a k, w1_lp_X8_measureWays_38 p0 a k → v1 a k) (s2 : ∀ a k, w2_lp_X8_measureWays_38 p0 a k → v2 a k) (hK : ∀ (x0 : fS), K x0 = some r → Fr v1 v2 x0 r) : ∀ (n : Nat) (p1 : Int32) (S0 : fS), lp_X8_measureWays_38 p0 K n p1 S0 = some r → Fr v1 v2 S0 r := by
  intro n
  induction n with
  | zero => intro p1 S0 h; exact mm_no h
  | succ n ih =>
    intro p1 S0 h
    rw [lp_X8_measureWays_38.eq_2] at h
    rcases fr_ite h with h1 | h1
    ·
      exact (Fr.rf (S := S0)).tr (hK _ h1)
    ·
      obtain ⟨a18, e2, h3⟩ := Option.bind_eq_some_iff.mp h1
      obtain ⟨a21, e4, h5⟩ := Option.bind_eq_some_iff.mp h3
      obtain ⟨a24, e6, h7⟩ := Option.bind_eq_some_iff.mp h5
      obtain ⟨q27, e8, h9⟩ := Option.bind_eq_some_iff.mp h7
      have f10 : Fr v1 v2 S0 q27 := (Fr.rf (S := S0)).tr (Fr.mo (fr_f_X8_shorten e8) (fun a k q => by refine s1 _ _ ?_; unfold w1_f_X8_shorten at q; unfold w1_lp_X8_measureWays_38; exact q) (fun _ _ q => False.elim q))
      obtain ⟨a30, e11, h12⟩ := Option.bind_eq_some_iff.mp h9
      obtain ⟨a33, e13, h14⟩ := Option.bind_eq_some_iff.mp h12
      obtain ⟨a36, e15, h16⟩ := Option.bind_eq_some_iff.mp h14
      obtain ⟨q39, e17, h18⟩ := Option.bind_eq_some_iff.mp h16
      have f19 : Fr v1 v2 S0 q39 := f10.tr (Fr.mo (fr_f_X8_shorten e17) (fun a k q => by refine s1 _ _ ?_; unfold w1_f_X8_shorten at q; unfold w1_lp_X8_measureWays_38; exact q) (fun _ _ q => False.elim q))
      exact f19.tr (ih _ _ h18)
def w1_lp_X8_measureWays_118 (p0 : Nat) (a k : Nat) : Prop := a = p0 + 6
def w2_lp_X8_measureWays_118 (p0 : Nat) (a k : Nat) : Prop := False
theorem fr_lp_X8_measureWays_118 {p0 : Nat} {p1 : Int32} {p2 : Int32} {K : fS → Option (fS)} {r : fS} {v1 v2 : Nat → Nat → Prop} (s1 : ∀ a k, w1_lp_X8_measureWays_118 p0 a k → v1 a k) (s2 : ∀ a k, w2_lp_X8_measureWays_118 p0 a k → v2 a k) (hK : ∀ (x0 : fS), K x0 = some r → Fr v1 v2 x0 r) : ∀ (n : Nat) (p3 : Int32) (S0 : fS), lp_X8_measureWays_118 p0 p1 p2 K n p3 S0 = some r → Fr v1 v2 S0 r := by
  intro n
  induction n with
  | zero => intro p3 S0 h; exact mm_no h
  | succ n ih =>
    intro p3 S0 h
    rw [lp_X8_measureWays_118.eq_2] at h
    rcases fr_ite h with h1 | h1
    ·
      exact (Fr.rf (S := S0)).tr (hK _ h1)
    ·
      obtain ⟨q47, e2, h3⟩ := Option.bind_eq_some_iff.mp h1
      obtain ⟨q50, e4, h5⟩ := Option.bind_eq_some_iff.mp h3
      rcases fr_ite h5 with h6 | h6
      ·
        exact (Fr.rf (S := S0)).tr (ih _ _ h6)
      ·
        rcases fr_ite h6 with h7 | h7
        ·
          exact (Fr.rf (S := S0)).tr (ih _ _ h7)
        ·
          obtain ⟨q55, e8, h9⟩ := Option.bind_eq_some_iff.mp h7
          have f10 : Fr v1 v2 S0 q55 := (Fr.rf (S := S0)).tr (Fr.mo (fr_f_X8_shorten e8) (fun a k q => by refine s1 _ _ ?_; unfold w1_f_X8_shorten at q; unfold w1_lp_X8_measureWays_118; exact q) (fun _ _ q => False.elim q))
          exact f10.tr (ih _ _ h9)
def w1_lp_X8_measureWays_108 (p0 : Nat) (a k : Nat) : Prop := a = p0 + 6
def w2_lp_X8_measureWays_108 (p0 : Nat) (a k : Nat) : Prop := False
theorem fr_lp_X8_measureWays_108 {p0 : Nat} {p1 : Int32} {K : fS → Option (fS)} {r : fS} {v1 v2 : Nat → Nat → Prop} (s1 : ∀ a k, w1_lp_X8_measureWays_108 p0 a k → v1 a k) (s2 : ∀ a k, w2_lp_X8_measureWays_108 p0 a k → v2 a k) (hK : ∀ (x0 : fS), K x0 = some r → Fr v1 v2 x0 r) : ∀ (n : Nat) (p2 : Int32) (S0 : fS), lp_X8_measureWays_108 p0 p1 K n p2 S0 = some r → Fr v1 v2 S0 r := by
  intro n
  induction n with
  | zero => intro p2 S0 h; exact mm_no h
  | succ n ih =>
    intro p2 S0 h
    rw [lp_X8_measureWays_108.eq_2] at h
    rcases fr_ite h with h1 | h1
    ·
      exact (Fr.rf (S := S0)).tr (hK _ h1)
    ·
      refine (Fr.rf (S := S0)).tr (fr_lp_X8_measureWays_118 (v1 := v1) (v2 := v2) (fun a k q => by refine s1 _ _ ?_; unfold w1_lp_X8_measureWays_118 at q; unfold w1_lp_X8_measureWays_108; exact q) (fun _ _ q => False.elim q) (fun S58 h2 => ?_) _ _ _ h1)
      exact (Fr.rf (S := S58)).tr (ih _ _ h2)
def w1_lp_X8_measureWays_98 (p0 : Nat) (a k : Nat) : Prop := a = p0 + 6
def w2_lp_X8_measureWays_98 (p0 : Nat) (a k : Nat) : Prop := False
theorem fr_lp_X8_measureWays_98 {p0 : Nat} {K : fS → Option (fS)} {r : fS} {v1 v2 : Nat → Nat → Prop} (s1 : ∀ a k, w1_lp_X8_measureWays_98 p0 a k → v1 a k) (s2 : ∀ a k, w2_lp_X8_measureWays_98 p0 a k → v2 a k) (hK : ∀ (x0 : fS), K x0 = some r → Fr v1 v2 x0 r) : ∀ (n : Nat) (p1 : Int32) (S0 : fS), lp_X8_measureWays_98 p0 K n p1 S0 = some r → Fr v1 v2 S0 r := by
  intro n
  induction n with
  | zero => intro p1 S0 h; exact mm_no h
  | succ n ih =>
    intro p1 S0 h
    rw [lp_X8_measureWays_98.eq_2] at h
    rcases fr_ite h with h1 | h1
    ·
      exact (Fr.rf (S := S0)).tr (hK _ h1)
    ·
      refine (Fr.rf (S := S0)).tr (fr_lp_X8_measureWays_108 (v1 := v1) (v2 := v2) (fun a k q => by refine s1 _ _ ?_; unfold w1_lp_X8_measureWays_108 at q; unfold w1_lp_X8_measureWays_98; exact q) (fun _ _ q => False.elim q) (fun S60 h2 => ?_) _ _ _ h1)
      exact (Fr.rf (S := S60)).tr (ih _ _ h2)
def w1_f_X8_measureWays (v0 : Nat) (a k : Nat) : Prop := a = v0 + 6
def w2_f_X8_measureWays (v0 : Nat) (a k : Nat) : Prop := False
theorem fr_f_X8_measureWays {v0 : Nat} {S : fS} {r : fS} (h : f_X8_measureWays v0 S = some r) : Fr (w1_f_X8_measureWays v0) (w2_f_X8_measureWays v0) S r := by
  unfold f_X8_measureWays at h
  refine (Fr.rf (S := S)).tr (fr_lp_X8_measureWays_2 (v1 := w1_f_X8_measureWays v0) (v2 := w2_f_X8_measureWays v0) (fun a k q => by unfold w1_lp_X8_measureWays_2 at q; unfold w1_f_X8_measureWays; exact q) (fun _ _ q => False.elim q) (fun S15 h1 => ?_) _ _ _ h)
  refine (Fr.rf (S := S15)).tr (fr_lp_X8_measureWays_38 (v1 := w1_f_X8_measureWays v0) (v2 := w2_f_X8_measureWays v0) (fun a k q => by unfold w1_lp_X8_measureWays_38 at q; unfold w1_f_X8_measureWays; exact q) (fun _ _ q => False.elim q) (fun S42 h2 => ?_) _ _ _ h1)
  refine (Fr.rf (S := S42)).tr (fr_lp_X8_measureWays_98 (v1 := w1_f_X8_measureWays v0) (v2 := w2_f_X8_measureWays v0) (fun a k q => by unfold w1_lp_X8_measureWays_98 at q; unfold w1_f_X8_measureWays; exact q) (fun _ _ q => False.elim q) (fun S62 h3 => ?_) _ _ _ h2)
  exact fr_e1 h3 (Fr.rf (S := S62))
def w1_f_X7_takeSign (a k : Nat) : Prop := (a = 1 ∧ k = 2) ∨ (a = 1 ∧ k = 3)
def w2_f_X7_takeSign (a k : Nat) : Prop := False
theorem fr_f_X7_takeSign {v1 : Int32} {S : fS} {r : Int32 × fS} (h : f_X7_takeSign v1 S = some r) : Fr (w1_f_X7_takeSign) (w2_f_X7_takeSign) S r.2 := by
  unfold f_X7_takeSign at h
  obtain ⟨q1, e1, h2⟩ := Option.bind_eq_some_iff.mp h
  have f3 : Fr (w1_f_X7_takeSign) (w2_f_X7_takeSign) S q1 := (Fr.rf (S := S)).tr (Fr.mo (fr_f_X7_skipBlanks e1) (fun a k q => by unfold w1_f_X7_skipBlanks at q; unfold w1_f_X7_takeSign; exact Or.inl (q)) (fun _ _ q => False.elim q))
  obtain ⟨q4, e4, h5⟩ := Option.bind_eq_some_iff.mp h2
  rcases fr_ite h5 with h6 | h6
  ·
    obtain ⟨S8, e7, h8⟩ := Option.bind_eq_some_iff.mp h6
    have f9 : Fr (w1_f_X7_takeSign) (w2_f_X7_takeSign) S S8 := f3.tr (fr_pI e7 (by unfold w1_f_X7_takeSign; exact Or.inr ((⟨rfl, rfl⟩))))
    obtain ⟨S11, e10, h11⟩ := Option.bind_eq_some_iff.mp h8
    have f12 : Fr (w1_f_X7_takeSign) (w2_f_X7_takeSign) S S11 := f9.tr (fr_pI e10 (by unfold w1_f_X7_takeSign; exact Or.inl (⟨rfl, rfl⟩)))
    exact fr_e2 h11 f12
  ·
    exact fr_e2 h6 f3
def w1_lp_X9_read_41 (a k : Nat) : Prop := (a = 1 ∧ k = 2) ∨ (a = 1 ∧ k = 3) ∨ (a = 1 ∧ k = 4) ∨ (a = 24 ∧ k = 6) ∨ (a = 24 ∧ k = 7) ∨ a = 26 ∨ a = 27 ∨ a = 28 ∨ a = 30 ∨ (a = 31 ∧ k = 5) ∨ a = 32 ∨ a = 33 ∨ a = 34 ∨ a = 35
def w2_lp_X9_read_41 (a k : Nat) : Prop := a = 25 ∨ a = 29 ∨ a = 36
theorem fr_lp_X9_read_41 {K : fS → Option (Int32 × fS)} {r : Int32 × fS} {v1 v2 : Nat → Nat → Prop} (s1 : ∀ a k, w1_lp_X9_read_41 a k → v1 a k) (s2 : ∀ a k, w2_lp_X9_read_41 a k → v2 a k) (hK : ∀ (x0 : fS), K x0 = some r → Fr v1 v2 x0 r.2) : ∀ (n : Nat) (p1 : Int32) (S0 : fS), lp_X9_read_41 K n p1 S0 = some r → Fr v1 v2 S0 r.2 := by
  intro n
  induction n with
  | zero => intro p1 S0 h; exact mm_no h
  | succ n ih =>
    intro p1 S0 h
    rw [lp_X9_read_41.eq_2] at h
    rcases fr_ite h with h1 | h1
    ·
      exact (Fr.rf (S := S0)).tr (hK _ h1)
    ·
      obtain ⟨q17, e2, h3⟩ := Option.bind_eq_some_iff.mp h1
      have f4 : Fr v1 v2 S0 q17.2 := (Fr.rf (S := S0)).tr (Fr.mo (fr_f_X9_readClause e2) (fun a k q => by refine s1 _ _ ?_; unfold w1_f_X9_readClause at q; unfold w1_lp_X9_read_41; rcases q with q | q | q | q | q | q | q | q | q | q | q | q | q; exact Or.inl (q); exact Or.inr (Or.inl (q)); exact Or.inr (Or.inr (Or.inl (q))); exact Or.inr (Or.inr (Or.inr (Or.inl (q)))); exact Or.inr (Or.inr (Or.inr (Or.inr (Or.inl (q))))); exact Or.inr (Or.inr (Or.inr (Or.inr (Or.inr (Or.inl (q)))))); exact Or.inr (Or.inr (Or.inr (Or.inr (Or.inr (Or.inr (Or.inl (q))))))); exact Or.inr (Or.inr (Or.inr (Or.inr (Or.inr (Or.inr (Or.inr (Or.inl (q)))))))); exact Or.inr (Or.inr (Or.inr (Or.inr (Or.inr (Or.inr (Or.inr (Or.inr (Or.inr (Or.inl (q)))))))))); exact Or.inr (Or.inr (Or.inr (Or.inr (Or.inr (Or.inr (Or.inr (Or.inr (Or.inr (Or.inr (Or.inl (q))))))))))); exact Or.inr (Or.inr (Or.inr (Or.inr (Or.inr (Or.inr (Or.inr (Or.inr (Or.inr (Or.inr (Or.inr (Or.inl (q)))))))))))); exact Or.inr (Or.inr (Or.inr (Or.inr (Or.inr (Or.inr (Or.inr (Or.inr (Or.inr (Or.inr (Or.inr (Or.inr (Or.inl (q))))))))))))); exact Or.inr (Or.inr (Or.inr (Or.inr (Or.inr (Or.inr (Or.inr (Or.inr (Or.inr (Or.inr (Or.inr (Or.inr (Or.inr ((q))))))))))))))) (fun a k q => by refine s2 _ _ ?_; unfold w2_f_X9_readClause at q; unfold w2_lp_X9_read_41; rcases q with q | q | q; exact Or.inl (q); exact Or.inr (Or.inl (q)); exact Or.inr (Or.inr ((q)))))
      rcases fr_ite h3 with h5 | h5
      ·
        exact fr_e2 h5 f4
      ·
        obtain ⟨q21, e6, h7⟩ := Option.bind_eq_some_iff.mp h5
        have f8 : Fr v1 v2 S0 q21.2 := f4.tr (Fr.mo (fr_f_X7_isAtEnd e6) (fun a k q => by refine s1 _ _ ?_; unfold w1_f_X7_isAtEnd at q; unfold w1_lp_X9_read_41; exact Or.inl (q)) (fun _ _ q => False.elim q))
        rcases fr_ite h7 with h9 | h9
        ·
          obtain ⟨q25, e10, h11⟩ := Option.bind_eq_some_iff.mp h9
          have f12 : Fr v1 v2 S0 q25.2 := f8.tr (Fr.mo (fr_f_X7_takeSign e10) (fun a k q => by refine s1 _ _ ?_; unfold w1_f_X7_takeSign at q; unfold w1_lp_X9_read_41; rcases q with q | q; exact Or.inl (q); exact Or.inr (Or.inl (q))) (fun _ _ q => False.elim q))
          rcases fr_ite h11 with h13 | h13
          ·
            obtain ⟨q29, e14, h15⟩ := Option.bind_eq_some_iff.mp h13
            have f16 : Fr v1 v2 S0 q29.2 := f12.tr (Fr.mo (fr_f_X7_fail e14) (fun a k q => by refine s1 _ _ ?_; unfold w1_f_X7_fail at q; unfold w1_lp_X9_read_41; exact Or.inr (Or.inr (Or.inl (q)))) (fun _ _ q => False.elim q))
            obtain ⟨z32, e17, h18⟩ := Option.bind_eq_some_iff.mp h15
            exact fr_e2 h18 f16
          ·
            exact f12.tr (ih _ _ h13)
        ·
          obtain ⟨q37, e19, h20⟩ := Option.bind_eq_some_iff.mp h9
          have f21 : Fr v1 v2 S0 q37 := f8.tr (Fr.mo (fr_f_X8_measureWays e19) (fun a k q => by refine s1 _ _ ?_; unfold w1_f_X8_measureWays at q; unfold w1_lp_X9_read_41; exact Or.inr (Or.inr (Or.inr (Or.inr (Or.inr (Or.inr (Or.inr (Or.inr (Or.inl (q)))))))))) (fun _ _ q => False.elim q))
          exact fr_e2 h20 f21
def w1_f_X9_read (a k : Nat) : Prop := (a = 1 ∧ k = 2) ∨ (a = 1 ∧ k = 3) ∨ (a = 1 ∧ k = 4) ∨ (a = 24 ∧ k = 6) ∨ (a = 24 ∧ k = 7) ∨ a = 26 ∨ a = 27 ∨ a = 28 ∨ a = 30 ∨ (a = 31 ∧ k = 5) ∨ (a = 31 ∧ k = 6) ∨ a = 32 ∨ a = 33 ∨ a = 34 ∨ a = 35
def w2_f_X9_read (a k : Nat) : Prop := a = 25 ∨ a = 29 ∨ a = 36
theorem fr_f_X9_read {S : fS} {r : Int32 × fS} (h : f_X9_read S = some r) : Fr (w1_f_X9_read) (w2_f_X9_read) S r.2 := by
  unfold f_X9_read at h
  obtain ⟨S1, e1, h2⟩ := Option.bind_eq_some_iff.mp h
  have f3 : Fr (w1_f_X9_read) (w2_f_X9_read) S S1 := (Fr.rf (S := S)).tr (fr_pI e1 (by unfold w1_f_X9_read; exact Or.inr (Or.inr (Or.inr (Or.inl (⟨rfl, rfl⟩))))))
  obtain ⟨S4, e4, h5⟩ := Option.bind_eq_some_iff.mp h2
  have f6 : Fr (w1_f_X9_read) (w2_f_X9_read) S S4 := f3.tr (fr_pI e4 (by unfold w1_f_X9_read; exact Or.inr (Or.inr (Or.inr (Or.inr (Or.inl (⟨rfl, rfl⟩)))))))
  obtain ⟨S7, e7, h8⟩ := Option.bind_eq_some_iff.mp h5
  have f9 : Fr (w1_f_X9_read) (w2_f_X9_read) S S7 := f6.tr (fr_pI e7 (by unfold w1_f_X9_read; exact Or.inr (Or.inr (Or.inr (Or.inr (Or.inr (Or.inr (Or.inr (Or.inr (Or.inr (Or.inl (⟨rfl, rfl⟩))))))))))))
  obtain ⟨S10, e10, h11⟩ := Option.bind_eq_some_iff.mp h8
  have f12 : Fr (w1_f_X9_read) (w2_f_X9_read) S S10 := f9.tr (fr_pI e10 (by unfold w1_f_X9_read; exact Or.inr (Or.inr (Or.inr (Or.inr (Or.inr (Or.inr (Or.inr (Or.inr (Or.inr (Or.inr (Or.inl (⟨rfl, rfl⟩)))))))))))))
  obtain ⟨q13, e13, h14⟩ := Option.bind_eq_some_iff.mp h11
  have f15 : Fr (w1_f_X9_read) (w2_f_X9_read) S q13 := f12.tr (Fr.mo (fr_f_X7_rewind e13) (fun a k q => by unfold w1_f_X7_rewind at q; unfold w1_f_X9_read; rcases q with q | q | q; exact Or.inl (q); exact Or.inr (Or.inl (q)); exact Or.inr (Or.inr (Or.inl (q)))) (fun _ _ q => False.elim q))
  refine f15.tr (fr_lp_X9_read_41 (v1 := w1_f_X9_read) (v2 := w2_f_X9_read) (fun a k q => by unfold w1_lp_X9_read_41 at q; unfold w1_f_X9_read; rcases q with q | q | q | q | q | q | q | q | q | q | q | q | q | q; exact Or.inl (q); exact Or.inr (Or.inl (q)); exact Or.inr (Or.inr (Or.inl (q))); exact Or.inr (Or.inr (Or.inr (Or.inl (q)))); exact Or.inr (Or.inr (Or.inr (Or.inr (Or.inl (q))))); exact Or.inr (Or.inr (Or.inr (Or.inr (Or.inr (Or.inl (q)))))); exact Or.inr (Or.inr (Or.inr (Or.inr (Or.inr (Or.inr (Or.inl (q))))))); exact Or.inr (Or.inr (Or.inr (Or.inr (Or.inr (Or.inr (Or.inr (Or.inl (q)))))))); exact Or.inr (Or.inr (Or.inr (Or.inr (Or.inr (Or.inr (Or.inr (Or.inr (Or.inl (q))))))))); exact Or.inr (Or.inr (Or.inr (Or.inr (Or.inr (Or.inr (Or.inr (Or.inr (Or.inr (Or.inl (q)))))))))); exact Or.inr (Or.inr (Or.inr (Or.inr (Or.inr (Or.inr (Or.inr (Or.inr (Or.inr (Or.inr (Or.inr (Or.inl (q)))))))))))); exact Or.inr (Or.inr (Or.inr (Or.inr (Or.inr (Or.inr (Or.inr (Or.inr (Or.inr (Or.inr (Or.inr (Or.inr (Or.inl (q))))))))))))); exact Or.inr (Or.inr (Or.inr (Or.inr (Or.inr (Or.inr (Or.inr (Or.inr (Or.inr (Or.inr (Or.inr (Or.inr (Or.inr (Or.inl (q)))))))))))))); exact Or.inr (Or.inr (Or.inr (Or.inr (Or.inr (Or.inr (Or.inr (Or.inr (Or.inr (Or.inr (Or.inr (Or.inr (Or.inr (Or.inr ((q)))))))))))))))) (fun a k q => by unfold w2_lp_X9_read_41 at q; unfold w2_f_X9_read; rcases q with q | q | q; exact Or.inl (q); exact Or.inr (Or.inl (q)); exact Or.inr (Or.inr ((q)))) (fun S40 h16 => ?_) _ _ _ h14)
  exact fr_e2 h16 (Fr.rf (S := S40))
def w1_f_X8_copyFrom (v0 : Nat) (v1 : Nat) (a k : Nat) : Prop := (a = v0 ∧ k = 6) ∨ (a = v0 ∧ k = 7) ∨ a = v0 + 2 ∨ a = v0 + 3 ∨ a = v0 + 4 ∨ a = v0 + 6
def w2_f_X8_copyFrom (v0 : Nat) (v1 : Nat) (a k : Nat) : Prop := a = v0 + 1 ∨ a = v0 + 5
theorem fr_f_X8_copyFrom {v0 : Nat} {v1 : Nat} {S : fS} {r : fS} (h : f_X8_copyFrom v0 v1 S = some r) : Fr (w1_f_X8_copyFrom v0 v1) (w2_f_X8_copyFrom v0 v1) S r := by
  unfold f_X8_copyFrom at h
  obtain ⟨S1, e1, h2⟩ := Option.bind_eq_some_iff.mp h
  have f3 : Fr (w1_f_X8_copyFrom v0 v1) (w2_f_X8_copyFrom v0 v1) S S1 := (Fr.rf (S := S)).tr (fr_cL e1 (fun k => by unfold w2_f_X8_copyFrom; exact Or.inl (rfl)))
  obtain ⟨S4, e4, h5⟩ := Option.bind_eq_some_iff.mp h2
  have f6 : Fr (w1_f_X8_copyFrom v0 v1) (w2_f_X8_copyFrom v0 v1) S S4 := f3.tr (fr_cI e4 (fun k => by unfold w1_f_X8_copyFrom; exact Or.inr (Or.inr (Or.inl (rfl)))))
  obtain ⟨S7, e7, h8⟩ := Option.bind_eq_some_iff.mp h5
  have f9 : Fr (w1_f_X8_copyFrom v0 v1) (w2_f_X8_copyFrom v0 v1) S S7 := f6.tr (fr_cI e7 (fun k => by unfold w1_f_X8_copyFrom; exact Or.inr (Or.inr (Or.inr (Or.inl (rfl))))))
  obtain ⟨S10, e10, h11⟩ := Option.bind_eq_some_iff.mp h8
  have f12 : Fr (w1_f_X8_copyFrom v0 v1) (w2_f_X8_copyFrom v0 v1) S S10 := f9.tr (fr_cI e10 (fun k => by unfold w1_f_X8_copyFrom; exact Or.inr (Or.inr (Or.inr (Or.inr (Or.inl (rfl)))))))
  obtain ⟨S13, e13, h14⟩ := Option.bind_eq_some_iff.mp h11
  have f15 : Fr (w1_f_X8_copyFrom v0 v1) (w2_f_X8_copyFrom v0 v1) S S13 := f12.tr (fr_cL e13 (fun k => by unfold w2_f_X8_copyFrom; exact Or.inr ((rfl))))
  obtain ⟨S16, e16, h17⟩ := Option.bind_eq_some_iff.mp h14
  have f18 : Fr (w1_f_X8_copyFrom v0 v1) (w2_f_X8_copyFrom v0 v1) S S16 := f15.tr (fr_cI e16 (fun k => by unfold w1_f_X8_copyFrom; exact Or.inr (Or.inr (Or.inr (Or.inr (Or.inr ((rfl))))))))
  obtain ⟨S19, e19, h20⟩ := Option.bind_eq_some_iff.mp h17
  have f21 : Fr (w1_f_X8_copyFrom v0 v1) (w2_f_X8_copyFrom v0 v1) S S19 := f18.tr (fr_pI e19 (by unfold w1_f_X8_copyFrom; exact Or.inl (⟨rfl, rfl⟩)))
  obtain ⟨S22, e22, h23⟩ := Option.bind_eq_some_iff.mp h20
  have f24 : Fr (w1_f_X8_copyFrom v0 v1) (w2_f_X8_copyFrom v0 v1) S S22 := f21.tr (fr_pI e22 (by unfold w1_f_X8_copyFrom; exact Or.inr (Or.inl (⟨rfl, rfl⟩))))
  exact fr_e1 h23 f24
def w1_f_X0_copyFrom (v0 : Nat) (v1 : Nat) (a k : Nat) : Prop := (a = v0 ∧ k = 5) ∨ (a = v0 ∧ k = 6) ∨ a = v0 + 1 ∨ a = v0 + 2 ∨ a = v0 + 3 ∨ a = v0 + 4
def w2_f_X0_copyFrom (v0 : Nat) (v1 : Nat) (a k : Nat) : Prop := a = v0 + 5
theorem fr_f_X0_copyFrom {v0 : Nat} {v1 : Nat} {S : fS} {r : fS} (h : f_X0_copyFrom v0 v1 S = some r) : Fr (w1_f_X0_copyFrom v0 v1) (w2_f_X0_copyFrom v0 v1) S r := by
  unfold f_X0_copyFrom at h
  obtain ⟨S1, e1, h2⟩ := Option.bind_eq_some_iff.mp h
  have f3 : Fr (w1_f_X0_copyFrom v0 v1) (w2_f_X0_copyFrom v0 v1) S S1 := (Fr.rf (S := S)).tr (fr_cI e1 (fun k => by unfold w1_f_X0_copyFrom; exact Or.inr (Or.inr (Or.inl (rfl)))))
  obtain ⟨S4, e4, h5⟩ := Option.bind_eq_some_iff.mp h2
  have f6 : Fr (w1_f_X0_copyFrom v0 v1) (w2_f_X0_copyFrom v0 v1) S S4 := f3.tr (fr_cI e4 (fun k => by unfold w1_f_X0_copyFrom; exact Or.inr (Or.inr (Or.inr (Or.inl (rfl))))))
  obtain ⟨S7, e7, h8⟩ := Option.bind_eq_some_iff.mp h5
  have f9 : Fr (w1_f_X0_copyFrom v0 v1) (w2_f_X0_copyFrom v0 v1) S S7 := f6.tr (fr_cI e7 (fun k => by unfold w1_f_X0_copyFrom; exact Or.inr (Or.inr (Or.inr (Or.inr (Or.inl (rfl)))))))
  obtain ⟨S10, e10, h11⟩ := Option.bind_eq_some_iff.mp h8
  have f12 : Fr (w1_f_X0_copyFrom v0 v1) (w2_f_X0_copyFrom v0 v1) S S10 := f9.tr (fr_cI e10 (fun k => by unfold w1_f_X0_copyFrom; exact Or.inr (Or.inr (Or.inr (Or.inr (Or.inr ((rfl))))))))
  obtain ⟨S13, e13, h14⟩ := Option.bind_eq_some_iff.mp h11
  have f15 : Fr (w1_f_X0_copyFrom v0 v1) (w2_f_X0_copyFrom v0 v1) S S13 := f12.tr (fr_cL e13 (fun k => by unfold w2_f_X0_copyFrom; exact rfl))
  obtain ⟨S16, e16, h17⟩ := Option.bind_eq_some_iff.mp h14
  have f18 : Fr (w1_f_X0_copyFrom v0 v1) (w2_f_X0_copyFrom v0 v1) S S16 := f15.tr (fr_pI e16 (by unfold w1_f_X0_copyFrom; exact Or.inl (⟨rfl, rfl⟩)))
  obtain ⟨S19, e19, h20⟩ := Option.bind_eq_some_iff.mp h17
  have f21 : Fr (w1_f_X0_copyFrom v0 v1) (w2_f_X0_copyFrom v0 v1) S S19 := f18.tr (fr_pI e19 (by unfold w1_f_X0_copyFrom; exact Or.inr (Or.inl (⟨rfl, rfl⟩))))
  exact fr_e1 h20 f21
def w1_f_X10_tower (a k : Nat) : Prop := (a = 1 ∧ k = 1) ∨ (a = 1 ∧ k = 2) ∨ (a = 1 ∧ k = 3) ∨ (a = 1 ∧ k = 4) ∨ (a = 4 ∧ k = 6) ∨ (a = 4 ∧ k = 7) ∨ a = 6 ∨ a = 7 ∨ a = 8 ∨ a = 10 ∨ (a = 11 ∧ k = 5) ∨ (a = 11 ∧ k = 6) ∨ a = 12 ∨ a = 13 ∨ a = 14 ∨ a = 15 ∨ (a = 17 ∧ k = 4) ∨ (a = 24 ∧ k = 6) ∨ (a = 24 ∧ k = 7) ∨ a = 26 ∨ a = 27 ∨ a = 28 ∨ a = 30 ∨ (a = 31 ∧ k = 5) ∨ (a = 31 ∧ k = 6) ∨ a = 32 ∨ a = 33 ∨ a = 34 ∨ a = 35
def w2_f_X10_tower (a k : Nat) : Prop := a = 5 ∨ a = 9 ∨ a = 16 ∨ a = 25 ∨ a = 29 ∨ a = 36
theorem fr_f_X10_tower {S : fS} {r : Int32 × fS} (h : f_X10_tower S = some r) : Fr (w1_f_X10_tower) (w2_f_X10_tower) S r.2 := by
  unfold f_X10_tower at h
  obtain ⟨q1, e1, h2⟩ := Option.bind_eq_some_iff.mp h
  have f3 : Fr (w1_f_X10_tower) (w2_f_X10_tower) S q1.2 := (Fr.rf (S := S)).tr (Fr.mo (fr_f_X9_read e1) (fun a k q => by unfold w1_f_X9_read at q; unfold w1_f_X10_tower; rcases q with q | q | q | q | q | q | q | q | q | q | q | q | q | q | q; exact Or.inr (Or.inl (q)); exact Or.inr (Or.inr (Or.inl (q))); exact Or.inr (Or.inr (Or.inr (Or.inl (q)))); exact Or.inr (Or.inr (Or.inr (Or.inr (Or.inr (Or.inr (Or.inr (Or.inr (Or.inr (Or.inr (Or.inr (Or.inr (Or.inr (Or.inr (Or.inr (Or.inr (Or.inr (Or.inl (q)))))))))))))))))); exact Or.inr (Or.inr (Or.inr (Or.inr (Or.inr (Or.inr (Or.inr (Or.inr (Or.inr (Or.inr (Or.inr (Or.inr (Or.inr (Or.inr (Or.inr (Or.inr (Or.inr (Or.inr (Or.inl (q))))))))))))))))))); exact Or.inr (Or.inr (Or.inr (Or.inr (Or.inr (Or.inr (Or.inr (Or.inr (Or.inr (Or.inr (Or.inr (Or.inr (Or.inr (Or.inr (Or.inr (Or.inr (Or.inr (Or.inr (Or.inr (Or.inl (q)))))))))))))))))))); exact Or.inr (Or.inr (Or.inr (Or.inr (Or.inr (Or.inr (Or.inr (Or.inr (Or.inr (Or.inr (Or.inr (Or.inr (Or.inr (Or.inr (Or.inr (Or.inr (Or.inr (Or.inr (Or.inr (Or.inr (Or.inl (q))))))))))))))))))))); exact Or.inr (Or.inr (Or.inr (Or.inr (Or.inr (Or.inr (Or.inr (Or.inr (Or.inr (Or.inr (Or.inr (Or.inr (Or.inr (Or.inr (Or.inr (Or.inr (Or.inr (Or.inr (Or.inr (Or.inr (Or.inr (Or.inl (q)))))))))))))))))))))); exact Or.inr (Or.inr (Or.inr (Or.inr (Or.inr (Or.inr (Or.inr (Or.inr (Or.inr (Or.inr (Or.inr (Or.inr (Or.inr (Or.inr (Or.inr (Or.inr (Or.inr (Or.inr (Or.inr (Or.inr (Or.inr (Or.inr (Or.inl (q))))))))))))))))))))))); exact Or.inr (Or.inr (Or.inr (Or.inr (Or.inr (Or.inr (Or.inr (Or.inr (Or.inr (Or.inr (Or.inr (Or.inr (Or.inr (Or.inr (Or.inr (Or.inr (Or.inr (Or.inr (Or.inr (Or.inr (Or.inr (Or.inr (Or.inr (Or.inl (q)))))))))))))))))))))))); exact Or.inr (Or.inr (Or.inr (Or.inr (Or.inr (Or.inr (Or.inr (Or.inr (Or.inr (Or.inr (Or.inr (Or.inr (Or.inr (Or.inr (Or.inr (Or.inr (Or.inr (Or.inr (Or.inr (Or.inr (Or.inr (Or.inr (Or.inr (Or.inr (Or.inl (q))))))))))))))))))))))))); exact Or.inr (Or.inr (Or.inr (Or.inr (Or.inr (Or.inr (Or.inr (Or.inr (Or.inr (Or.inr (Or.inr (Or.inr (Or.inr (Or.inr (Or.inr (Or.inr (Or.inr (Or.inr (Or.inr (Or.inr (Or.inr (Or.inr (Or.inr (Or.inr (Or.inr (Or.inl (q)))))))))))))))))))))))))); exact Or.inr (Or.inr (Or.inr (Or.inr (Or.inr (Or.inr (Or.inr (Or.inr (Or.inr (Or.inr (Or.inr (Or.inr (Or.inr (Or.inr (Or.inr (Or.inr (Or.inr (Or.inr (Or.inr (Or.inr (Or.inr (Or.inr (Or.inr (Or.inr (Or.inr (Or.inr (Or.inl (q))))))))))))))))))))))))))); exact Or.inr (Or.inr (Or.inr (Or.inr (Or.inr (Or.inr (Or.inr (Or.inr (Or.inr (Or.inr (Or.inr (Or.inr (Or.inr (Or.inr (Or.inr (Or.inr (Or.inr (Or.inr (Or.inr (Or.inr (Or.inr (Or.inr (Or.inr (Or.inr (Or.inr (Or.inr (Or.inr (Or.inl (q)))))))))))))))))))))))))))); exact Or.inr (Or.inr (Or.inr (Or.inr (Or.inr (Or.inr (Or.inr (Or.inr (Or.inr (Or.inr (Or.inr (Or.inr (Or.inr (Or.inr (Or.inr (Or.inr (Or.inr (Or.inr (Or.inr (Or.inr (Or.inr (Or.inr (Or.inr (Or.inr (Or.inr (Or.inr (Or.inr (Or.inr ((q)))))))))))))))))))))))))))))) (fun a k q => by unfold w2_f_X9_read at q; unfold w2_f_X10_tower; rcases q with q | q | q; exact Or.inr (Or.inr (Or.inr (Or.inl (q)))); exact Or.inr (Or.inr (Or.inr (Or.inr (Or.inl (q))))); exact Or.inr (Or.inr (Or.inr (Or.inr (Or.inr ((q))))))))
  obtain ⟨S4, e4, h5⟩ := Option.bind_eq_some_iff.mp h2
  have f6 : Fr (w1_f_X10_tower) (w2_f_X10_tower) S S4 := f3.tr (fr_pI e4 (by unfold w1_f_X10_tower; exact Or.inl (⟨rfl, rfl⟩)))
  rcases fr_ite h5 with h7 | h7
  ·
    exact fr_e2 h7 f6
  ·
    obtain ⟨q8, e8, h9⟩ := Option.bind_eq_some_iff.mp h7
    have f10 : Fr (w1_f_X10_tower) (w2_f_X10_tower) S q8 := f6.tr (Fr.mo (fr_f_X8_copyFrom e8) (fun a k q => by unfold w1_f_X8_copyFrom at q; unfold w1_f_X10_tower; rcases q with q | q | q | q | q | q; exact Or.inr (Or.inr (Or.inr (Or.inr (Or.inl (q))))); exact Or.inr (Or.inr (Or.inr (Or.inr (Or.inr (Or.inl (q)))))); exact Or.inr (Or.inr (Or.inr (Or.inr (Or.inr (Or.inr (Or.inl (q))))))); exact Or.inr (Or.inr (Or.inr (Or.inr (Or.inr (Or.inr (Or.inr (Or.inl (q)))))))); exact Or.inr (Or.inr (Or.inr (Or.inr (Or.inr (Or.inr (Or.inr (Or.inr (Or.inl (q))))))))); exact Or.inr (Or.inr (Or.inr (Or.inr (Or.inr (Or.inr (Or.inr (Or.inr (Or.inr (Or.inl (q))))))))))) (fun a k q => by unfold w2_f_X8_copyFrom at q; unfold w2_f_X10_tower; rcases q with q | q; exact Or.inl (q); exact Or.inr (Or.inl (q))))
    obtain ⟨q11, e11, h12⟩ := Option.bind_eq_some_iff.mp h9
    have f13 : Fr (w1_f_X10_tower) (w2_f_X10_tower) S q11 := f10.tr (Fr.mo (fr_f_X0_copyFrom e11) (fun a k q => by unfold w1_f_X0_copyFrom at q; unfold w1_f_X10_tower; rcases q with q | q | q | q | q | q; exact Or.inr (Or.inr (Or.inr (Or.inr (Or.inr (Or.inr (Or.inr (Or.inr (Or.inr (Or.inr (Or.inl (q))))))))))); exact Or.inr (Or.inr (Or.inr (Or.inr (Or.inr (Or.inr (Or.inr (Or.inr (Or.inr (Or.inr (Or.inr (Or.inl (q)))))))))))); exact Or.inr (Or.inr (Or.inr (Or.inr (Or.inr (Or.inr (Or.inr (Or.inr (Or.inr (Or.inr (Or.inr (Or.inr (Or.inl (q))))))))))))); exact Or.inr (Or.inr (Or.inr (Or.inr (Or.inr (Or.inr (Or.inr (Or.inr (Or.inr (Or.inr (Or.inr (Or.inr (Or.inr (Or.inl (q)))))))))))))); exact Or.inr (Or.inr (Or.inr (Or.inr (Or.inr (Or.inr (Or.inr (Or.inr (Or.inr (Or.inr (Or.inr (Or.inr (Or.inr (Or.inr (Or.inl (q))))))))))))))); exact Or.inr (Or.inr (Or.inr (Or.inr (Or.inr (Or.inr (Or.inr (Or.inr (Or.inr (Or.inr (Or.inr (Or.inr (Or.inr (Or.inr (Or.inr (Or.inl (q))))))))))))))))) (fun a k q => by unfold w2_f_X0_copyFrom at q; unfold w2_f_X10_tower; exact Or.inr (Or.inr (Or.inl (q)))))
    obtain ⟨S14, e14, h15⟩ := Option.bind_eq_some_iff.mp h12
    have f16 : Fr (w1_f_X10_tower) (w2_f_X10_tower) S S14 := f13.tr (fr_pI e14 (by unfold w1_f_X10_tower; exact Or.inr (Or.inr (Or.inr (Or.inr (Or.inr (Or.inr (Or.inr (Or.inr (Or.inr (Or.inr (Or.inr (Or.inr (Or.inr (Or.inr (Or.inr (Or.inr (Or.inl (⟨rfl, rfl⟩)))))))))))))))))))
    exact fr_e2 h15 f16
def w1_f_X5_hold (a k : Nat) : Prop := (a = 38 ∧ k = 4) ∨ a = 39
def w2_f_X5_hold (a k : Nat) : Prop := False
theorem fr_f_X5_hold {v1 : Int32} {S : fS} {r : fS} (h : f_X5_hold v1 S = some r) : Fr (w1_f_X5_hold) (w2_f_X5_hold) S r := by
  unfold f_X5_hold at h
  rcases fr_ite h with h1 | h1
  ·
    exact fr_e1 h1 (Fr.rf (S := S))
  ·
    rcases fr_ite h1 with h2 | h2
    ·
      exact fr_e1 h2 (Fr.rf (S := S))
    ·
      obtain ⟨S3, e3, h4⟩ := Option.bind_eq_some_iff.mp h2
      have f5 : Fr (w1_f_X5_hold) (w2_f_X5_hold) S S3 := (Fr.rf (S := S)).tr (fr_sI e3 (fun k => by unfold w1_f_X5_hold; exact Or.inr ((rfl))))
      obtain ⟨S6, e6, h7⟩ := Option.bind_eq_some_iff.mp h4
      have f8 : Fr (w1_f_X5_hold) (w2_f_X5_hold) S S6 := f5.tr (fr_pI e6 (by unfold w1_f_X5_hold; exact Or.inl (⟨rfl, rfl⟩)))
      exact fr_e1 h7 f8
def w1_lp_X5_readOpenings_2 (a k : Nat) : Prop := (a = 1 ∧ k = 2) ∨ (a = 1 ∧ k = 3) ∨ (a = 1 ∧ k = 4) ∨ (a = 38 ∧ k = 4) ∨ (a = 38 ∧ k = 5) ∨ (a = 38 ∧ k = 6) ∨ a = 39
def w2_lp_X5_readOpenings_2 (a k : Nat) : Prop := False
theorem fr_lp_X5_readOpenings_2 {K : fS → Option (Int32 × fS)} {r : Int32 × fS} {v1 v2 : Nat → Nat → Prop} (s1 : ∀ a k, w1_lp_X5_readOpenings_2 a k → v1 a k) (s2 : ∀ a k, w2_lp_X5_readOpenings_2 a k → v2 a k) (hK : ∀ (x0 : fS), K x0 = some r → Fr v1 v2 x0 r.2) : ∀ (n : Nat) (p1 : Int32) (S0 : fS), lp_X5_readOpenings_2 K n p1 S0 = some r → Fr v1 v2 S0 r.2 := by
  intro n
  induction n with
  | zero => intro p1 S0 h; exact mm_no h
  | succ n ih =>
    intro p1 S0 h
    rw [lp_X5_readOpenings_2.eq_2] at h
    rcases fr_ite h with h1 | h1
    ·
      exact (Fr.rf (S := S0)).tr (hK _ h1)
    ·
      obtain ⟨q2, e2, h3⟩ := Option.bind_eq_some_iff.mp h1
      have f4 : Fr v1 v2 S0 q2.2 := (Fr.rf (S := S0)).tr (Fr.mo (fr_f_X7_takeWord e2) (fun a k q => by refine s1 _ _ ?_; unfold w1_f_X7_takeWord at q; unfold w1_lp_X5_readOpenings_2; rcases q with q | q; exact Or.inl (q); exact Or.inr (Or.inl (q))) (fun _ _ q => False.elim q))
      rcases fr_ite h3 with h5 | h5
      ·
        obtain ⟨q39, e6, h7⟩ := Option.bind_eq_some_iff.mp h5
        have f8 : Fr v1 v2 S0 q39.2 := f4.tr (Fr.mo (fr_f_X7_takeSign e6) (fun a k q => by refine s1 _ _ ?_; unfold w1_f_X7_takeSign at q; unfold w1_lp_X5_readOpenings_2; rcases q with q | q; exact Or.inl (q); exact Or.inr (Or.inl (q))) (fun _ _ q => False.elim q))
        rcases fr_ite h7 with h9 | h9
        ·
          exact fr_e2 h9 f8
        ·
          rcases fr_ite h9 with h10 | h10
          ·
            obtain ⟨S44, e11, h12⟩ := Option.bind_eq_some_iff.mp h10
            have f13 : Fr v1 v2 S0 S44 := f8.tr (fr_pI e11 (by refine s1 _ _ ?_; unfold w1_lp_X5_readOpenings_2; exact Or.inr (Or.inr (Or.inr (Or.inr (Or.inr (Or.inl (⟨rfl, rfl⟩))))))))
            rcases fr_ite h12 with h14 | h14
            ·
              obtain ⟨S48, e15, h16⟩ := Option.bind_eq_some_iff.mp h14
              have f17 : Fr v1 v2 S0 S48 := f13.tr (fr_pI e15 (by refine s1 _ _ ?_; unfold w1_lp_X5_readOpenings_2; exact Or.inr (Or.inr (Or.inr (Or.inr (Or.inl (⟨rfl, rfl⟩)))))))
              rcases fr_ite h16 with h18 | h18
              ·
                obtain ⟨q52, e19, h20⟩ := Option.bind_eq_some_iff.mp h18
                have f21 : Fr v1 v2 S0 q52 := f17.tr (Fr.mo (fr_f_X5_hold e19) (fun a k q => by refine s1 _ _ ?_; unfold w1_f_X5_hold at q; unfold w1_lp_X5_readOpenings_2; rcases q with q | q; exact Or.inr (Or.inr (Or.inr (Or.inl (q)))); exact Or.inr (Or.inr (Or.inr (Or.inr (Or.inr (Or.inr ((q)))))))) (fun _ _ q => False.elim q))
                exact f21.tr (ih _ _ h20)
              ·
                obtain ⟨q55, e22, h23⟩ := Option.bind_eq_some_iff.mp h18
                have f24 : Fr v1 v2 S0 q55 := f17.tr (Fr.mo (fr_f_X5_hold e22) (fun a k q => by refine s1 _ _ ?_; unfold w1_f_X5_hold at q; unfold w1_lp_X5_readOpenings_2; rcases q with q | q; exact Or.inr (Or.inr (Or.inr (Or.inl (q)))); exact Or.inr (Or.inr (Or.inr (Or.inr (Or.inr (Or.inr ((q)))))))) (fun _ _ q => False.elim q))
                exact f24.tr (ih _ _ h23)
            ·
              obtain ⟨S58, e25, h26⟩ := Option.bind_eq_some_iff.mp h14
              have f27 : Fr v1 v2 S0 S58 := f13.tr (fr_pI e25 (by refine s1 _ _ ?_; unfold w1_lp_X5_readOpenings_2; exact Or.inr (Or.inr (Or.inr (Or.inr (Or.inl (⟨rfl, rfl⟩)))))))
              rcases fr_ite h26 with h28 | h28
              ·
                obtain ⟨q62, e29, h30⟩ := Option.bind_eq_some_iff.mp h28
                have f31 : Fr v1 v2 S0 q62 := f27.tr (Fr.mo (fr_f_X5_hold e29) (fun a k q => by refine s1 _ _ ?_; unfold w1_f_X5_hold at q; unfold w1_lp_X5_readOpenings_2; rcases q with q | q; exact Or.inr (Or.inr (Or.inr (Or.inl (q)))); exact Or.inr (Or.inr (Or.inr (Or.inr (Or.inr (Or.inr ((q)))))))) (fun _ _ q => False.elim q))
                exact f31.tr (ih _ _ h30)
              ·
                obtain ⟨q65, e32, h33⟩ := Option.bind_eq_some_iff.mp h28
                have f34 : Fr v1 v2 S0 q65 := f27.tr (Fr.mo (fr_f_X5_hold e32) (fun a k q => by refine s1 _ _ ?_; unfold w1_f_X5_hold at q; unfold w1_lp_X5_readOpenings_2; rcases q with q | q; exact Or.inr (Or.inr (Or.inr (Or.inl (q)))); exact Or.inr (Or.inr (Or.inr (Or.inr (Or.inr (Or.inr ((q)))))))) (fun _ _ q => False.elim q))
                exact f34.tr (ih _ _ h33)
          ·
            obtain ⟨q68, e35, h36⟩ := Option.bind_eq_some_iff.mp h10
            have f37 : Fr v1 v2 S0 q68.2 := f8.tr (Fr.mo (fr_f_X7_fail e35) (fun a k q => by refine s1 _ _ ?_; unfold w1_f_X7_fail at q; unfold w1_lp_X5_readOpenings_2; exact Or.inr (Or.inr (Or.inl (q)))) (fun _ _ q => False.elim q))
            obtain ⟨z71, e38, h39⟩ := Option.bind_eq_some_iff.mp h36
            exact fr_e2 h39 f37
      ·
        rcases fr_ite h5 with h40 | h40
        ·
          obtain ⟨S7, e41, h42⟩ := Option.bind_eq_some_iff.mp h40
          have f43 : Fr v1 v2 S0 S7 := f4.tr (fr_pI e41 (by refine s1 _ _ ?_; unfold w1_lp_X5_readOpenings_2; exact Or.inr (Or.inr (Or.inr (Or.inr (Or.inr (Or.inl (⟨rfl, rfl⟩))))))))
          rcases fr_ite h42 with h44 | h44
          ·
            obtain ⟨S11, e45, h46⟩ := Option.bind_eq_some_iff.mp h44
            have f47 : Fr v1 v2 S0 S11 := f43.tr (fr_pI e45 (by refine s1 _ _ ?_; unfold w1_lp_X5_readOpenings_2; exact Or.inr (Or.inr (Or.inr (Or.inr (Or.inl (⟨rfl, rfl⟩)))))))
            rcases fr_ite h46 with h48 | h48
            ·
              obtain ⟨q15, e49, h50⟩ := Option.bind_eq_some_iff.mp h48
              have f51 : Fr v1 v2 S0 q15 := f47.tr (Fr.mo (fr_f_X5_hold e49) (fun a k q => by refine s1 _ _ ?_; unfold w1_f_X5_hold at q; unfold w1_lp_X5_readOpenings_2; rcases q with q | q; exact Or.inr (Or.inr (Or.inr (Or.inl (q)))); exact Or.inr (Or.inr (Or.inr (Or.inr (Or.inr (Or.inr ((q)))))))) (fun _ _ q => False.elim q))
              exact f51.tr (ih _ _ h50)
            ·
              obtain ⟨q18, e52, h53⟩ := Option.bind_eq_some_iff.mp h48
              have f54 : Fr v1 v2 S0 q18 := f47.tr (Fr.mo (fr_f_X5_hold e52) (fun a k q => by refine s1 _ _ ?_; unfold w1_f_X5_hold at q; unfold w1_lp_X5_readOpenings_2; rcases q with q | q; exact Or.inr (Or.inr (Or.inr (Or.inl (q)))); exact Or.inr (Or.inr (Or.inr (Or.inr (Or.inr (Or.inr ((q)))))))) (fun _ _ q => False.elim q))
              exact f54.tr (ih _ _ h53)
          ·
            obtain ⟨S21, e55, h56⟩ := Option.bind_eq_some_iff.mp h44
            have f57 : Fr v1 v2 S0 S21 := f43.tr (fr_pI e55 (by refine s1 _ _ ?_; unfold w1_lp_X5_readOpenings_2; exact Or.inr (Or.inr (Or.inr (Or.inr (Or.inl (⟨rfl, rfl⟩)))))))
            rcases fr_ite h56 with h58 | h58
            ·
              obtain ⟨q25, e59, h60⟩ := Option.bind_eq_some_iff.mp h58
              have f61 : Fr v1 v2 S0 q25 := f57.tr (Fr.mo (fr_f_X5_hold e59) (fun a k q => by refine s1 _ _ ?_; unfold w1_f_X5_hold at q; unfold w1_lp_X5_readOpenings_2; rcases q with q | q; exact Or.inr (Or.inr (Or.inr (Or.inl (q)))); exact Or.inr (Or.inr (Or.inr (Or.inr (Or.inr (Or.inr ((q)))))))) (fun _ _ q => False.elim q))
              exact f61.tr (ih _ _ h60)
            ·
              obtain ⟨q28, e62, h63⟩ := Option.bind_eq_some_iff.mp h58
              have f64 : Fr v1 v2 S0 q28 := f57.tr (Fr.mo (fr_f_X5_hold e62) (fun a k q => by refine s1 _ _ ?_; unfold w1_f_X5_hold at q; unfold w1_lp_X5_readOpenings_2; rcases q with q | q; exact Or.inr (Or.inr (Or.inr (Or.inl (q)))); exact Or.inr (Or.inr (Or.inr (Or.inr (Or.inr (Or.inr ((q)))))))) (fun _ _ q => False.elim q))
              exact f64.tr (ih _ _ h63)
        ·
          obtain ⟨q31, e65, h66⟩ := Option.bind_eq_some_iff.mp h40
          have f67 : Fr v1 v2 S0 q31.2 := f4.tr (Fr.mo (fr_f_X7_fail e65) (fun a k q => by refine s1 _ _ ?_; unfold w1_f_X7_fail at q; unfold w1_lp_X5_readOpenings_2; exact Or.inr (Or.inr (Or.inl (q)))) (fun _ _ q => False.elim q))
          obtain ⟨z34, e68, h69⟩ := Option.bind_eq_some_iff.mp h66
          exact fr_e2 h69 f67
def w1_f_X5_readOpenings (a k : Nat) : Prop := (a = 1 ∧ k = 2) ∨ (a = 1 ∧ k = 3) ∨ (a = 1 ∧ k = 4) ∨ (a = 38 ∧ k = 4) ∨ (a = 38 ∧ k = 5) ∨ (a = 38 ∧ k = 6) ∨ a = 39
def w2_f_X5_readOpenings (a k : Nat) : Prop := False
theorem fr_f_X5_readOpenings {S : fS} {r : Int32 × fS} (h : f_X5_readOpenings S = some r) : Fr (w1_f_X5_readOpenings) (w2_f_X5_readOpenings) S r.2 := by
  unfold f_X5_readOpenings at h
  refine (Fr.rf (S := S)).tr (fr_lp_X5_readOpenings_2 (v1 := w1_f_X5_readOpenings) (v2 := w2_f_X5_readOpenings) (fun a k q => by unfold w1_lp_X5_readOpenings_2 at q; unfold w1_f_X5_readOpenings; rcases q with q | q | q | q | q | q | q; exact Or.inl (q); exact Or.inr (Or.inl (q)); exact Or.inr (Or.inr (Or.inl (q))); exact Or.inr (Or.inr (Or.inr (Or.inl (q)))); exact Or.inr (Or.inr (Or.inr (Or.inr (Or.inl (q))))); exact Or.inr (Or.inr (Or.inr (Or.inr (Or.inr (Or.inl (q)))))); exact Or.inr (Or.inr (Or.inr (Or.inr (Or.inr (Or.inr ((q)))))))) (fun _ _ q => False.elim q) (fun S76 h1 => ?_) _ _ _ h)
  exact fr_e2 h1 (Fr.rf (S := S76))
def w1_f_X5_takeName (a k : Nat) : Prop := (a = 1 ∧ k = 2) ∨ (a = 1 ∧ k = 3)
def w2_f_X5_takeName (a k : Nat) : Prop := False
theorem fr_f_X5_takeName {S : fS} {r : Int32 × fS} (h : f_X5_takeName S = some r) : Fr (w1_f_X5_takeName) (w2_f_X5_takeName) S r.2 := by
  unfold f_X5_takeName at h
  obtain ⟨q1, e1, h2⟩ := Option.bind_eq_some_iff.mp h
  have f3 : Fr (w1_f_X5_takeName) (w2_f_X5_takeName) S q1.2 := (Fr.rf (S := S)).tr (Fr.mo (fr_f_X7_takeWord e1) (fun a k q => by unfold w1_f_X7_takeWord at q; unfold w1_f_X5_takeName; rcases q with q | q; exact Or.inl (q); exact Or.inr ((q))) (fun _ _ q => False.elim q))
  rcases fr_ite h2 with h4 | h4
  ·
    obtain ⟨q5, e5, h6⟩ := Option.bind_eq_some_iff.mp h4
    have f7 : Fr (w1_f_X5_takeName) (w2_f_X5_takeName) S q5.2 := f3.tr (Fr.mo (fr_f_X7_takeWord e5) (fun a k q => by unfold w1_f_X7_takeWord at q; unfold w1_f_X5_takeName; rcases q with q | q; exact Or.inl (q); exact Or.inr ((q))) (fun _ _ q => False.elim q))
    rcases fr_ite h6 with h8 | h8
    ·
      obtain ⟨q9, e9, h10⟩ := Option.bind_eq_some_iff.mp h8
      have f11 : Fr (w1_f_X5_takeName) (w2_f_X5_takeName) S q9.2 := f7.tr (Fr.mo (fr_f_X7_takeWord e9) (fun a k q => by unfold w1_f_X7_takeWord at q; unfold w1_f_X5_takeName; rcases q with q | q; exact Or.inl (q); exact Or.inr ((q))) (fun _ _ q => False.elim q))
      rcases fr_ite h10 with h12 | h12
      ·
        obtain ⟨q13, e13, h14⟩ := Option.bind_eq_some_iff.mp h12
        have f15 : Fr (w1_f_X5_takeName) (w2_f_X5_takeName) S q13.2 := f11.tr (Fr.mo (fr_f_X7_takeWord e13) (fun a k q => by unfold w1_f_X7_takeWord at q; unfold w1_f_X5_takeName; rcases q with q | q; exact Or.inl (q); exact Or.inr ((q))) (fun _ _ q => False.elim q))
        rcases fr_ite h14 with h16 | h16
        ·
          obtain ⟨q17, e17, h18⟩ := Option.bind_eq_some_iff.mp h16
          have f19 : Fr (w1_f_X5_takeName) (w2_f_X5_takeName) S q17.2 := f15.tr (Fr.mo (fr_f_X7_takeWord e17) (fun a k q => by unfold w1_f_X7_takeWord at q; unfold w1_f_X5_takeName; rcases q with q | q; exact Or.inl (q); exact Or.inr ((q))) (fun _ _ q => False.elim q))
          rcases fr_ite h18 with h20 | h20
          ·
            obtain ⟨q21, e21, h22⟩ := Option.bind_eq_some_iff.mp h20
            have f23 : Fr (w1_f_X5_takeName) (w2_f_X5_takeName) S q21.2 := f19.tr (Fr.mo (fr_f_X7_takeWord e21) (fun a k q => by unfold w1_f_X7_takeWord at q; unfold w1_f_X5_takeName; rcases q with q | q; exact Or.inl (q); exact Or.inr ((q))) (fun _ _ q => False.elim q))
            rcases fr_ite h22 with h24 | h24
            ·
              obtain ⟨q25, e25, h26⟩ := Option.bind_eq_some_iff.mp h24
              have f27 : Fr (w1_f_X5_takeName) (w2_f_X5_takeName) S q25.2 := f23.tr (Fr.mo (fr_f_X7_takeWord e25) (fun a k q => by unfold w1_f_X7_takeWord at q; unfold w1_f_X5_takeName; rcases q with q | q; exact Or.inl (q); exact Or.inr ((q))) (fun _ _ q => False.elim q))
              rcases fr_ite h26 with h28 | h28
              ·
                obtain ⟨q29, e29, h30⟩ := Option.bind_eq_some_iff.mp h28
                have f31 : Fr (w1_f_X5_takeName) (w2_f_X5_takeName) S q29.2 := f27.tr (Fr.mo (fr_f_X7_takeWord e29) (fun a k q => by unfold w1_f_X7_takeWord at q; unfold w1_f_X5_takeName; rcases q with q | q; exact Or.inl (q); exact Or.inr ((q))) (fun _ _ q => False.elim q))
                rcases fr_ite h30 with h32 | h32
                ·
                  exact fr_e2 h32 f31
                ·
                  exact fr_e2 h32 f31
              ·
                exact fr_e2 h28 f27
            ·
              exact fr_e2 h24 f23
          ·
            exact fr_e2 h20 f19
        ·
          exact fr_e2 h16 f15
      ·
        exact fr_e2 h12 f11
    ·
      exact fr_e2 h8 f7
  ·
    exact fr_e2 h4 f3
def w1_f_X5_isRoomForOne (a k : Nat) : Prop := (a = 1 ∧ k = 4) ∨ (a = 38 ∧ k = 3)
def w2_f_X5_isRoomForOne (a k : Nat) : Prop := False
theorem fr_f_X5_isRoomForOne {S : fS} {r : Int32 × fS} (h : f_X5_isRoomForOne S = some r) : Fr (w1_f_X5_isRoomForOne) (w2_f_X5_isRoomForOne) S r.2 := by
  unfold f_X5_isRoomForOne at h
  rcases fr_ite h with h1 | h1
  ·
    obtain ⟨S2, e2, h3⟩ := Option.bind_eq_some_iff.mp h1
    have f4 : Fr (w1_f_X5_isRoomForOne) (w2_f_X5_isRoomForOne) S S2 := (Fr.rf (S := S)).tr (fr_pI e2 (by unfold w1_f_X5_isRoomForOne; exact Or.inr ((⟨rfl, rfl⟩))))
    exact fr_e2 h3 f4
  ·
    obtain ⟨q5, e5, h6⟩ := Option.bind_eq_some_iff.mp h1
    have f7 : Fr (w1_f_X5_isRoomForOne) (w2_f_X5_isRoomForOne) S q5.2 := (Fr.rf (S := S)).tr (Fr.mo (fr_f_X7_fail e5) (fun a k q => by unfold w1_f_X7_fail at q; unfold w1_f_X5_isRoomForOne; exact Or.inl (q)) (fun _ _ q => False.elim q))
    obtain ⟨z8, e8, h9⟩ := Option.bind_eq_some_iff.mp h6
    exact fr_e2 h9 f7
def w1_f_X4_write (v0 : Nat) (a k : Nat) : Prop := (a = v0 ∧ k = 2) ∨ a = v0 + 1
def w2_f_X4_write (v0 : Nat) (a k : Nat) : Prop := False
theorem fr_f_X4_write {v0 : Nat} {v1 : Int32} {v2 : Int32} {S : fS} {r : fS} (h : f_X4_write v0 v1 v2 S = some r) : Fr (w1_f_X4_write v0) (w2_f_X4_write v0) S r := by
  unfold f_X4_write at h
  rcases fr_ite h with h1 | h1
  ·
    exact fr_e1 h1 (Fr.rf (S := S))
  ·
    obtain ⟨S2, e2, h3⟩ := Option.bind_eq_some_iff.mp h1
    have f4 : Fr (w1_f_X4_write v0) (w2_f_X4_write v0) S S2 := (Fr.rf (S := S)).tr (fr_sI e2 (fun k => by unfold w1_f_X4_write; exact Or.inr ((rfl))))
    obtain ⟨S5, e5, h6⟩ := Option.bind_eq_some_iff.mp h3
    have f7 : Fr (w1_f_X4_write v0) (w2_f_X4_write v0) S S5 := f4.tr (fr_pI e5 (by unfold w1_f_X4_write; exact Or.inl (⟨rfl, rfl⟩)))
    exact fr_e1 h6 f7
def w1_f_X5_readValue (a k : Nat) : Prop := (a = 1 ∧ k = 2) ∨ (a = 1 ∧ k = 3) ∨ (a = 1 ∧ k = 4) ∨ (a = 38 ∧ k = 3) ∨ (a = 40 ∧ k = 2) ∨ a = 41
def w2_f_X5_readValue (a k : Nat) : Prop := False
theorem fr_f_X5_readValue {S : fS} {r : Int32 × fS} (h : f_X5_readValue S = some r) : Fr (w1_f_X5_readValue) (w2_f_X5_readValue) S r.2 := by
  unfold f_X5_readValue at h
  obtain ⟨q1, e1, h2⟩ := Option.bind_eq_some_iff.mp h
  have f3 : Fr (w1_f_X5_readValue) (w2_f_X5_readValue) S q1 := (Fr.rf (S := S)).tr (Fr.mo (fr_f_X7_skipBlanks e1) (fun a k q => by unfold w1_f_X7_skipBlanks at q; unfold w1_f_X5_readValue; exact Or.inl (q)) (fun _ _ q => False.elim q))
  obtain ⟨q4, e4, h5⟩ := Option.bind_eq_some_iff.mp h2
  rcases fr_ite h5 with h6 | h6
  ·
    obtain ⟨q8, e7, h8⟩ := Option.bind_eq_some_iff.mp h6
    have f9 : Fr (w1_f_X5_readValue) (w2_f_X5_readValue) S q8.2 := f3.tr (Fr.mo (fr_f_X5_takeName e7) (fun a k q => by unfold w1_f_X5_takeName at q; unfold w1_f_X5_readValue; rcases q with q | q; exact Or.inl (q); exact Or.inr (Or.inl (q))) (fun _ _ q => False.elim q))
    rcases fr_ite h8 with h10 | h10
    ·
      rcases fr_ite h10 with h11 | h11
      ·
        obtain ⟨q13, e12, h13⟩ := Option.bind_eq_some_iff.mp h11
        have f14 : Fr (w1_f_X5_readValue) (w2_f_X5_readValue) S q13.2 := f9.tr (Fr.mo (fr_f_X5_isRoomForOne e12) (fun a k q => by unfold w1_f_X5_isRoomForOne at q; unfold w1_f_X5_readValue; rcases q with q | q; exact Or.inr (Or.inr (Or.inl (q))); exact Or.inr (Or.inr (Or.inr (Or.inl (q))))) (fun _ _ q => False.elim q))
        rcases fr_ite h13 with h15 | h15
        ·
          exact fr_e2 h15 f14
        ·
          rcases fr_ite h15 with h16 | h16
          ·
            obtain ⟨q18, e17, h18⟩ := Option.bind_eq_some_iff.mp h16
            have f19 : Fr (w1_f_X5_readValue) (w2_f_X5_readValue) S q18 := f14.tr (Fr.mo (fr_f_X4_write e17) (fun a k q => by unfold w1_f_X4_write at q; unfold w1_f_X5_readValue; rcases q with q | q; exact Or.inr (Or.inr (Or.inr (Or.inr (Or.inl (q))))); exact Or.inr (Or.inr (Or.inr (Or.inr (Or.inr ((q))))))) (fun _ _ q => False.elim q))
            exact fr_e2 h18 f19
          ·
            obtain ⟨q21, e20, h21⟩ := Option.bind_eq_some_iff.mp h16
            have f22 : Fr (w1_f_X5_readValue) (w2_f_X5_readValue) S q21 := f14.tr (Fr.mo (fr_f_X4_write e20) (fun a k q => by unfold w1_f_X4_write at q; unfold w1_f_X5_readValue; rcases q with q | q; exact Or.inr (Or.inr (Or.inr (Or.inr (Or.inl (q))))); exact Or.inr (Or.inr (Or.inr (Or.inr (Or.inr ((q))))))) (fun _ _ q => False.elim q))
            exact fr_e2 h21 f22
      ·
        exact fr_e2 h11 f9
    ·
      rcases fr_ite h10 with h23 | h23
      ·
        obtain ⟨q37, e24, h25⟩ := Option.bind_eq_some_iff.mp h23
        have f26 : Fr (w1_f_X5_readValue) (w2_f_X5_readValue) S q37.2 := f9.tr (Fr.mo (fr_f_X7_fail e24) (fun a k q => by unfold w1_f_X7_fail at q; unfold w1_f_X5_readValue; exact Or.inr (Or.inr (Or.inl (q)))) (fun _ _ q => False.elim q))
        obtain ⟨z40, e27, h28⟩ := Option.bind_eq_some_iff.mp h25
        exact fr_e2 h28 f26
      ·
        rcases fr_ite h23 with h29 | h29
        ·
          obtain ⟨q26, e30, h31⟩ := Option.bind_eq_some_iff.mp h29
          have f32 : Fr (w1_f_X5_readValue) (w2_f_X5_readValue) S q26.2 := f9.tr (Fr.mo (fr_f_X5_isRoomForOne e30) (fun a k q => by unfold w1_f_X5_isRoomForOne at q; unfold w1_f_X5_readValue; rcases q with q | q; exact Or.inr (Or.inr (Or.inl (q))); exact Or.inr (Or.inr (Or.inr (Or.inl (q))))) (fun _ _ q => False.elim q))
          rcases fr_ite h31 with h33 | h33
          ·
            exact fr_e2 h33 f32
          ·
            rcases fr_ite h33 with h34 | h34
            ·
              obtain ⟨q31, e35, h36⟩ := Option.bind_eq_some_iff.mp h34
              have f37 : Fr (w1_f_X5_readValue) (w2_f_X5_readValue) S q31 := f32.tr (Fr.mo (fr_f_X4_write e35) (fun a k q => by unfold w1_f_X4_write at q; unfold w1_f_X5_readValue; rcases q with q | q; exact Or.inr (Or.inr (Or.inr (Or.inr (Or.inl (q))))); exact Or.inr (Or.inr (Or.inr (Or.inr (Or.inr ((q))))))) (fun _ _ q => False.elim q))
              exact fr_e2 h36 f37
            ·
              obtain ⟨q34, e38, h39⟩ := Option.bind_eq_some_iff.mp h34
              have f40 : Fr (w1_f_X5_readValue) (w2_f_X5_readValue) S q34 := f32.tr (Fr.mo (fr_f_X4_write e38) (fun a k q => by unfold w1_f_X4_write at q; unfold w1_f_X5_readValue; rcases q with q | q; exact Or.inr (Or.inr (Or.inr (Or.inr (Or.inl (q))))); exact Or.inr (Or.inr (Or.inr (Or.inr (Or.inr ((q))))))) (fun _ _ q => False.elim q))
              exact fr_e2 h39 f40
        ·
          exact fr_e2 h29 f9
  ·
    obtain ⟨q45, e41, h42⟩ := Option.bind_eq_some_iff.mp h6
    have f43 : Fr (w1_f_X5_readValue) (w2_f_X5_readValue) S q45.2 := f3.tr (Fr.mo (fr_f_X7_takeNumber e41) (fun a k q => by unfold w1_f_X7_takeNumber at q; unfold w1_f_X5_readValue; rcases q with q | q | q; exact Or.inl (q); exact Or.inr (Or.inl (q)); exact Or.inr (Or.inr (Or.inl (q)))) (fun _ _ q => False.elim q))
    rcases fr_ite h42 with h44 | h44
    ·
      rcases fr_ite h44 with h45 | h45
      ·
        obtain ⟨q50, e46, h47⟩ := Option.bind_eq_some_iff.mp h45
        have f48 : Fr (w1_f_X5_readValue) (w2_f_X5_readValue) S q50.2 := f43.tr (Fr.mo (fr_f_X5_isRoomForOne e46) (fun a k q => by unfold w1_f_X5_isRoomForOne at q; unfold w1_f_X5_readValue; rcases q with q | q; exact Or.inr (Or.inr (Or.inl (q))); exact Or.inr (Or.inr (Or.inr (Or.inl (q))))) (fun _ _ q => False.elim q))
        rcases fr_ite h47 with h49 | h49
        ·
          exact fr_e2 h49 f48
        ·
          rcases fr_ite h49 with h50 | h50
          ·
            obtain ⟨q55, e51, h52⟩ := Option.bind_eq_some_iff.mp h50
            have f53 : Fr (w1_f_X5_readValue) (w2_f_X5_readValue) S q55 := f48.tr (Fr.mo (fr_f_X4_write e51) (fun a k q => by unfold w1_f_X4_write at q; unfold w1_f_X5_readValue; rcases q with q | q; exact Or.inr (Or.inr (Or.inr (Or.inr (Or.inl (q))))); exact Or.inr (Or.inr (Or.inr (Or.inr (Or.inr ((q))))))) (fun _ _ q => False.elim q))
            exact fr_e2 h52 f53
          ·
            obtain ⟨q58, e54, h55⟩ := Option.bind_eq_some_iff.mp h50
            have f56 : Fr (w1_f_X5_readValue) (w2_f_X5_readValue) S q58 := f48.tr (Fr.mo (fr_f_X4_write e54) (fun a k q => by unfold w1_f_X4_write at q; unfold w1_f_X5_readValue; rcases q with q | q; exact Or.inr (Or.inr (Or.inr (Or.inr (Or.inl (q))))); exact Or.inr (Or.inr (Or.inr (Or.inr (Or.inr ((q))))))) (fun _ _ q => False.elim q))
            exact fr_e2 h55 f56
      ·
        exact fr_e2 h45 f43
    ·
      rcases fr_ite h44 with h57 | h57
      ·
        obtain ⟨q74, e58, h59⟩ := Option.bind_eq_some_iff.mp h57
        have f60 : Fr (w1_f_X5_readValue) (w2_f_X5_readValue) S q74.2 := f43.tr (Fr.mo (fr_f_X7_fail e58) (fun a k q => by unfold w1_f_X7_fail at q; unfold w1_f_X5_readValue; exact Or.inr (Or.inr (Or.inl (q)))) (fun _ _ q => False.elim q))
        obtain ⟨z77, e61, h62⟩ := Option.bind_eq_some_iff.mp h59
        exact fr_e2 h62 f60
      ·
        rcases fr_ite h57 with h63 | h63
        ·
          obtain ⟨q63, e64, h65⟩ := Option.bind_eq_some_iff.mp h63
          have f66 : Fr (w1_f_X5_readValue) (w2_f_X5_readValue) S q63.2 := f43.tr (Fr.mo (fr_f_X5_isRoomForOne e64) (fun a k q => by unfold w1_f_X5_isRoomForOne at q; unfold w1_f_X5_readValue; rcases q with q | q; exact Or.inr (Or.inr (Or.inl (q))); exact Or.inr (Or.inr (Or.inr (Or.inl (q))))) (fun _ _ q => False.elim q))
          rcases fr_ite h65 with h67 | h67
          ·
            exact fr_e2 h67 f66
          ·
            rcases fr_ite h67 with h68 | h68
            ·
              obtain ⟨q68, e69, h70⟩ := Option.bind_eq_some_iff.mp h68
              have f71 : Fr (w1_f_X5_readValue) (w2_f_X5_readValue) S q68 := f66.tr (Fr.mo (fr_f_X4_write e69) (fun a k q => by unfold w1_f_X4_write at q; unfold w1_f_X5_readValue; rcases q with q | q; exact Or.inr (Or.inr (Or.inr (Or.inr (Or.inl (q))))); exact Or.inr (Or.inr (Or.inr (Or.inr (Or.inr ((q))))))) (fun _ _ q => False.elim q))
              exact fr_e2 h70 f71
            ·
              obtain ⟨q71, e72, h73⟩ := Option.bind_eq_some_iff.mp h68
              have f74 : Fr (w1_f_X5_readValue) (w2_f_X5_readValue) S q71 := f66.tr (Fr.mo (fr_f_X4_write e72) (fun a k q => by unfold w1_f_X4_write at q; unfold w1_f_X5_readValue; rcases q with q | q; exact Or.inr (Or.inr (Or.inr (Or.inr (Or.inl (q))))); exact Or.inr (Or.inr (Or.inr (Or.inr (Or.inr ((q))))))) (fun _ _ q => False.elim q))
              exact fr_e2 h73 f74
        ·
          exact fr_e2 h63 f43
def w1_f_X5_takeReckoning (a k : Nat) : Prop := (a = 1 ∧ k = 2) ∨ (a = 1 ∧ k = 3)
def w2_f_X5_takeReckoning (a k : Nat) : Prop := False
theorem fr_f_X5_takeReckoning {S : fS} {r : Int32 × fS} (h : f_X5_takeReckoning S = some r) : Fr (w1_f_X5_takeReckoning) (w2_f_X5_takeReckoning) S r.2 := by
  unfold f_X5_takeReckoning at h
  obtain ⟨q1, e1, h2⟩ := Option.bind_eq_some_iff.mp h
  have f3 : Fr (w1_f_X5_takeReckoning) (w2_f_X5_takeReckoning) S q1.2 := (Fr.rf (S := S)).tr (Fr.mo (fr_f_X7_takeSign e1) (fun a k q => by unfold w1_f_X7_takeSign at q; unfold w1_f_X5_takeReckoning; rcases q with q | q; exact Or.inl (q); exact Or.inr ((q))) (fun _ _ q => False.elim q))
  rcases fr_ite h2 with h4 | h4
  ·
    obtain ⟨q5, e5, h6⟩ := Option.bind_eq_some_iff.mp h4
    have f7 : Fr (w1_f_X5_takeReckoning) (w2_f_X5_takeReckoning) S q5.2 := f3.tr (Fr.mo (fr_f_X7_takeSign e5) (fun a k q => by unfold w1_f_X7_takeSign at q; unfold w1_f_X5_takeReckoning; rcases q with q | q; exact Or.inl (q); exact Or.inr ((q))) (fun _ _ q => False.elim q))
    rcases fr_ite h6 with h8 | h8
    ·
      obtain ⟨q9, e9, h10⟩ := Option.bind_eq_some_iff.mp h8
      have f11 : Fr (w1_f_X5_takeReckoning) (w2_f_X5_takeReckoning) S q9.2 := f7.tr (Fr.mo (fr_f_X7_takeSign e9) (fun a k q => by unfold w1_f_X7_takeSign at q; unfold w1_f_X5_takeReckoning; rcases q with q | q; exact Or.inl (q); exact Or.inr ((q))) (fun _ _ q => False.elim q))
      rcases fr_ite h10 with h12 | h12
      ·
        obtain ⟨q13, e13, h14⟩ := Option.bind_eq_some_iff.mp h12
        have f15 : Fr (w1_f_X5_takeReckoning) (w2_f_X5_takeReckoning) S q13.2 := f11.tr (Fr.mo (fr_f_X7_takeSign e13) (fun a k q => by unfold w1_f_X7_takeSign at q; unfold w1_f_X5_takeReckoning; rcases q with q | q; exact Or.inl (q); exact Or.inr ((q))) (fun _ _ q => False.elim q))
        rcases fr_ite h14 with h16 | h16
        ·
          exact fr_e2 h16 f15
        ·
          exact fr_e2 h16 f15
      ·
        exact fr_e2 h12 f11
    ·
      exact fr_e2 h8 f7
  ·
    exact fr_e2 h4 f3
