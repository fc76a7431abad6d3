def w1_f_X5_readClause (a k : Nat) : Prop := (a = 1 ∧ k = 2) ∨ (a = 1 ∧ k = 3) ∨ (a = 1 ∧ k = 4) ∨ (a = 38 ∧ k = 3) ∨ (a = 38 ∧ k = 4) ∨ (a = 38 ∧ k = 5) ∨ (a = 38 ∧ k = 6) ∨ a = 39 ∨ (a = 40 ∧ k = 2) ∨ a = 41
def w2_f_X5_readClause (a k : Nat) : Prop := False
theorem fr_f_X5_readClause {v1 : Int32} {S : fS} {r : Int32 × fS} (h : f_X5_readClause v1 S = some r) : Fr (w1_f_X5_readClause) (w2_f_X5_readClause) S r.2 := by
  unfold f_X5_readClause at h
  obtain ⟨q1, e1, h2⟩ := Option.bind_eq_some_iff.mp h
  have f3 : Fr (w1_f_X5_readClause) (w2_f_X5_readClause) S q1.2 := (Fr.rf (S := S)).tr (Fr.mo (fr_f_X7_takeWord e1) (fun a k q => by unfold w1_f_X7_takeWord at q; unfold w1_f_X5_readClause; rcases q with q | q; exact Or.inl (q); exact Or.inr (Or.inl (q))) (fun _ _ q => False.elim q))
  rcases fr_ite h2 with h4 | h4
  ·
    obtain ⟨q40, e5, h6⟩ := Option.bind_eq_some_iff.mp h4
    have f7 : Fr (w1_f_X5_readClause) (w2_f_X5_readClause) S q40.2 := f3.tr (Fr.mo (fr_f_X7_fail e5) (fun a k q => by unfold w1_f_X7_fail at q; unfold w1_f_X5_readClause; exact Or.inr (Or.inr (Or.inl (q)))) (fun _ _ q => False.elim q))
    obtain ⟨z43, e8, h9⟩ := Option.bind_eq_some_iff.mp h6
    exact fr_e2 h9 f7
  ·
    rcases fr_ite h4 with h10 | h10
    ·
      obtain ⟨q6, e11, h12⟩ := Option.bind_eq_some_iff.mp h10
      have f13 : Fr (w1_f_X5_readClause) (w2_f_X5_readClause) S q6.2 := f3.tr (Fr.mo (fr_f_X7_takeNumber e11) (fun a k q => by unfold w1_f_X7_takeNumber at q; unfold w1_f_X5_readClause; rcases q with q | q | q; exact Or.inl (q); exact Or.inr (Or.inl (q)); exact Or.inr (Or.inr (Or.inl (q)))) (fun _ _ q => False.elim q))
      rcases fr_ite h12 with h14 | h14
      ·
        obtain ⟨q10, e15, h16⟩ := Option.bind_eq_some_iff.mp h14
        have f17 : Fr (w1_f_X5_readClause) (w2_f_X5_readClause) S q10.2 := f13.tr (Fr.mo (fr_f_X7_takeWord e15) (fun a k q => by unfold w1_f_X7_takeWord at q; unfold w1_f_X5_readClause; rcases q with q | q; exact Or.inl (q); exact Or.inr (Or.inl (q))) (fun _ _ q => False.elim q))
        rcases fr_ite h16 with h18 | h18
        ·
          rcases fr_ite h18 with h19 | h19
          ·
            obtain ⟨q15, e20, h21⟩ := Option.bind_eq_some_iff.mp h19
            have f22 : Fr (w1_f_X5_readClause) (w2_f_X5_readClause) S q15 := f17.tr (Fr.mo (fr_f_X4_write e20) (fun a k q => by unfold w1_f_X4_write at q; unfold w1_f_X5_readClause; rcases q with q | q; exact Or.inr (Or.inr (Or.inr (Or.inr (Or.inr (Or.inr (Or.inr (Or.inr (Or.inl (q))))))))); exact Or.inr (Or.inr (Or.inr (Or.inr (Or.inr (Or.inr (Or.inr (Or.inr (Or.inr ((q))))))))))) (fun _ _ q => False.elim q))
            exact fr_e2 h21 f22
          ·
            obtain ⟨q18, e23, h24⟩ := Option.bind_eq_some_iff.mp h19
            have f25 : Fr (w1_f_X5_readClause) (w2_f_X5_readClause) S q18 := f17.tr (Fr.mo (fr_f_X4_write e23) (fun a k q => by unfold w1_f_X4_write at q; unfold w1_f_X5_readClause; rcases q with q | q; exact Or.inr (Or.inr (Or.inr (Or.inr (Or.inr (Or.inr (Or.inr (Or.inr (Or.inl (q))))))))); exact Or.inr (Or.inr (Or.inr (Or.inr (Or.inr (Or.inr (Or.inr (Or.inr (Or.inr ((q))))))))))) (fun _ _ q => False.elim q))
            exact fr_e2 h24 f25
        ·
          obtain ⟨q21, e26, h27⟩ := Option.bind_eq_some_iff.mp h18
          have f28 : Fr (w1_f_X5_readClause) (w2_f_X5_readClause) S q21.2 := f17.tr (Fr.mo (fr_f_X5_readTest e26) (fun a k q => by unfold w1_f_X5_readTest at q; unfold w1_f_X5_readClause; rcases q with q | q | q | q | q | q | q | q | q | q; exact Or.inl (q); exact Or.inr (Or.inl (q)); exact Or.inr (Or.inr (Or.inl (q))); exact Or.inr (Or.inr (Or.inr (Or.inl (q)))); exact Or.inr (Or.inr (Or.inr (Or.inr (Or.inl (q))))); exact Or.inr (Or.inr (Or.inr (Or.inr (Or.inr (Or.inl (q)))))); exact Or.inr (Or.inr (Or.inr (Or.inr (Or.inr (Or.inr (Or.inl (q))))))); exact Or.inr (Or.inr (Or.inr (Or.inr (Or.inr (Or.inr (Or.inr (Or.inl (q)))))))); exact Or.inr (Or.inr (Or.inr (Or.inr (Or.inr (Or.inr (Or.inr (Or.inr (Or.inl (q))))))))); exact Or.inr (Or.inr (Or.inr (Or.inr (Or.inr (Or.inr (Or.inr (Or.inr (Or.inr ((q))))))))))) (fun _ _ q => False.elim q))
          rcases fr_ite h27 with h29 | h29
          ·
            exact fr_e2 h29 f28
          ·
            rcases fr_ite h29 with h30 | h30
            ·
              obtain ⟨q26, e31, h32⟩ := Option.bind_eq_some_iff.mp h30
              have f33 : Fr (w1_f_X5_readClause) (w2_f_X5_readClause) S q26 := f28.tr (Fr.mo (fr_f_X4_write e31) (fun a k q => by unfold w1_f_X4_write at q; unfold w1_f_X5_readClause; rcases q with q | q; exact Or.inr (Or.inr (Or.inr (Or.inr (Or.inr (Or.inr (Or.inr (Or.inr (Or.inl (q))))))))); exact Or.inr (Or.inr (Or.inr (Or.inr (Or.inr (Or.inr (Or.inr (Or.inr (Or.inr ((q))))))))))) (fun _ _ q => False.elim q))
              exact fr_e2 h32 f33
            ·
              obtain ⟨q29, e34, h35⟩ := Option.bind_eq_some_iff.mp h30
              have f36 : Fr (w1_f_X5_readClause) (w2_f_X5_readClause) S q29 := f28.tr (Fr.mo (fr_f_X4_write e34) (fun a k q => by unfold w1_f_X4_write at q; unfold w1_f_X5_readClause; rcases q with q | q; exact Or.inr (Or.inr (Or.inr (Or.inr (Or.inr (Or.inr (Or.inr (Or.inr (Or.inl (q))))))))); exact Or.inr (Or.inr (Or.inr (Or.inr (Or.inr (Or.inr (Or.inr (Or.inr (Or.inr ((q))))))))))) (fun _ _ q => False.elim q))
              exact fr_e2 h35 f36
      ·
        exact fr_e2 h14 f13
    ·
      obtain ⟨q32, e37, h38⟩ := Option.bind_eq_some_iff.mp h10
      have f39 : Fr (w1_f_X5_readClause) (w2_f_X5_readClause) S q32.2 := f3.tr (Fr.mo (fr_f_X7_fail e37) (fun a k q => by unfold w1_f_X7_fail at q; unfold w1_f_X5_readClause; exact Or.inr (Or.inr (Or.inl (q)))) (fun _ _ q => False.elim q))
      obtain ⟨z35, e40, h41⟩ := Option.bind_eq_some_iff.mp h38
      exact fr_e2 h41 f39
def w1_lp_X5_read_22 (a k : Nat) : Prop := (a = 1 ∧ k = 2) ∨ (a = 1 ∧ k = 3) ∨ (a = 1 ∧ k = 4) ∨ (a = 38 ∧ k = 3) ∨ (a = 38 ∧ k = 4) ∨ (a = 38 ∧ k = 5) ∨ (a = 38 ∧ k = 6) ∨ a = 39 ∨ (a = 40 ∧ k = 2) ∨ a = 41
def w2_lp_X5_read_22 (a k : Nat) : Prop := False
theorem fr_lp_X5_read_22 {K : fS → Option (Int32 × fS)} {r : Int32 × fS} {v1 v2 : Nat → Nat → Prop} (s1 : ∀ a k, w1_lp_X5_read_22 a k → v1 a k) (s2 : ∀ a k, w2_lp_X5_read_22 a k → v2 a k) (hK : ∀ (x0 : fS), K x0 = some r → Fr v1 v2 x0 r.2) : ∀ (n : Nat) (p1 : Int32) (S0 : fS), lp_X5_read_22 K n p1 S0 = some r → Fr v1 v2 S0 r.2 := by
  intro n
  induction n with
  | zero => intro p1 S0 h; exact mm_no h
  | succ n ih =>
    intro p1 S0 h
    rw [lp_X5_read_22.eq_2] at h
    rcases fr_ite h with h1 | h1
    ·
      exact (Fr.rf (S := S0)).tr (hK _ h1)
    ·
      obtain ⟨q11, e2, h3⟩ := Option.bind_eq_some_iff.mp h1
      have f4 : Fr v1 v2 S0 q11.2 := (Fr.rf (S := S0)).tr (Fr.mo (fr_f_X5_readClause e2) (fun a k q => by refine s1 _ _ ?_; unfold w1_f_X5_readClause at q; unfold w1_lp_X5_read_22; rcases q with q | q | q | q | q | q | q | q | q | q; exact Or.inl (q); exact Or.inr (Or.inl (q)); exact Or.inr (Or.inr (Or.inl (q))); exact Or.inr (Or.inr (Or.inr (Or.inl (q)))); exact Or.inr (Or.inr (Or.inr (Or.inr (Or.inl (q))))); exact Or.inr (Or.inr (Or.inr (Or.inr (Or.inr (Or.inl (q)))))); exact Or.inr (Or.inr (Or.inr (Or.inr (Or.inr (Or.inr (Or.inl (q))))))); exact Or.inr (Or.inr (Or.inr (Or.inr (Or.inr (Or.inr (Or.inr (Or.inl (q)))))))); exact Or.inr (Or.inr (Or.inr (Or.inr (Or.inr (Or.inr (Or.inr (Or.inr (Or.inl (q))))))))); exact Or.inr (Or.inr (Or.inr (Or.inr (Or.inr (Or.inr (Or.inr (Or.inr (Or.inr ((q))))))))))) (fun _ _ q => False.elim q))
      rcases fr_ite h3 with h5 | h5
      ·
        exact fr_e2 h5 f4
      ·
        obtain ⟨q15, e6, h7⟩ := Option.bind_eq_some_iff.mp h5
        have f8 : Fr v1 v2 S0 q15.2 := f4.tr (Fr.mo (fr_f_X7_isAtEnd e6) (fun a k q => by refine s1 _ _ ?_; unfold w1_f_X7_isAtEnd at q; unfold w1_lp_X5_read_22; exact Or.inl (q)) (fun _ _ q => False.elim q))
        rcases fr_ite h7 with h9 | h9
        ·
          obtain ⟨q19, e10, h11⟩ := Option.bind_eq_some_iff.mp h9
          have f12 : Fr v1 v2 S0 q19.2 := f8.tr (Fr.mo (fr_f_X7_takeSign e10) (fun a k q => by refine s1 _ _ ?_; unfold w1_f_X7_takeSign at q; unfold w1_lp_X5_read_22; rcases q with q | q; exact Or.inl (q); exact Or.inr (Or.inl (q))) (fun _ _ q => False.elim q))
          rcases fr_ite h11 with h13 | h13
          ·
            obtain ⟨q23, e14, h15⟩ := Option.bind_eq_some_iff.mp h13
            have f16 : Fr v1 v2 S0 q23.2 := f12.tr (Fr.mo (fr_f_X7_fail e14) (fun a k q => by refine s1 _ _ ?_; unfold w1_f_X7_fail at q; unfold w1_lp_X5_read_22; exact Or.inr (Or.inr (Or.inl (q)))) (fun _ _ q => False.elim q))
            obtain ⟨z26, e17, h18⟩ := Option.bind_eq_some_iff.mp h15
            exact fr_e2 h18 f16
          ·
            exact f12.tr (ih _ _ h13)
        ·
          exact fr_e2 h9 f8
def w1_f_X5_read (a k : Nat) : Prop := (a = 1 ∧ k = 2) ∨ (a = 1 ∧ k = 3) ∨ (a = 1 ∧ k = 4) ∨ (a = 38 ∧ k = 3) ∨ (a = 38 ∧ k = 4) ∨ (a = 38 ∧ k = 5) ∨ (a = 38 ∧ k = 6) ∨ a = 39 ∨ (a = 40 ∧ k = 2) ∨ a = 41
def w2_f_X5_read (a k : Nat) : Prop := False
theorem fr_f_X5_read {S : fS} {r : Int32 × fS} (h : f_X5_read S = some r) : Fr (w1_f_X5_read) (w2_f_X5_read) S r.2 := by
  unfold f_X5_read at h
  obtain ⟨S1, e1, h2⟩ := Option.bind_eq_some_iff.mp h
  have f3 : Fr (w1_f_X5_read) (w2_f_X5_read) S S1 := (Fr.rf (S := S)).tr (fr_pI e1 (by unfold w1_f_X5_read; exact Or.inr (Or.inr (Or.inr (Or.inr (Or.inr (Or.inr (Or.inr (Or.inr (Or.inl (⟨rfl, rfl⟩)))))))))))
  obtain ⟨S4, e4, h5⟩ := Option.bind_eq_some_iff.mp h2
  have f6 : Fr (w1_f_X5_read) (w2_f_X5_read) S S4 := f3.tr (fr_pI e4 (by unfold w1_f_X5_read; exact Or.inr (Or.inr (Or.inr (Or.inl (⟨rfl, rfl⟩))))))
  obtain ⟨q7, e7, h8⟩ := Option.bind_eq_some_iff.mp h5
  have f9 : Fr (w1_f_X5_read) (w2_f_X5_read) S q7 := f6.tr (Fr.mo (fr_f_X7_rewind e7) (fun a k q => by unfold w1_f_X7_rewind at q; unfold w1_f_X5_read; rcases q with q | q | q; exact Or.inl (q); exact Or.inr (Or.inl (q)); exact Or.inr (Or.inr (Or.inl (q)))) (fun _ _ q => False.elim q))
  refine f9.tr (fr_lp_X5_read_22 (v1 := w1_f_X5_read) (v2 := w2_f_X5_read) (fun a k q => by unfold w1_lp_X5_read_22 at q; unfold w1_f_X5_read; rcases q with q | q | q | q | q | q | q | q | q | q; exact Or.inl (q); exact Or.inr (Or.inl (q)); exact Or.inr (Or.inr (Or.inl (q))); exact Or.inr (Or.inr (Or.inr (Or.inl (q)))); exact Or.inr (Or.inr (Or.inr (Or.inr (Or.inl (q))))); exact Or.inr (Or.inr (Or.inr (Or.inr (Or.inr (Or.inl (q)))))); exact Or.inr (Or.inr (Or.inr (Or.inr (Or.inr (Or.inr (Or.inl (q))))))); exact Or.inr (Or.inr (Or.inr (Or.inr (Or.inr (Or.inr (Or.inr (Or.inl (q)))))))); exact Or.inr (Or.inr (Or.inr (Or.inr (Or.inr (Or.inr (Or.inr (Or.inr (Or.inl (q))))))))); exact Or.inr (Or.inr (Or.inr (Or.inr (Or.inr (Or.inr (Or.inr (Or.inr (Or.inr ((q))))))))))) (fun _ _ q => False.elim q) (fun S31 h10 => ?_) _ _ _ h8)
  exact fr_e2 h10 (Fr.rf (S := S31))
def w1_f_X4_copyFrom (v0 : Nat) (v1 : Nat) (a k : Nat) : Prop := (a = v0 ∧ k = 2) ∨ a = v0 + 1
def w2_f_X4_copyFrom (v0 : Nat) (v1 : Nat) (a k : Nat) : Prop := False
theorem fr_f_X4_copyFrom {v0 : Nat} {v1 : Nat} {S : fS} {r : fS} (h : f_X4_copyFrom v0 v1 S = some r) : Fr (w1_f_X4_copyFrom v0 v1) (w2_f_X4_copyFrom v0 v1) S r := by
  unfold f_X4_copyFrom at h
  obtain ⟨S1, e1, h2⟩ := Option.bind_eq_some_iff.mp h
  have f3 : Fr (w1_f_X4_copyFrom v0 v1) (w2_f_X4_copyFrom v0 v1) S S1 := (Fr.rf (S := S)).tr (fr_cI e1 (fun k => by unfold w1_f_X4_copyFrom; exact Or.inr ((rfl))))
  obtain ⟨S4, e4, h5⟩ := Option.bind_eq_some_iff.mp h2
  have f6 : Fr (w1_f_X4_copyFrom v0 v1) (w2_f_X4_copyFrom v0 v1) S S4 := f3.tr (fr_pI e4 (by unfold w1_f_X4_copyFrom; exact Or.inl (⟨rfl, rfl⟩)))
  exact fr_e1 h5 f6
def w1_f_X10_rule (a k : Nat) : Prop := (a = 0 ∧ k = 10) ∨ (a = 1 ∧ k = 1) ∨ (a = 1 ∧ k = 2) ∨ (a = 1 ∧ k = 3) ∨ (a = 1 ∧ k = 4) ∨ (a = 38 ∧ k = 3) ∨ (a = 38 ∧ k = 4) ∨ (a = 38 ∧ k = 5) ∨ (a = 38 ∧ k = 6) ∨ a = 39 ∨ (a = 40 ∧ k = 2) ∨ a = 41 ∨ (127 ≤ a ∧ a ≤ 144)
def w2_f_X10_rule (a k : Nat) : Prop := False
theorem fr_f_X10_rule {S : fS} {r : Int32 × fS} (h : f_X10_rule S = some r) : Fr (w1_f_X10_rule) (w2_f_X10_rule) S r.2 := by
  unfold f_X10_rule at h
  rcases fr_ite h with h1 | h1
  ·
    obtain ⟨q2, e2, h3⟩ := Option.bind_eq_some_iff.mp h1
    have f4 : Fr (w1_f_X10_rule) (w2_f_X10_rule) S q2.2 := (Fr.rf (S := S)).tr (Fr.mo (fr_f_X5_read e2) (fun a k q => by unfold w1_f_X5_read at q; unfold w1_f_X10_rule; rcases q with q | q | q | q | q | q | q | q | q | q; exact Or.inr (Or.inr (Or.inl (q))); exact Or.inr (Or.inr (Or.inr (Or.inl (q)))); exact Or.inr (Or.inr (Or.inr (Or.inr (Or.inl (q))))); exact Or.inr (Or.inr (Or.inr (Or.inr (Or.inr (Or.inl (q)))))); exact Or.inr (Or.inr (Or.inr (Or.inr (Or.inr (Or.inr (Or.inl (q))))))); exact Or.inr (Or.inr (Or.inr (Or.inr (Or.inr (Or.inr (Or.inr (Or.inl (q)))))))); exact Or.inr (Or.inr (Or.inr (Or.inr (Or.inr (Or.inr (Or.inr (Or.inr (Or.inl (q))))))))); exact Or.inr (Or.inr (Or.inr (Or.inr (Or.inr (Or.inr (Or.inr (Or.inr (Or.inr (Or.inl (q)))))))))); exact Or.inr (Or.inr (Or.inr (Or.inr (Or.inr (Or.inr (Or.inr (Or.inr (Or.inr (Or.inr (Or.inl (q))))))))))); exact Or.inr (Or.inr (Or.inr (Or.inr (Or.inr (Or.inr (Or.inr (Or.inr (Or.inr (Or.inr (Or.inr (Or.inl (q))))))))))))) (fun _ _ q => False.elim q))
    obtain ⟨S5, e5, h6⟩ := Option.bind_eq_some_iff.mp h3
    have f7 : Fr (w1_f_X10_rule) (w2_f_X10_rule) S S5 := f4.tr (fr_pI e5 (by unfold w1_f_X10_rule; exact Or.inr (Or.inl (⟨rfl, rfl⟩))))
    rcases fr_ite h6 with h8 | h8
    ·
      exact fr_e2 h8 f7
    ·
      obtain ⟨a9, e9, h10⟩ := Option.bind_eq_some_iff.mp h8
      have g11 := fr_A23 e9
      obtain ⟨q12, e12, h13⟩ := Option.bind_eq_some_iff.mp h10
      have f14 : Fr (w1_f_X10_rule) (w2_f_X10_rule) S q12 := f7.tr (Fr.mo (fr_f_X4_copyFrom e12) (fun a k q => by unfold w1_f_X4_copyFrom at q; unfold w1_f_X10_rule; rcases q with q | q; exact Or.inr (Or.inr (Or.inr (Or.inr (Or.inr (Or.inr (Or.inr (Or.inr (Or.inr (Or.inr (Or.inr (Or.inr (((by omega)))))))))))))); exact Or.inr (Or.inr (Or.inr (Or.inr (Or.inr (Or.inr (Or.inr (Or.inr (Or.inr (Or.inr (Or.inr (Or.inr (((by omega))))))))))))))) (fun _ _ q => False.elim q))
      obtain ⟨S15, e15, h16⟩ := Option.bind_eq_some_iff.mp h13
      have f17 : Fr (w1_f_X10_rule) (w2_f_X10_rule) S S15 := f14.tr (fr_pI e15 (by unfold w1_f_X10_rule; exact Or.inl (⟨rfl, rfl⟩)))
      exact fr_e2 h16 f17
  ·
    exact fr_e2 h1 (Fr.rf (S := S))
def w1_f_X0_setOff (v0 : Nat) (v1 : Nat) (a k : Nat) : Prop := a = v0 + 1 ∨ a = v0 + 2 ∨ a = v0 + 3 ∨ a = v0 + 4
def w2_f_X0_setOff (v0 : Nat) (v1 : Nat) (a k : Nat) : Prop := False
theorem fr_f_X0_setOff {v0 : Nat} {v1 : Nat} {v2 : Int32} {v3 : Int32} {S : fS} {r : Int32 × fS} (h : f_X0_setOff v0 v1 v2 v3 S = some r) : Fr (w1_f_X0_setOff v0 v1) (w2_f_X0_setOff v0 v1) S r.2 := by
  unfold f_X0_setOff at h
  rcases fr_ite h with h1 | h1
  ·
    obtain ⟨a2, e2, h3⟩ := Option.bind_eq_some_iff.mp h1
    obtain ⟨q5, e4, h5⟩ := Option.bind_eq_some_iff.mp h3
    rcases fr_ite h5 with h6 | h6
    ·
      obtain ⟨S9, e7, h8⟩ := Option.bind_eq_some_iff.mp h6
      have f9 : Fr (w1_f_X0_setOff v0 v1) (w2_f_X0_setOff v0 v1) S S9 := (Fr.rf (S := S)).tr (fr_sI e7 (fun k => by unfold w1_f_X0_setOff; exact Or.inl (rfl)))
      obtain ⟨S12, e10, h11⟩ := Option.bind_eq_some_iff.mp h8
      have f12 : Fr (w1_f_X0_setOff v0 v1) (w2_f_X0_setOff v0 v1) S S12 := f9.tr (fr_sI e10 (fun k => by unfold w1_f_X0_setOff; exact Or.inr (Or.inl (rfl))))
      obtain ⟨S15, e13, h14⟩ := Option.bind_eq_some_iff.mp h11
      have f15 : Fr (w1_f_X0_setOff v0 v1) (w2_f_X0_setOff v0 v1) S S15 := f12.tr (fr_sI e13 (fun k => by unfold w1_f_X0_setOff; exact Or.inr (Or.inr (Or.inl (rfl)))))
      obtain ⟨S18, e16, h17⟩ := Option.bind_eq_some_iff.mp h14
      have f18 : Fr (w1_f_X0_setOff v0 v1) (w2_f_X0_setOff v0 v1) S S18 := f15.tr (fr_sI e16 (fun k => by unfold w1_f_X0_setOff; exact Or.inr (Or.inr (Or.inr ((rfl))))))
      exact fr_e2 h17 f18
    ·
      exact fr_e2 h6 (Fr.rf (S := S))
  ·
    rcases fr_ite h1 with h19 | h19
    ·
      obtain ⟨S22, e20, h21⟩ := Option.bind_eq_some_iff.mp h19
      have f22 : Fr (w1_f_X0_setOff v0 v1) (w2_f_X0_setOff v0 v1) S S22 := (Fr.rf (S := S)).tr (fr_sI e20 (fun k => by unfold w1_f_X0_setOff; exact Or.inl (rfl)))
      obtain ⟨S25, e23, h24⟩ := Option.bind_eq_some_iff.mp h21
      have f25 : Fr (w1_f_X0_setOff v0 v1) (w2_f_X0_setOff v0 v1) S S25 := f22.tr (fr_sI e23 (fun k => by unfold w1_f_X0_setOff; exact Or.inr (Or.inl (rfl))))
      obtain ⟨S28, e26, h27⟩ := Option.bind_eq_some_iff.mp h24
      have f28 : Fr (w1_f_X0_setOff v0 v1) (w2_f_X0_setOff v0 v1) S S28 := f25.tr (fr_sI e26 (fun k => by unfold w1_f_X0_setOff; exact Or.inr (Or.inr (Or.inl (rfl)))))
      obtain ⟨S31, e29, h30⟩ := Option.bind_eq_some_iff.mp h27
      have f31 : Fr (w1_f_X0_setOff v0 v1) (w2_f_X0_setOff v0 v1) S S31 := f28.tr (fr_sI e29 (fun k => by unfold w1_f_X0_setOff; exact Or.inr (Or.inr (Or.inr ((rfl))))))
      exact fr_e2 h30 f31
    ·
      exact fr_e2 h19 (Fr.rf (S := S))
def w1_f_X10_go (a k : Nat) : Prop := a = 12 ∨ a = 13 ∨ a = 14 ∨ a = 15
def w2_f_X10_go (a k : Nat) : Prop := False
theorem fr_f_X10_go {v1 : Int32} {v2 : Int32} {S : fS} {r : Int32 × fS} (h : f_X10_go v1 v2 S = some r) : Fr (w1_f_X10_go) (w2_f_X10_go) S r.2 := by
  unfold f_X10_go at h
  obtain ⟨q1, e1, h2⟩ := Option.bind_eq_some_iff.mp h
  rcases fr_ite h2 with h3 | h3
  ·
    exact fr_e2 h3 (Fr.rf (S := S))
  ·
    obtain ⟨q5, e4, h5⟩ := Option.bind_eq_some_iff.mp h3
    rcases fr_ite h5 with h6 | h6
    ·
      exact fr_e2 h6 (Fr.rf (S := S))
    ·
      obtain ⟨q9, e7, h8⟩ := Option.bind_eq_some_iff.mp h6
      have f9 : Fr (w1_f_X10_go) (w2_f_X10_go) S q9.2 := (Fr.rf (S := S)).tr (Fr.mo (fr_f_X0_setOff e7) (fun a k q => by unfold w1_f_X0_setOff at q; unfold w1_f_X10_go; rcases q with q | q | q | q; exact Or.inl (q); exact Or.inr (Or.inl (q)); exact Or.inr (Or.inr (Or.inl (q))); exact Or.inr (Or.inr (Or.inr ((q))))) (fun _ _ q => False.elim q))
      obtain ⟨z12, e10, h11⟩ := Option.bind_eq_some_iff.mp h8
      exact fr_e2 h11 f9
def w1_f_X4_pop (v0 : Nat) (a k : Nat) : Prop := (a = v0 ∧ k = 3)
def w2_f_X4_pop (v0 : Nat) (a k : Nat) : Prop := False
theorem fr_f_X4_pop {v0 : Nat} {S : fS} {r : Int64 × fS} (h : f_X4_pop v0 S = some r) : Fr (w1_f_X4_pop v0) (w2_f_X4_pop v0) S r.2 := by
  unfold f_X4_pop at h
  rcases fr_ite h with h1 | h1
  ·
    exact fr_e2 h1 (Fr.rf (S := S))
  ·
    rcases fr_ite h1 with h2 | h2
    ·
      obtain ⟨S3, e3, h4⟩ := Option.bind_eq_some_iff.mp h2
      have f5 : Fr (w1_f_X4_pop v0) (w2_f_X4_pop v0) S S3 := (Fr.rf (S := S)).tr (fr_pI e3 (by unfold w1_f_X4_pop; exact ⟨rfl, rfl⟩))
      obtain ⟨a6, e6, h7⟩ := Option.bind_eq_some_iff.mp h4
      exact fr_e2 h7 f5
    ·
      exact fr_e2 h2 (Fr.rf (S := S))
def w1_f_X4_push (v0 : Nat) (a k : Nat) : Prop := (a = v0 ∧ k = 3)
def w2_f_X4_push (v0 : Nat) (a k : Nat) : Prop := a = v0 + 2
theorem fr_f_X4_push {v0 : Nat} {v1 : Int64} {S : fS} {r : fS} (h : f_X4_push v0 v1 S = some r) : Fr (w1_f_X4_push v0) (w2_f_X4_push v0) S r := by
  unfold f_X4_push at h
  rcases fr_ite h with h1 | h1
  ·
    exact fr_e1 h1 (Fr.rf (S := S))
  ·
    rcases fr_ite h1 with h2 | h2
    ·
      exact fr_e1 h2 (Fr.rf (S := S))
    ·
      obtain ⟨S3, e3, h4⟩ := Option.bind_eq_some_iff.mp h2
      have f5 : Fr (w1_f_X4_push v0) (w2_f_X4_push v0) S S3 := (Fr.rf (S := S)).tr (fr_sL e3 (fun k => by unfold w2_f_X4_push; exact rfl))
      obtain ⟨S6, e6, h7⟩ := Option.bind_eq_some_iff.mp h4
      have f8 : Fr (w1_f_X4_push v0) (w2_f_X4_push v0) S S6 := f5.tr (fr_pI e6 (by unfold w1_f_X4_push; exact ⟨rfl, rfl⟩))
      exact fr_e1 h7 f8
def w1_lp_X4_goalOf_8 (p0 : Nat) (p1 : Nat) (p2 : Nat) (a k : Nat) : Prop := (a = p0 ∧ k = 3)
def w2_lp_X4_goalOf_8 (p0 : Nat) (p1 : Nat) (p2 : Nat) (a k : Nat) : Prop := a = p0 + 2
theorem fr_lp_X4_goalOf_8 {p0 : Nat} {p1 : Nat} {p2 : Nat} {p3 : Int32} {K : fS → Option (Int32 × fS)} {r : Int32 × fS} {v1 v2 : Nat → Nat → Prop} (s1 : ∀ a k, w1_lp_X4_goalOf_8 p0 p1 p2 a k → v1 a k) (s2 : ∀ a k, w2_lp_X4_goalOf_8 p0 p1 p2 a k → v2 a k) (hK : ∀ (x0 : fS), K x0 = some r → Fr v1 v2 x0 r.2) : ∀ (n : Nat) (p4 : Int32) (S0 : fS), lp_X4_goalOf_8 p0 p1 p2 p3 K n p4 S0 = some r → Fr v1 v2 S0 r.2 := by
  intro n
  induction n with
  | zero => intro p4 S0 h; exact mm_no h
  | succ n ih =>
    intro p4 S0 h
    rw [lp_X4_goalOf_8.eq_2] at h
    rcases fr_ite h with h1 | h1
    ·
      exact (Fr.rf (S := S0)).tr (hK _ h1)
    ·
      rcases fr_ite h1 with h2 | h2
      ·
        exact (Fr.rf (S := S0)).tr (hK _ h2)
      ·
        obtain ⟨a6, e3, h4⟩ := Option.bind_eq_some_iff.mp h2
        obtain ⟨a9, e5, h6⟩ := Option.bind_eq_some_iff.mp h4
        rcases fr_ite h6 with h7 | h7
        ·
          exact fr_e2 h7 (Fr.rf (S := S0))
        ·
          rcases fr_ite h7 with h8 | h8
          ·
            obtain ⟨q48, e9, h10⟩ := Option.bind_eq_some_iff.mp h8
            have f11 : Fr v1 v2 S0 q48.2 := (Fr.rf (S := S0)).tr (Fr.mo (fr_f_X4_pop e9) (fun a k q => by refine s1 _ _ ?_; unfold w1_f_X4_pop at q; unfold w1_lp_X4_goalOf_8; exact q) (fun _ _ q => False.elim q))
            rcases fr_ite h10 with h12 | h12
            ·
              exact f11.tr (ih _ _ h12)
            ·
              exact fr_e2 h12 f11
          ·
            rcases fr_ite h8 with h13 | h13
            ·
              obtain ⟨q45, e14, h15⟩ := Option.bind_eq_some_iff.mp h13
              have f16 : Fr v1 v2 S0 q45 := (Fr.rf (S := S0)).tr (Fr.mo (fr_f_X4_push e14) (fun a k q => by refine s1 _ _ ?_; unfold w1_f_X4_push at q; unfold w1_lp_X4_goalOf_8; exact q) (fun a k q => by refine s2 _ _ ?_; unfold w2_f_X4_push at q; unfold w2_lp_X4_goalOf_8; exact q))
              exact f16.tr (ih _ _ h15)
            ·
              rcases fr_ite h13 with h17 | h17
              ·
                obtain ⟨q39, e18, h19⟩ := Option.bind_eq_some_iff.mp h17
                obtain ⟨q42, e20, h21⟩ := Option.bind_eq_some_iff.mp h19
                have f22 : Fr v1 v2 S0 q42 := (Fr.rf (S := S0)).tr (Fr.mo (fr_f_X4_push e20) (fun a k q => by refine s1 _ _ ?_; unfold w1_f_X4_push at q; unfold w1_lp_X4_goalOf_8; exact q) (fun a k q => by refine s2 _ _ ?_; unfold w2_f_X4_push at q; unfold w2_lp_X4_goalOf_8; exact q))
                exact f22.tr (ih _ _ h21)
              ·
                rcases fr_ite h17 with h23 | h23
                ·
                  obtain ⟨q29, e24, h25⟩ := Option.bind_eq_some_iff.mp h23
                  have f26 : Fr v1 v2 S0 q29.2 := (Fr.rf (S := S0)).tr (Fr.mo (fr_f_X4_pop e24) (fun a k q => by refine s1 _ _ ?_; unfold w1_f_X4_pop at q; unfold w1_lp_X4_goalOf_8; exact q) (fun _ _ q => False.elim q))
                  rcases fr_ite h25 with h27 | h27
                  ·
                    obtain ⟨q36, e28, h29⟩ := Option.bind_eq_some_iff.mp h27
                    have f30 : Fr v1 v2 S0 q36 := f26.tr (Fr.mo (fr_f_X4_push e28) (fun a k q => by refine s1 _ _ ?_; unfold w1_f_X4_push at q; unfold w1_lp_X4_goalOf_8; exact q) (fun a k q => by refine s2 _ _ ?_; unfold w2_f_X4_push at q; unfold w2_lp_X4_goalOf_8; exact q))
                    exact f30.tr (ih _ _ h29)
                  ·
                    obtain ⟨q33, e31, h32⟩ := Option.bind_eq_some_iff.mp h27
                    have f33 : Fr v1 v2 S0 q33 := f26.tr (Fr.mo (fr_f_X4_push e31) (fun a k q => by refine s1 _ _ ?_; unfold w1_f_X4_push at q; unfold w1_lp_X4_goalOf_8; exact q) (fun a k q => by refine s2 _ _ ?_; unfold w2_f_X4_push at q; unfold w2_lp_X4_goalOf_8; exact q))
                    exact f33.tr (ih _ _ h32)
                ·
                  obtain ⟨q17, e34, h35⟩ := Option.bind_eq_some_iff.mp h23
                  have f36 : Fr v1 v2 S0 q17.2 := (Fr.rf (S := S0)).tr (Fr.mo (fr_f_X4_pop e34) (fun a k q => by refine s1 _ _ ?_; unfold w1_f_X4_pop at q; unfold w1_lp_X4_goalOf_8; exact q) (fun _ _ q => False.elim q))
                  obtain ⟨q20, e37, h38⟩ := Option.bind_eq_some_iff.mp h35
                  have f39 : Fr v1 v2 S0 q20.2 := f36.tr (Fr.mo (fr_f_X4_pop e37) (fun a k q => by refine s1 _ _ ?_; unfold w1_f_X4_pop at q; unfold w1_lp_X4_goalOf_8; exact q) (fun _ _ q => False.elim q))
                  obtain ⟨q23, e40, h41⟩ := Option.bind_eq_some_iff.mp h38
                  obtain ⟨q26, e42, h43⟩ := Option.bind_eq_some_iff.mp h41
                  have f44 : Fr v1 v2 S0 q26 := f39.tr (Fr.mo (fr_f_X4_push e42) (fun a k q => by refine s1 _ _ ?_; unfold w1_f_X4_push at q; unfold w1_lp_X4_goalOf_8; exact q) (fun a k q => by refine s2 _ _ ?_; unfold w2_f_X4_push at q; unfold w2_lp_X4_goalOf_8; exact q))
                  exact f44.tr (ih _ _ h43)
def w1_f_X4_goalOf (v0 : Nat) (v1 : Nat) (v2 : Nat) (a k : Nat) : Prop := (a = v0 ∧ k = 3)
def w2_f_X4_goalOf (v0 : Nat) (v1 : Nat) (v2 : Nat) (a k : Nat) : Prop := a = v0 + 2
theorem fr_f_X4_goalOf {v0 : Nat} {v1 : Nat} {v2 : Nat} {v3 : Int32} {S : fS} {r : Int32 × fS} (h : f_X4_goalOf v0 v1 v2 v3 S = some r) : Fr (w1_f_X4_goalOf v0 v1 v2) (w2_f_X4_goalOf v0 v1 v2) S r.2 := by
  unfold f_X4_goalOf at h
  obtain ⟨S1, e1, h2⟩ := Option.bind_eq_some_iff.mp h
  have f3 : Fr (w1_f_X4_goalOf v0 v1 v2) (w2_f_X4_goalOf v0 v1 v2) S S1 := (Fr.rf (S := S)).tr (fr_pI e1 (by unfold w1_f_X4_goalOf; exact ⟨rfl, rfl⟩))
  refine f3.tr (fr_lp_X4_goalOf_8 (v1 := w1_f_X4_goalOf v0 v1 v2) (v2 := w2_f_X4_goalOf v0 v1 v2) (fun a k q => by unfold w1_lp_X4_goalOf_8 at q; unfold w1_f_X4_goalOf; exact q) (fun a k q => by unfold w2_lp_X4_goalOf_8 at q; unfold w2_f_X4_goalOf; exact q) (fun S52 h4 => ?_) _ _ _ h2)
  exact fr_e2 h4 (Fr.rf (S := S52))
def w1_lp_X0_obey_2 (p0 : Nat) (p1 : Nat) (p2 : Nat) (a k : Nat) : Prop := a = p0 + 1 ∨ a = p0 + 2 ∨ a = p0 + 3 ∨ a = p0 + 4 ∨ (a = p2 ∧ k = 3)
def w2_lp_X0_obey_2 (p0 : Nat) (p1 : Nat) (p2 : Nat) (a k : Nat) : Prop := a = p2 + 2
theorem fr_lp_X0_obey_2 {p0 : Nat} {p1 : Nat} {p2 : Nat} {K : fS → Option (fS)} {r : fS} {v1 v2 : Nat → Nat → Prop} (s1 : ∀ a k, w1_lp_X0_obey_2 p0 p1 p2 a k → v1 a k) (s2 : ∀ a k, w2_lp_X0_obey_2 p0 p1 p2 a k → v2 a k) (hK : ∀ (x0 : fS), K x0 = some r → Fr v1 v2 x0 r) : ∀ (n : Nat) (p3 : Int32) (S0 : fS), lp_X0_obey_2 p0 p1 p2 K n p3 S0 = some r → Fr v1 v2 S0 r := by
  intro n
  induction n with
  | zero => intro p3 S0 h; exact mm_no h
  | succ n ih =>
    intro p3 S0 h
    rw [lp_X0_obey_2.eq_2] at h
    rcases fr_ite h with h1 | h1
    ·
      exact (Fr.rf (S := S0)).tr (hK _ h1)
    ·
      obtain ⟨q2, e2, h3⟩ := Option.bind_eq_some_iff.mp h1
      rcases fr_ite h3 with h4 | h4
      ·
        exact (Fr.rf (S := S0)).tr (ih _ _ h4)
      ·
        obtain ⟨q6, e5, h6⟩ := Option.bind_eq_some_iff.mp h4
        have f7 : Fr v1 v2 S0 q6.2 := (Fr.rf (S := S0)).tr (Fr.mo (fr_f_X4_goalOf e5) (fun a k q => by refine s1 _ _ ?_; unfold w1_f_X4_goalOf at q; unfold w1_lp_X0_obey_2; exact Or.inr (Or.inr (Or.inr (Or.inr ((q)))))) (fun a k q => by refine s2 _ _ ?_; unfold w2_f_X4_goalOf at q; unfold w2_lp_X0_obey_2; exact q))
        obtain ⟨q9, e8, h9⟩ := Option.bind_eq_some_iff.mp h6
        rcases fr_ite h9 with h10 | h10
        ·
          exact f7.tr (ih _ _ h10)
        ·
          obtain ⟨a13, e11, h12⟩ := Option.bind_eq_some_iff.mp h10
          obtain ⟨q16, e13, h14⟩ := Option.bind_eq_some_iff.mp h12
          obtain ⟨q19, e15, h16⟩ := Option.bind_eq_some_iff.mp h14
          have f17 : Fr v1 v2 S0 q19.2 := f7.tr (Fr.mo (fr_f_X0_setOff e15) (fun a k q => by refine s1 _ _ ?_; unfold w1_f_X0_setOff at q; unfold w1_lp_X0_obey_2; rcases q with q | q | q | q; exact Or.inl (q); exact Or.inr (Or.inl (q)); exact Or.inr (Or.inr (Or.inl (q))); exact Or.inr (Or.inr (Or.inr (Or.inl (q))))) (fun _ _ q => False.elim q))
          exact f17.tr (ih _ _ h16)
def w1_f_X0_obey (v0 : Nat) (v1 : Nat) (v2 : Nat) (a k : Nat) : Prop := a = v0 + 1 ∨ a = v0 + 2 ∨ a = v0 + 3 ∨ a = v0 + 4 ∨ (a = v2 ∧ k = 3)
def w2_f_X0_obey (v0 : Nat) (v1 : Nat) (v2 : Nat) (a k : Nat) : Prop := a = v2 + 2
theorem fr_f_X0_obey {v0 : Nat} {v1 : Nat} {v2 : Nat} {S : fS} {r : fS} (h : f_X0_obey v0 v1 v2 S = some r) : Fr (w1_f_X0_obey v0 v1 v2) (w2_f_X0_obey v0 v1 v2) S r := by
  unfold f_X0_obey at h
  refine (Fr.rf (S := S)).tr (fr_lp_X0_obey_2 (v1 := w1_f_X0_obey v0 v1 v2) (v2 := w2_f_X0_obey v0 v1 v2) (fun a k q => by unfold w1_lp_X0_obey_2 at q; unfold w1_f_X0_obey; rcases q with q | q | q | q | q; exact Or.inl (q); exact Or.inr (Or.inl (q)); exact Or.inr (Or.inr (Or.inl (q))); exact Or.inr (Or.inr (Or.inr (Or.inl (q)))); exact Or.inr (Or.inr (Or.inr (Or.inr ((q)))))) (fun a k q => by unfold w2_lp_X0_obey_2 at q; unfold w2_f_X0_obey; exact q) (fun S22 h1 => ?_) _ _ _ h)
  exact fr_e1 h1 (Fr.rf (S := S22))
def w1_lp_X0_passHour_2 (p0 : Nat) (p1 : Nat) (a k : Nat) : Prop := a = p0 + 1 ∨ a = p0 + 2 ∨ a = p0 + 3 ∨ a = p0 + 4
def w2_lp_X0_passHour_2 (p0 : Nat) (p1 : Nat) (a k : Nat) : Prop := a = p0 + 5
theorem fr_lp_X0_passHour_2 {p0 : Nat} {p1 : Nat} {K : fS → Option (fS)} {r : fS} {v1 v2 : Nat → Nat → Prop} (s1 : ∀ a k, w1_lp_X0_passHour_2 p0 p1 a k → v1 a k) (s2 : ∀ a k, w2_lp_X0_passHour_2 p0 p1 a k → v2 a k) (hK : ∀ (x0 : fS), K x0 = some r → Fr v1 v2 x0 r) : ∀ (n : Nat) (p2 : Int32) (S0 : fS), lp_X0_passHour_2 p0 p1 K n p2 S0 = some r → Fr v1 v2 S0 r := by
  intro n
  induction n with
  | zero => intro p2 S0 h; exact mm_no h
  | succ n ih =>
    intro p2 S0 h
    rw [lp_X0_passHour_2.eq_2] at h
    rcases fr_ite h with h1 | h1
    ·
      exact (Fr.rf (S := S0)).tr (hK _ h1)
    ·
      obtain ⟨q2, e2, h3⟩ := Option.bind_eq_some_iff.mp h1
      rcases fr_ite h3 with h4 | h4
      ·
        obtain ⟨a6, e5, h6⟩ := Option.bind_eq_some_iff.mp h4
        obtain ⟨a9, e7, h8⟩ := Option.bind_eq_some_iff.mp h6
        obtain ⟨a12, e9, h10⟩ := Option.bind_eq_some_iff.mp h8
        obtain ⟨S15, e11, h12⟩ := Option.bind_eq_some_iff.mp h10
        have f13 : Fr v1 v2 S0 S15 := (Fr.rf (S := S0)).tr (fr_sL e11 (fun k => by refine s2 _ _ ?_; unfold w2_lp_X0_passHour_2; exact rfl))
        obtain ⟨a18, e14, h15⟩ := Option.bind_eq_some_iff.mp h12
        obtain ⟨S21, e16, h17⟩ := Option.bind_eq_some_iff.mp h15
        have f18 : Fr v1 v2 S0 S21 := f13.tr (fr_sI e16 (fun k => by refine s1 _ _ ?_; unfold w1_lp_X0_passHour_2; exact Or.inr (Or.inr (Or.inl (rfl)))))
        obtain ⟨a24, e19, h20⟩ := Option.bind_eq_some_iff.mp h17
        obtain ⟨a27, e21, h22⟩ := Option.bind_eq_some_iff.mp h20
        rcases fr_ite h22 with h23 | h23
        ·
          exact f18.tr (ih _ _ h23)
        ·
          obtain ⟨a31, e24, h25⟩ := Option.bind_eq_some_iff.mp h23
          obtain ⟨q34, e26, h27⟩ := Option.bind_eq_some_iff.mp h25
          have f28 : Fr v1 v2 S0 q34 := f18.tr (Fr.mo (fr_f_X0_putOn e26) (fun a k q => by refine s1 _ _ ?_; unfold w1_f_X0_putOn at q; unfold w1_lp_X0_passHour_2; rcases q with q | q | q | q; exact Or.inl (q); exact Or.inr (Or.inl (q)); exact Or.inr (Or.inr (Or.inl (q))); exact Or.inr (Or.inr (Or.inr ((q))))) (fun _ _ q => False.elim q))
          exact f28.tr (ih _ _ h27)
      ·
        obtain ⟨a37, e29, h30⟩ := Option.bind_eq_some_iff.mp h4
        obtain ⟨a40, e31, h32⟩ := Option.bind_eq_some_iff.mp h30
        obtain ⟨a43, e33, h34⟩ := Option.bind_eq_some_iff.mp h32
        obtain ⟨S46, e35, h36⟩ := Option.bind_eq_some_iff.mp h34
        have f37 : Fr v1 v2 S0 S46 := (Fr.rf (S := S0)).tr (fr_sL e35 (fun k => by refine s2 _ _ ?_; unfold w2_lp_X0_passHour_2; exact rfl))
        exact f37.tr (ih _ _ h36)
def w1_f_X0_passHour (v0 : Nat) (v1 : Nat) (a k : Nat) : Prop := (a = v0 ∧ k = 6) ∨ a = v0 + 1 ∨ a = v0 + 2 ∨ a = v0 + 3 ∨ a = v0 + 4
def w2_f_X0_passHour (v0 : Nat) (v1 : Nat) (a k : Nat) : Prop := a = v0 + 5
theorem fr_f_X0_passHour {v0 : Nat} {v1 : Nat} {S : fS} {r : fS} (h : f_X0_passHour v0 v1 S = some r) : Fr (w1_f_X0_passHour v0 v1) (w2_f_X0_passHour v0 v1) S r := by
  unfold f_X0_passHour at h
  refine (Fr.rf (S := S)).tr (fr_lp_X0_passHour_2 (v1 := w1_f_X0_passHour v0 v1) (v2 := w2_f_X0_passHour v0 v1) (fun a k q => by unfold w1_lp_X0_passHour_2 at q; unfold w1_f_X0_passHour; rcases q with q | q | q | q; exact Or.inr (Or.inl (q)); exact Or.inr (Or.inr (Or.inl (q))); exact Or.inr (Or.inr (Or.inr (Or.inl (q)))); exact Or.inr (Or.inr (Or.inr (Or.inr ((q)))))) (fun a k q => by unfold w2_lp_X0_passHour_2 at q; unfold w2_f_X0_passHour; exact q) (fun S49 h1 => ?_) _ _ _ h)
  obtain ⟨S51, e2, h3⟩ := Option.bind_eq_some_iff.mp h1
  have f4 : Fr (w1_f_X0_passHour v0 v1) (w2_f_X0_passHour v0 v1) S49 S51 := (Fr.rf (S := S49)).tr (fr_pI e2 (by unfold w1_f_X0_passHour; exact Or.inl (⟨rfl, rfl⟩)))
  exact fr_e1 h3 f4
def w1_lp_X0_live_3 (p0 : Nat) (p1 : Nat) (p2 : Option Nat) (a k : Nat) : Prop := (a = (p2.getD 127) ∧ k = 3) ∨ (a = p0 ∧ k = 6) ∨ a = p0 + 1 ∨ a = p0 + 2 ∨ a = p0 + 3 ∨ a = p0 + 4
def w2_lp_X0_live_3 (p0 : Nat) (p1 : Nat) (p2 : Option Nat) (a k : Nat) : Prop := a = (p2.getD 127) + 2 ∨ a = p0 + 5
theorem fr_lp_X0_live_3 {p0 : Nat} {p1 : Nat} {p2 : Option Nat} {p3 : Int32} {K : fS → Option (fS)} {r : fS} {v1 v2 : Nat → Nat → Prop} (s1 : ∀ a k, w1_lp_X0_live_3 p0 p1 p2 a k → v1 a k) (s2 : ∀ a k, w2_lp_X0_live_3 p0 p1 p2 a k → v2 a k) (hK : ∀ (x0 : fS), K x0 = some r → Fr v1 v2 x0 r) : ∀ (n : Nat) (p4 : Int32) (S0 : fS), lp_X0_live_3 p0 p1 p2 p3 K n p4 S0 = some r → Fr v1 v2 S0 r := by
  intro n
  induction n with
  | zero => intro p4 S0 h; exact mm_no h
  | succ n ih =>
    intro p4 S0 h
    cases p2 with
    | none =>
      rw [lp_X0_live_3.eq_2] at h
      rcases fr_ite h with h1 | h1
      ·
        exact (Fr.rf (S := S0)).tr (hK _ h1)
      ·
        obtain ⟨q3, e2, h3⟩ := Option.bind_eq_some_iff.mp h1
        have f4 : Fr v1 v2 S0 q3 := (Fr.rf (S := S0)).tr (Fr.mo (fr_f_X0_passHour e2) (fun a k q => by refine s1 _ _ ?_; unfold w1_f_X0_passHour at q; unfold w1_lp_X0_live_3; rcases q with q | q | q | q | q; exact Or.inr (Or.inl (q)); exact Or.inr (Or.inr (Or.inl (q))); exact Or.inr (Or.inr (Or.inr (Or.inl (q)))); exact Or.inr (Or.inr (Or.inr (Or.inr (Or.inl (q))))); exact Or.inr (Or.inr (Or.inr (Or.inr (Or.inr ((q))))))) (fun a k q => by refine s2 _ _ ?_; unfold w2_f_X0_passHour at q; unfold w2_lp_X0_live_3; exact Or.inr ((q))))
        exact f4.tr (ih _ _ h3)
    | some a2 =>
      rw [lp_X0_live_3.eq_3] at h
      rcases fr_ite h with h5 | h5
      ·
        exact (Fr.rf (S := S0)).tr (hK _ h5)
      ·
        obtain ⟨q6, e6, h7⟩ := Option.bind_eq_some_iff.mp h5
        have f8 : Fr v1 v2 S0 q6 := (Fr.rf (S := S0)).tr (Fr.mo (fr_f_X0_obey e6) (fun a k q => by refine s1 _ _ ?_; unfold w1_f_X0_obey at q; unfold w1_lp_X0_live_3; rcases q with q | q | q | q | q; exact Or.inr (Or.inr (Or.inl (q))); exact Or.inr (Or.inr (Or.inr (Or.inl (q)))); exact Or.inr (Or.inr (Or.inr (Or.inr (Or.inl (q))))); exact Or.inr (Or.inr (Or.inr (Or.inr (Or.inr ((q)))))); exact Or.inl (q)) (fun a k q => by refine s2 _ _ ?_; unfold w2_f_X0_obey at q; unfold w2_lp_X0_live_3; exact Or.inl (q)))
        obtain ⟨q9, e9, h10⟩ := Option.bind_eq_some_iff.mp h7
        have f11 : Fr v1 v2 S0 q9 := f8.tr (Fr.mo (fr_f_X0_passHour e9) (fun a k q => by refine s1 _ _ ?_; unfold w1_f_X0_passHour at q; unfold w1_lp_X0_live_3; rcases q with q | q | q | q | q; exact Or.inr (Or.inl (q)); exact Or.inr (Or.inr (Or.inl (q))); exact Or.inr (Or.inr (Or.inr (Or.inl (q)))); exact Or.inr (Or.inr (Or.inr (Or.inr (Or.inl (q))))); exact Or.inr (Or.inr (Or.inr (Or.inr (Or.inr ((q))))))) (fun a k q => by refine s2 _ _ ?_; unfold w2_f_X0_passHour at q; unfold w2_lp_X0_live_3; exact Or.inr ((q))))
        exact f11.tr (ih _ _ h10)
def w1_f_X0_live (v0 : Nat) (v1 : Nat) (v2 : Option Nat) (a k : Nat) : Prop := (a = (v2.getD 127) ∧ k = 3) ∨ (a = v0 ∧ k = 6) ∨ a = v0 + 1 ∨ a = v0 + 2 ∨ a = v0 + 3 ∨ a = v0 + 4
def w2_f_X0_live (v0 : Nat) (v1 : Nat) (v2 : Option Nat) (a k : Nat) : Prop := a = (v2.getD 127) + 2 ∨ a = v0 + 5
theorem fr_f_X0_live {v0 : Nat} {v1 : Nat} {v2 : Option Nat} {v3 : Int32} {S : fS} {r : fS} (h : f_X0_live v0 v1 v2 v3 S = some r) : Fr (w1_f_X0_live v0 v1 v2) (w2_f_X0_live v0 v1 v2) S r := by
  unfold f_X0_live at h
  refine (Fr.rf (S := S)).tr (fr_lp_X0_live_3 (v1 := w1_f_X0_live v0 v1 v2) (v2 := w2_f_X0_live v0 v1 v2) (fun a k q => by unfold w1_lp_X0_live_3 at q; unfold w1_f_X0_live; rcases q with q | q | q | q | q | q; exact Or.inl (q); exact Or.inr (Or.inl (q)); exact Or.inr (Or.inr (Or.inl (q))); exact Or.inr (Or.inr (Or.inr (Or.inl (q)))); exact Or.inr (Or.inr (Or.inr (Or.inr (Or.inl (q))))); exact Or.inr (Or.inr (Or.inr (Or.inr (Or.inr ((q))))))) (fun a k q => by unfold w2_lp_X0_live_3 at q; unfold w2_f_X0_live; rcases q with q | q; exact Or.inl (q); exact Or.inr ((q))) (fun S12 h1 => ?_) _ _ _ h)
  exact fr_e1 h1 (Fr.rf (S := S12))
def w1_f_X10_tick (a k : Nat) : Prop := (a = 11 ∧ k = 6) ∨ a = 12 ∨ a = 13 ∨ a = 14 ∨ a = 15 ∨ (127 ≤ a ∧ a ≤ 144)
def w2_f_X10_tick (a k : Nat) : Prop := a = 16 ∨ (127 ≤ a ∧ a ≤ 144)
theorem fr_f_X10_tick {v1 : Int32} {v2 : Int32} {S : fS} {r : Int32 × fS} (h : f_X10_tick v1 v2 S = some r) : Fr (w1_f_X10_tick) (w2_f_X10_tick) S r.2 := by
  unfold f_X10_tick at h
  obtain ⟨q1, e1, h2⟩ := Option.bind_eq_some_iff.mp h
  rcases fr_ite h2 with h3 | h3
  ·
    exact fr_e2 h3 (Fr.rf (S := S))
  ·
    obtain ⟨q5, e4, h5⟩ := Option.bind_eq_some_iff.mp h3
    rcases fr_ite h5 with h6 | h6
    ·
      exact fr_e2 h6 (Fr.rf (S := S))
    ·
      rcases fr_ite h6 with h7 | h7
      ·
        obtain ⟨q10, e8, h9⟩ := Option.bind_eq_some_iff.mp h7
        have g10 := fr_rON e8
        obtain ⟨q13, e11, h12⟩ := Option.bind_eq_some_iff.mp h9
        have f13 : Fr (w1_f_X10_tick) (w2_f_X10_tick) S q13 := (Fr.rf (S := S)).tr (Fr.mo (fr_f_X0_live e11) (fun a k q => by unfold w1_f_X0_live at q; unfold w1_f_X10_tick; rcases q with q | q | q | q | q | q; exact Or.inr (Or.inr (Or.inr (Or.inr (Or.inr (((by omega))))))); exact Or.inl (q); exact Or.inr (Or.inl (q)); exact Or.inr (Or.inr (Or.inl (q))); exact Or.inr (Or.inr (Or.inr (Or.inl (q)))); exact Or.inr (Or.inr (Or.inr (Or.inr (Or.inl (q)))))) (fun a k q => by unfold w2_f_X0_live at q; unfold w2_f_X10_tick; rcases q with q | q; exact Or.inr (((by omega))); exact Or.inl (q)))
        exact fr_e2 h12 f13
      ·
        exact fr_e2 h7 (Fr.rf (S := S))
def w1_f_X10_lookAhead (a k : Nat) : Prop := (a = 31 ∧ k = 5) ∨ (a = 31 ∧ k = 6) ∨ a = 32 ∨ a = 33 ∨ a = 34 ∨ a = 35 ∨ (127 ≤ a ∧ a ≤ 144)
def w2_f_X10_lookAhead (a k : Nat) : Prop := a = 36 ∨ (127 ≤ a ∧ a ≤ 144)
theorem fr_f_X10_lookAhead {v1 : Int32} {v2 : Int32} {S : fS} {r : fS} (h : f_X10_lookAhead v1 v2 S = some r) : Fr (w1_f_X10_lookAhead) (w2_f_X10_lookAhead) S r := by
  unfold f_X10_lookAhead at h
  obtain ⟨q1, e1, h2⟩ := Option.bind_eq_some_iff.mp h
  have f3 : Fr (w1_f_X10_lookAhead) (w2_f_X10_lookAhead) S q1 := (Fr.rf (S := S)).tr (Fr.mo (fr_f_X0_copyFrom e1) (fun a k q => by unfold w1_f_X0_copyFrom at q; unfold w1_f_X10_lookAhead; rcases q with q | q | q | q | q | q; exact Or.inl (q); exact Or.inr (Or.inl (q)); exact Or.inr (Or.inr (Or.inl (q))); exact Or.inr (Or.inr (Or.inr (Or.inl (q)))); exact Or.inr (Or.inr (Or.inr (Or.inr (Or.inl (q))))); exact Or.inr (Or.inr (Or.inr (Or.inr (Or.inr (Or.inl (q))))))) (fun a k q => by unfold w2_f_X0_copyFrom at q; unfold w2_f_X10_lookAhead; exact Or.inl (q)))
  obtain ⟨q4, e4, h5⟩ := Option.bind_eq_some_iff.mp h2
  have g6 := fr_rON e4
  obtain ⟨q7, e7, h8⟩ := Option.bind_eq_some_iff.mp h5
  have f9 : Fr (w1_f_X10_lookAhead) (w2_f_X10_lookAhead) S q7 := f3.tr (Fr.mo (fr_f_X0_live e7) (fun a k q => by unfold w1_f_X0_live at q; unfold w1_f_X10_lookAhead; rcases q with q | q | q | q | q | q; exact Or.inr (Or.inr (Or.inr (Or.inr (Or.inr (Or.inr (((by omega)))))))); exact Or.inr (Or.inl (q)); exact Or.inr (Or.inr (Or.inl (q))); exact Or.inr (Or.inr (Or.inr (Or.inl (q)))); exact Or.inr (Or.inr (Or.inr (Or.inr (Or.inl (q))))); exact Or.inr (Or.inr (Or.inr (Or.inr (Or.inr (Or.inl (q))))))) (fun a k q => by unfold w2_f_X0_live at q; unfold w2_f_X10_lookAhead; rcases q with q | q; exact Or.inr (((by omega))); exact Or.inl (q)))
  exact fr_e1 h8 f9
def w1_f_X10_ahead (a k : Nat) : Prop := (a = 31 ∧ k = 5) ∨ (a = 31 ∧ k = 6) ∨ a = 32 ∨ a = 33 ∨ a = 34 ∨ a = 35 ∨ (127 ≤ a ∧ a ≤ 144)
def w2_f_X10_ahead (a k : Nat) : Prop := a = 36 ∨ (127 ≤ a ∧ a ≤ 144)
theorem fr_f_X10_ahead {v1 : Int32} {v2 : Int32} {v3 : Int32} {v4 : Int32} {S : fS} {r : Int64 × fS} (h : f_X10_ahead v1 v2 v3 v4 S = some r) : Fr (w1_f_X10_ahead) (w2_f_X10_ahead) S r.2 := by
  unfold f_X10_ahead at h
  obtain ⟨q1, e1, h2⟩ := Option.bind_eq_some_iff.mp h
  rcases fr_ite h2 with h3 | h3
  ·
    exact fr_e2 h3 (Fr.rf (S := S))
  ·
    obtain ⟨q5, e4, h5⟩ := Option.bind_eq_some_iff.mp h3
    rcases fr_ite h5 with h6 | h6
    ·
      exact fr_e2 h6 (Fr.rf (S := S))
    ·
      obtain ⟨q9, e7, h8⟩ := Option.bind_eq_some_iff.mp h6
      rcases fr_ite h8 with h9 | h9
      ·
        exact fr_e2 h9 (Fr.rf (S := S))
      ·
        obtain ⟨q13, e10, h11⟩ := Option.bind_eq_some_iff.mp h9
        rcases fr_ite h11 with h12 | h12
        ·
          exact fr_e2 h12 (Fr.rf (S := S))
        ·
          obtain ⟨q17, e13, h14⟩ := Option.bind_eq_some_iff.mp h12
          have f15 : Fr (w1_f_X10_ahead) (w2_f_X10_ahead) S q17 := (Fr.rf (S := S)).tr (Fr.mo (fr_f_X10_lookAhead e13) (fun a k q => by unfold w1_f_X10_lookAhead at q; unfold w1_f_X10_ahead; rcases q with q | q | q | q | q | q | q; exact Or.inl (q); exact Or.inr (Or.inl (q)); exact Or.inr (Or.inr (Or.inl (q))); exact Or.inr (Or.inr (Or.inr (Or.inl (q)))); exact Or.inr (Or.inr (Or.inr (Or.inr (Or.inl (q))))); exact Or.inr (Or.inr (Or.inr (Or.inr (Or.inr (Or.inl (q)))))); exact Or.inr (Or.inr (Or.inr (Or.inr (Or.inr (Or.inr ((q)))))))) (fun a k q => by unfold w2_f_X10_lookAhead at q; unfold w2_f_X10_ahead; rcases q with q | q; exact Or.inl (q); exact Or.inr ((q))))
          rcases fr_ite h14 with h16 | h16
          ·
            obtain ⟨q31, e17, h18⟩ := Option.bind_eq_some_iff.mp h16
            rcases fr_ite h18 with h19 | h19
            ·
              exact fr_e2 h19 f15
            ·
              obtain ⟨a35, e20, h21⟩ := Option.bind_eq_some_iff.mp h19
              exact fr_e2 h21 f15
          ·
            rcases fr_ite h16 with h22 | h22
            ·
              obtain ⟨q28, e23, h24⟩ := Option.bind_eq_some_iff.mp h22
              exact fr_e2 h24 f15
            ·
              obtain ⟨a22, e25, h26⟩ := Option.bind_eq_some_iff.mp h22
              obtain ⟨q25, e27, h28⟩ := Option.bind_eq_some_iff.mp h26
              exact fr_e2 h28 f15
def w1_lp_X1_measure_3 (p1 : Nat) (a k : Nat) : Prop := False
def w2_lp_X1_measure_3 (p1 : Nat) (a k : Nat) : Prop := a = 44
theorem fr_lp_X1_measure_3 {p1 : Nat} {p2 : Int32} {p3 : Int32} {p4 : Int32} {K : fS → Option (fS)} {r : fS} {v1 v2 : Nat → Nat → Prop} (s1 : ∀ a k, w1_lp_X1_measure_3 p1 a k → v1 a k) (s2 : ∀ a k, w2_lp_X1_measure_3 p1 a k → v2 a k) (hK : ∀ (x0 : fS), K x0 = some r → Fr v1 v2 x0 r) : ∀ (n : Nat) (p5 : Int32) (S0 : fS), lp_X1_measure_3 p1 p2 p3 p4 K n p5 S0 = some r → Fr v1 v2 S0 r := by
  intro n
  induction n with
  | zero => intro p5 S0 h; exact mm_no h
  | succ n ih =>
    intro p5 S0 h
    rw [lp_X1_measure_3.eq_2] at h
    rcases fr_ite h with h1 | h1
    ·
      exact (Fr.rf (S := S0)).tr (hK _ h1)
    ·
      rcases fr_ite h1 with h2 | h2
      ·
        obtain ⟨S6, e3, h4⟩ := Option.bind_eq_some_iff.mp h2
        have f5 : Fr v1 v2 S0 S6 := (Fr.rf (S := S0)).tr (fr_sL e3 (fun k => by refine s2 _ _ ?_; unfold w2_lp_X1_measure_3; exact rfl))
        exact f5.tr (ih _ _ h4)
      ·
        obtain ⟨S3, e6, h7⟩ := Option.bind_eq_some_iff.mp h2
        have f8 : Fr v1 v2 S0 S3 := (Fr.rf (S := S0)).tr (fr_sL e6 (fun k => by refine s2 _ _ ?_; unfold w2_lp_X1_measure_3; exact rfl))
        exact f8.tr (ih _ _ h7)
def w1_lp_X1_measure_55 (p1 : Nat) (a k : Nat) : Prop := False
def w2_lp_X1_measure_55 (p1 : Nat) (a k : Nat) : Prop := a = 44
theorem fr_lp_X1_measure_55 {p1 : Nat} {p3 : Int32} {p4 : Int32} {p5 : Int32} {K : fS → Option (fS)} {r : fS} {v1 v2 : Nat → Nat → Prop} (s1 : ∀ a k, w1_lp_X1_measure_55 p1 a k → v1 a k) (s2 : ∀ a k, w2_lp_X1_measure_55 p1 a k → v2 a k) (hK : ∀ (x0 : fS), K x0 = some r → Fr v1 v2 x0 r) : ∀ (n : Nat) (p6 : Int32) (S0 : fS), lp_X1_measure_55 p1 p3 p4 p5 K n p6 S0 = some r → Fr v1 v2 S0 r := by
  intro n
  induction n with
  | zero => intro p6 S0 h; exact mm_no h
  | succ n ih =>
    intro p6 S0 h
    rw [lp_X1_measure_55.eq_2] at h
    rcases fr_ite h with h1 | h1
    ·
      exact (Fr.rf (S := S0)).tr (hK _ h1)
    ·
      obtain ⟨q14, e2, h3⟩ := Option.bind_eq_some_iff.mp h1
      obtain ⟨S17, e4, h5⟩ := Option.bind_eq_some_iff.mp h3
      have f6 : Fr v1 v2 S0 S17 := (Fr.rf (S := S0)).tr (fr_sL e4 (fun k => by refine s2 _ _ ?_; unfold w2_lp_X1_measure_55; exact rfl))
      exact f6.tr (ih _ _ h5)
def w1_lp_X1_measure_39 (p1 : Nat) (a k : Nat) : Prop := False
def w2_lp_X1_measure_39 (p1 : Nat) (a k : Nat) : Prop := a = 44
theorem fr_lp_X1_measure_39 {p1 : Nat} {p3 : Int32} {p4 : Int32} {K : fS → Option (fS)} {r : fS} {v1 v2 : Nat → Nat → Prop} (s1 : ∀ a k, w1_lp_X1_measure_39 p1 a k → v1 a k) (s2 : ∀ a k, w2_lp_X1_measure_39 p1 a k → v2 a k) (hK : ∀ (x0 : fS), K x0 = some r → Fr v1 v2 x0 r) : ∀ (n : Nat) (p5 : Int32) (S0 : fS), lp_X1_measure_39 p1 p3 p4 K n p5 S0 = some r → Fr v1 v2 S0 r := by
  intro n
  induction n with
  | zero => intro p5 S0 h; exact mm_no h
  | succ n ih =>
    intro p5 S0 h
    rw [lp_X1_measure_39.eq_2] at h
    rcases fr_ite h with h1 | h1
    ·
      exact (Fr.rf (S := S0)).tr (hK _ h1)
    ·
      rcases fr_ite h1 with h2 | h2
      ·
        exact (Fr.rf (S := S0)).tr (hK _ h2)
      ·
        refine (Fr.rf (S := S0)).tr (fr_lp_X1_measure_55 (v1 := v1) (v2 := v2) (fun _ _ q => False.elim q) (fun a k q => by refine s2 _ _ ?_; unfold w2_lp_X1_measure_55 at q; unfold w2_lp_X1_measure_39; exact q) (fun S20 h3 => ?_) _ _ _ h2)
        exact (Fr.rf (S := S20)).tr (ih _ _ h3)
def w1_f_X1_measure (v1 : Nat) (a k : Nat) : Prop := False
def w2_f_X1_measure (v1 : Nat) (a k : Nat) : Prop := a = 44
theorem fr_f_X1_measure {v1 : Nat} {v2 : Int32} {v3 : Int32} {v4 : Int32} {S : fS} {r : fS} (h : f_X1_measure v1 v2 v3 v4 S = some r) : Fr (w1_f_X1_measure v1) (w2_f_X1_measure v1) S r := by
  unfold f_X1_measure at h
  refine (Fr.rf (S := S)).tr (fr_lp_X1_measure_3 (v1 := w1_f_X1_measure v1) (v2 := w2_f_X1_measure v1) (fun _ _ q => False.elim q) (fun a k q => by unfold w2_lp_X1_measure_3 at q; unfold w2_f_X1_measure; exact q) (fun S9 h1 => ?_) _ _ _ h)
  refine (Fr.rf (S := S9)).tr (fr_lp_X1_measure_39 (v1 := w1_f_X1_measure v1) (v2 := w2_f_X1_measure v1) (fun _ _ q => False.elim q) (fun a k q => by unfold w2_lp_X1_measure_39 at q; unfold w2_f_X1_measure; exact q) (fun S22 h2 => ?_) _ _ _ h1)
  exact fr_e1 h2 (Fr.rf (S := S22))
def w1_f_X10_plan (a k : Nat) : Prop := False
def w2_f_X10_plan (a k : Nat) : Prop := a = 44
theorem fr_f_X10_plan {v1 : Int32} {v2 : Int32} {v3 : Int32} {v4 : Int32} {v5 : Int32} {S : fS} {r : Int64 × fS} (h : f_X10_plan v1 v2 v3 v4 v5 S = some r) : Fr (w1_f_X10_plan) (w2_f_X10_plan) S r.2 := by
  unfold f_X10_plan at h
  obtain ⟨q1, e1, h2⟩ := Option.bind_eq_some_iff.mp h
  rcases fr_ite h2 with h3 | h3
  ·
    exact fr_e2 h3 (Fr.rf (S := S))
  ·
    obtain ⟨q5, e4, h5⟩ := Option.bind_eq_some_iff.mp h3
    rcases fr_ite h5 with h6 | h6
    ·
      exact fr_e2 h6 (Fr.rf (S := S))
    ·
      obtain ⟨q9, e7, h8⟩ := Option.bind_eq_some_iff.mp h6
      rcases fr_ite h8 with h9 | h9
      ·
        exact fr_e2 h9 (Fr.rf (S := S))
      ·
        obtain ⟨q13, e10, h11⟩ := Option.bind_eq_some_iff.mp h9
        rcases fr_ite h11 with h12 | h12
        ·
          exact fr_e2 h12 (Fr.rf (S := S))
        ·
          obtain ⟨a17, e13, h14⟩ := Option.bind_eq_some_iff.mp h12
          obtain ⟨q20, e15, h16⟩ := Option.bind_eq_some_iff.mp h14
          have f17 : Fr (w1_f_X10_plan) (w2_f_X10_plan) S q20 := (Fr.rf (S := S)).tr (Fr.mo (fr_f_X1_measure e15) (fun _ _ q => False.elim q) (fun a k q => by unfold w2_f_X1_measure at q; unfold w2_f_X10_plan; exact q))
          obtain ⟨q23, e18, h19⟩ := Option.bind_eq_some_iff.mp h16
          rcases fr_ite h19 with h20 | h20
          ·
            rcases fr_ite h20 with h21 | h21
            ·
              obtain ⟨q34, e22, h23⟩ := Option.bind_eq_some_iff.mp h21
              exact fr_e2 h23 f17
            ·
              obtain ⟨a28, e24, h25⟩ := Option.bind_eq_some_iff.mp h21
              obtain ⟨q31, e26, h27⟩ := Option.bind_eq_some_iff.mp h25
              exact fr_e2 h27 f17
          ·
            exact fr_e2 h20 f17
def w1_f_X3_keep (a k : Nat) : Prop := (a = 45 ∧ k = 5)
def w2_f_X3_keep (a k : Nat) : Prop := a = 46
theorem fr_f_X3_keep {v1 : Int32} {v2 : Int64} {S : fS} {r : Int32 × fS} (h : f_X3_keep v1 v2 S = some r) : Fr (w1_f_X3_keep) (w2_f_X3_keep) S r.2 := by
  unfold f_X3_keep at h
  rcases fr_ite h with h1 | h1
  ·
    rcases fr_ite h1 with h2 | h2
    ·
      obtain ⟨S3, e3, h4⟩ := Option.bind_eq_some_iff.mp h2
      have f5 : Fr (w1_f_X3_keep) (w2_f_X3_keep) S S3 := (Fr.rf (S := S)).tr (fr_sL e3 (fun k => by unfold w2_f_X3_keep; exact rfl))
      obtain ⟨S6, e6, h7⟩ := Option.bind_eq_some_iff.mp h4
      have f8 : Fr (w1_f_X3_keep) (w2_f_X3_keep) S S6 := f5.tr (fr_pI e6 (by unfold w1_f_X3_keep; exact ⟨rfl, rfl⟩))
      exact fr_e2 h7 f8
    ·
      exact fr_e2 h2 (Fr.rf (S := S))
  ·
    obtain ⟨a9, e9, h10⟩ := Option.bind_eq_some_iff.mp h1
    obtain ⟨q12, e11, h12⟩ := Option.bind_eq_some_iff.mp h10
    obtain ⟨q15, e13, h14⟩ := Option.bind_eq_some_iff.mp h12
    rcases fr_ite h14 with h15 | h15
    ·
      exact fr_e2 h15 (Fr.rf (S := S))
    ·
      rcases fr_ite h15 with h16 | h16
      ·
        obtain ⟨S20, e17, h18⟩ := Option.bind_eq_some_iff.mp h16
        have f19 : Fr (w1_f_X3_keep) (w2_f_X3_keep) S S20 := (Fr.rf (S := S)).tr (fr_sL e17 (fun k => by unfold w2_f_X3_keep; exact rfl))
        obtain ⟨S23, e20, h21⟩ := Option.bind_eq_some_iff.mp h18
        have f22 : Fr (w1_f_X3_keep) (w2_f_X3_keep) S S23 := f19.tr (fr_pI e20 (by unfold w1_f_X3_keep; exact ⟨rfl, rfl⟩))
        exact fr_e2 h21 f22
      ·
        exact fr_e2 h16 (Fr.rf (S := S))
def w1_f_X3_addSource (a k : Nat) : Prop := (a = 45 ∧ k = 6) ∨ a = 48 ∨ a = 49
def w2_f_X3_addSource (a k : Nat) : Prop := a = 50
theorem fr_f_X3_addSource {v1 : Int32} {v2 : Int64} {S : fS} {r : fS} (h : f_X3_addSource v1 v2 S = some r) : Fr (w1_f_X3_addSource) (w2_f_X3_addSource) S r := by
  unfold f_X3_addSource at h
  rcases fr_ite h with h1 | h1
  ·
    exact fr_e1 h1 (Fr.rf (S := S))
  ·
    obtain ⟨a2, e2, h3⟩ := Option.bind_eq_some_iff.mp h1
    obtain ⟨a5, e4, h5⟩ := Option.bind_eq_some_iff.mp h3
    rcases fr_ite h5 with h6 | h6
    ·
      exact fr_e1 h6 (Fr.rf (S := S))
    ·
      obtain ⟨a9, e7, h8⟩ := Option.bind_eq_some_iff.mp h6
      obtain ⟨S12, e9, h10⟩ := Option.bind_eq_some_iff.mp h8
      have f11 : Fr (w1_f_X3_addSource) (w2_f_X3_addSource) S S12 := (Fr.rf (S := S)).tr (fr_sI e9 (fun k => by unfold w1_f_X3_addSource; exact Or.inr (Or.inl (rfl))))
      obtain ⟨a15, e12, h13⟩ := Option.bind_eq_some_iff.mp h10
      obtain ⟨S18, e14, h15⟩ := Option.bind_eq_some_iff.mp h13
      have f16 : Fr (w1_f_X3_addSource) (w2_f_X3_addSource) S S18 := f11.tr (fr_sI e14 (fun k => by unfold w1_f_X3_addSource; exact Or.inr (Or.inr ((rfl)))))
      obtain ⟨S21, e17, h18⟩ := Option.bind_eq_some_iff.mp h15
      have f19 : Fr (w1_f_X3_addSource) (w2_f_X3_addSource) S S21 := f16.tr (fr_sL e17 (fun k => by unfold w2_f_X3_addSource; exact rfl))
      obtain ⟨S24, e20, h21⟩ := Option.bind_eq_some_iff.mp h18
      have f22 : Fr (w1_f_X3_addSource) (w2_f_X3_addSource) S S24 := f19.tr (fr_pI e20 (by unfold w1_f_X3_addSource; exact Or.inl (⟨rfl, rfl⟩)))
      exact fr_e1 h21 f22
def w1_lp_X3_gatherSources_37 (p1 : Nat) (a k : Nat) : Prop := (a = 45 ∧ k = 6) ∨ a = 48 ∨ a = 49
def w2_lp_X3_gatherSources_37 (p1 : Nat) (a k : Nat) : Prop := a = 50
theorem fr_lp_X3_gatherSources_37 {p1 : Nat} {p2 : Int32} {p3 : Int32} {K : fS → Option (fS)} {r : fS} {v1 v2 : Nat → Nat → Prop} (s1 : ∀ a k, w1_lp_X3_gatherSources_37 p1 a k → v1 a k) (s2 : ∀ a k, w2_lp_X3_gatherSources_37 p1 a k → v2 a k) (hK : ∀ (x0 : fS), K x0 = some r → Fr v1 v2 x0 r) : ∀ (n : Nat) (p4 : Int32) (S0 : fS), lp_X3_gatherSources_37 p1 p2 p3 K n p4 S0 = some r → Fr v1 v2 S0 r := by
  intro n
  induction n with
  | zero => intro p4 S0 h; exact mm_no h
  | succ n ih =>
    intro p4 S0 h
    rw [lp_X3_gatherSources_37.eq_2] at h
    rcases fr_ite h with h1 | h1
    ·
      exact (Fr.rf (S := S0)).tr (hK _ h1)
    ·
      obtain ⟨q6, e2, h3⟩ := Option.bind_eq_some_iff.mp h1
      obtain ⟨a9, e4, h5⟩ := Option.bind_eq_some_iff.mp h3
      rcases fr_ite h5 with h6 | h6
      ·
        exact (Fr.rf (S := S0)).tr (ih _ _ h6)
      ·
        rcases fr_ite h6 with h7 | h7
        ·
          exact (Fr.rf (S := S0)).tr (ih _ _ h7)
        ·
          obtain ⟨a14, e8, h9⟩ := Option.bind_eq_some_iff.mp h7
          obtain ⟨q17, e10, h11⟩ := Option.bind_eq_some_iff.mp h9
          obtain ⟨q20, e12, h13⟩ := Option.bind_eq_some_iff.mp h11
          have f14 : Fr v1 v2 S0 q20 := (Fr.rf (S := S0)).tr (Fr.mo (fr_f_X3_addSource e12) (fun a k q => by refine s1 _ _ ?_; unfold w1_f_X3_addSource at q; unfold w1_lp_X3_gatherSources_37; rcases q with q | q | q; exact Or.inl (q); exact Or.inr (Or.inl (q)); exact Or.inr (Or.inr ((q)))) (fun a k q => by refine s2 _ _ ?_; unfold w2_f_X3_addSource at q; unfold w2_lp_X3_gatherSources_37; exact q))
          exact f14.tr (ih _ _ h13)
def w1_f_X3_gatherSources (v1 : Nat) (a k : Nat) : Prop := (a = 45 ∧ k = 6) ∨ a = 48 ∨ a = 49
def w2_f_X3_gatherSources (v1 : Nat) (a k : Nat) : Prop := a = 50
theorem fr_f_X3_gatherSources {v1 : Nat} {v2 : Int32} {v3 : Int32} {S : fS} {r : fS} (h : f_X3_gatherSources v1 v2 v3 S = some r) : Fr (w1_f_X3_gatherSources v1) (w2_f_X3_gatherSources v1) S r := by
  unfold f_X3_gatherSources at h
  obtain ⟨S1, e1, h2⟩ := Option.bind_eq_some_iff.mp h
  have f3 : Fr (w1_f_X3_gatherSources v1) (w2_f_X3_gatherSources v1) S S1 := (Fr.rf (S := S)).tr (fr_pI e1 (by unfold w1_f_X3_gatherSources; exact Or.inl (⟨rfl, rfl⟩)))
  rcases fr_ite h2 with h4 | h4
  ·
    refine f3.tr (fr_lp_X3_gatherSources_37 (v1 := w1_f_X3_gatherSources v1) (v2 := w2_f_X3_gatherSources v1) (fun a k q => by unfold w1_lp_X3_gatherSources_37 at q; unfold w1_f_X3_gatherSources; rcases q with q | q | q; exact Or.inl (q); exact Or.inr (Or.inl (q)); exact Or.inr (Or.inr ((q)))) (fun a k q => by unfold w2_lp_X3_gatherSources_37 at q; unfold w2_f_X3_gatherSources; exact q) (fun S23 h5 => ?_) _ _ _ h4)
    exact fr_e1 h5 (Fr.rf (S := S23))
  ·
    obtain ⟨a25, e6, h7⟩ := Option.bind_eq_some_iff.mp h4
    obtain ⟨q28, e8, h9⟩ := Option.bind_eq_some_iff.mp h7
    obtain ⟨q31, e10, h11⟩ := Option.bind_eq_some_iff.mp h9
    have f12 : Fr (w1_f_X3_gatherSources v1) (w2_f_X3_gatherSources v1) S q31 := f3.tr (Fr.mo (fr_f_X3_addSource e10) (fun a k q => by unfold w1_f_X3_addSource at q; unfold w1_f_X3_gatherSources; rcases q with q | q | q; exact Or.inl (q); exact Or.inr (Or.inl (q)); exact Or.inr (Or.inr ((q)))) (fun a k q => by unfold w2_f_X3_addSource at q; unfold w2_f_X3_gatherSources; exact q))
    refine f12.tr (fr_lp_X3_gatherSources_37 (v1 := w1_f_X3_gatherSources v1) (v2 := w2_f_X3_gatherSources v1) (fun a k q => by unfold w1_lp_X3_gatherSources_37 at q; unfold w1_f_X3_gatherSources; rcases q with q | q | q; exact Or.inl (q); exact Or.inr (Or.inl (q)); exact Or.inr (Or.inr ((q)))) (fun a k q => by unfold w2_lp_X3_gatherSources_37 at q; unfold w2_f_X3_gatherSources; exact q) (fun S34 h13 => ?_) _ _ _ h11)
    exact fr_e1 h13 (Fr.rf (S := S34))
def w1_lp_X3_merge_2 (a k : Nat) : Prop := (a = 45 ∧ k = 5) ∨ a = 48
def w2_lp_X3_merge_2 (a k : Nat) : Prop := a = 46
theorem fr_lp_X3_merge_2 {p1 : Int32} {K : fS → Option (Int32 × fS)} {r : Int32 × fS} {v1 v2 : Nat → Nat → Prop} (s1 : ∀ a k, w1_lp_X3_merge_2 a k → v1 a k) (s2 : ∀ a k, w2_lp_X3_merge_2 a k → v2 a k) (hK : ∀ (x0 : fS), K x0 = some r → Fr v1 v2 x0 r.2) : ∀ (n : Nat) (p2 : Int32) (S0 : fS), lp_X3_merge_2 p1 K n p2 S0 = some r → Fr v1 v2 S0 r.2 := by
  intro n
  induction n with
  | zero => intro p2 S0 h; exact mm_no h
  | succ n ih =>
    intro p2 S0 h
    rw [lp_X3_merge_2.eq_2] at h
    rcases fr_ite h with h1 | h1
    ·
      exact (Fr.rf (S := S0)).tr (hK _ h1)
    ·
      obtain ⟨q2, e2, h3⟩ := Option.bind_eq_some_iff.mp h1
      rcases fr_ite h3 with h4 | h4
      ·
        obtain ⟨a6, e5, h6⟩ := Option.bind_eq_some_iff.mp h4
        obtain ⟨a9, e7, h8⟩ := Option.bind_eq_some_iff.mp h6
        obtain ⟨S12, e9, h10⟩ := Option.bind_eq_some_iff.mp h8
        have f11 : Fr v1 v2 S0 S12 := (Fr.rf (S := S0)).tr (fr_sI e9 (fun k => by refine s1 _ _ ?_; unfold w1_lp_X3_merge_2; exact Or.inr ((rfl))))
        obtain ⟨a15, e12, h13⟩ := Option.bind_eq_some_iff.mp h10
        obtain ⟨a18, e14, h15⟩ := Option.bind_eq_some_iff.mp h13
        obtain ⟨q21, e16, h17⟩ := Option.bind_eq_some_iff.mp h15
        have f18 : Fr v1 v2 S0 q21.2 := f11.tr (Fr.mo (fr_f_X3_keep e16) (fun a k q => by refine s1 _ _ ?_; unfold w1_f_X3_keep at q; unfold w1_lp_X3_merge_2; exact Or.inl (q)) (fun a k q => by refine s2 _ _ ?_; unfold w2_f_X3_keep at q; unfold w2_lp_X3_merge_2; exact q))
        rcases fr_ite h17 with h19 | h19
        ·
          exact fr_e2 h19 f18
        ·
          exact f18.tr (ih _ _ h19)
      ·
        exact fr_e2 h4 (Fr.rf (S := S0))
def w1_f_X3_merge (a k : Nat) : Prop := (a = 45 ∧ k = 5) ∨ a = 48
def w2_f_X3_merge (a k : Nat) : Prop := a = 46
theorem fr_f_X3_merge {v1 : Int32} {S : fS} {r : Int32 × fS} (h : f_X3_merge v1 S = some r) : Fr (w1_f_X3_merge) (w2_f_X3_merge) S r.2 := by
  unfold f_X3_merge at h
  refine (Fr.rf (S := S)).tr (fr_lp_X3_merge_2 (v1 := w1_f_X3_merge) (v2 := w2_f_X3_merge) (fun a k q => by unfold w1_lp_X3_merge_2 at q; unfold w1_f_X3_merge; rcases q with q | q; exact Or.inl (q); exact Or.inr ((q))) (fun a k q => by unfold w2_lp_X3_merge_2 at q; unfold w2_f_X3_merge; exact q) (fun S25 h1 => ?_) _ _ _ h)
  exact fr_e2 h1 (Fr.rf (S := S25))
def w1_lp_X3_spread_24 (p1 : Nat) (a k : Nat) : Prop := (a = 45 ∧ k = 5) ∨ (a = 45 ∧ k = 6) ∨ a = 47 ∨ a = 48 ∨ a = 49
def w2_lp_X3_spread_24 (p1 : Nat) (a k : Nat) : Prop := a = 46 ∨ a = 50
theorem fr_lp_X3_spread_24 {p1 : Nat} {p2 : Int32} {p3 : Int32} {p4 : Int32} {K : fS → Option (Int32 × fS)} {r : Int32 × fS} {v1 v2 : Nat → Nat → Prop} (s1 : ∀ a k, w1_lp_X3_spread_24 p1 a k → v1 a k) (s2 : ∀ a k, w2_lp_X3_spread_24 p1 a k → v2 a k) (hK : ∀ (x0 : fS), K x0 = some r → Fr v1 v2 x0 r.2) : ∀ (n : Nat) (p5 : Int32) (S0 : fS), lp_X3_spread_24 p1 p2 p3 p4 K n p5 S0 = some r → Fr v1 v2 S0 r.2 := by
  intro n
  induction n with
  | zero => intro p5 S0 h; exact mm_no h
  | succ n ih =>
    intro p5 S0 h
    rw [lp_X3_spread_24.eq_2] at h
    rcases fr_ite h with h1 | h1
    ·
      exact (Fr.rf (S := S0)).tr (hK _ h1)
    ·
      obtain ⟨S7, e2, h3⟩ := Option.bind_eq_some_iff.mp h1
      have f4 : Fr v1 v2 S0 S7 := (Fr.rf (S := S0)).tr (fr_sI e2 (fun k => by refine s1 _ _ ?_; unfold w1_lp_X3_spread_24; exact Or.inr (Or.inr (Or.inl (rfl)))))
      rcases fr_ite h3 with h5 | h5
      ·
        obtain ⟨q11, e6, h7⟩ := Option.bind_eq_some_iff.mp h5
        have f8 : Fr v1 v2 S0 q11 := f4.tr (Fr.mo (fr_f_X3_gatherSources e6) (fun a k q => by refine s1 _ _ ?_; unfold w1_f_X3_gatherSources at q; unfold w1_lp_X3_spread_24; rcases q with q | q | q; exact Or.inr (Or.inl (q)); exact Or.inr (Or.inr (Or.inr (Or.inl (q)))); exact Or.inr (Or.inr (Or.inr (Or.inr ((q)))))) (fun a k q => by refine s2 _ _ ?_; unfold w2_f_X3_gatherSources at q; unfold w2_lp_X3_spread_24; exact Or.inr ((q))))
        rcases fr_ite h7 with h9 | h9
        ·
          exact fr_e2 h9 f8
        ·
          obtain ⟨q15, e10, h11⟩ := Option.bind_eq_some_iff.mp h9
          have f12 : Fr v1 v2 S0 q15.2 := f8.tr (Fr.mo (fr_f_X3_merge e10) (fun a k q => by refine s1 _ _ ?_; unfold w1_f_X3_merge at q; unfold w1_lp_X3_spread_24; rcases q with q | q; exact Or.inl (q); exact Or.inr (Or.inr (Or.inr (Or.inl (q))))) (fun a k q => by refine s2 _ _ ?_; unfold w2_f_X3_merge at q; unfold w2_lp_X3_spread_24; exact Or.inl (q)))
          rcases fr_ite h11 with h13 | h13
          ·
            exact fr_e2 h13 f12
          ·
            obtain ⟨S19, e14, h15⟩ := Option.bind_eq_some_iff.mp h13
            have f16 : Fr v1 v2 S0 S19 := f12.tr (fr_sI e14 (fun k => by refine s1 _ _ ?_; unfold w1_lp_X3_spread_24; exact Or.inr (Or.inr (Or.inl (rfl)))))
            exact f16.tr (ih _ _ h15)
      ·
        rcases fr_ite h5 with h17 | h17
        ·
          obtain ⟨q34, e18, h19⟩ := Option.bind_eq_some_iff.mp h17
          obtain ⟨q37, e20, h21⟩ := Option.bind_eq_some_iff.mp h19
          have f22 : Fr v1 v2 S0 q37.2 := f4.tr (Fr.mo (fr_f_X3_keep e20) (fun a k q => by refine s1 _ _ ?_; unfold w1_f_X3_keep at q; unfold w1_lp_X3_spread_24; exact Or.inl (q)) (fun a k q => by refine s2 _ _ ?_; unfold w2_f_X3_keep at q; unfold w2_lp_X3_spread_24; exact Or.inl (q)))
          rcases fr_ite h21 with h23 | h23
          ·
            obtain ⟨q41, e24, h25⟩ := Option.bind_eq_some_iff.mp h23
            have f26 : Fr v1 v2 S0 q41 := f22.tr (Fr.mo (fr_f_X3_gatherSources e24) (fun a k q => by refine s1 _ _ ?_; unfold w1_f_X3_gatherSources at q; unfold w1_lp_X3_spread_24; rcases q with q | q | q; exact Or.inr (Or.inl (q)); exact Or.inr (Or.inr (Or.inr (Or.inl (q)))); exact Or.inr (Or.inr (Or.inr (Or.inr ((q)))))) (fun a k q => by refine s2 _ _ ?_; unfold w2_f_X3_gatherSources at q; unfold w2_lp_X3_spread_24; exact Or.inr ((q))))
            rcases fr_ite h25 with h27 | h27
            ·
              exact fr_e2 h27 f26
            ·
              obtain ⟨q45, e28, h29⟩ := Option.bind_eq_some_iff.mp h27
              have f30 : Fr v1 v2 S0 q45.2 := f26.tr (Fr.mo (fr_f_X3_merge e28) (fun a k q => by refine s1 _ _ ?_; unfold w1_f_X3_merge at q; unfold w1_lp_X3_spread_24; rcases q with q | q; exact Or.inl (q); exact Or.inr (Or.inr (Or.inr (Or.inl (q))))) (fun a k q => by refine s2 _ _ ?_; unfold w2_f_X3_merge at q; unfold w2_lp_X3_spread_24; exact Or.inl (q)))
              rcases fr_ite h29 with h31 | h31
              ·
                exact fr_e2 h31 f30
              ·
                obtain ⟨S49, e32, h33⟩ := Option.bind_eq_some_iff.mp h31
                have f34 : Fr v1 v2 S0 S49 := f30.tr (fr_sI e32 (fun k => by refine s1 _ _ ?_; unfold w1_lp_X3_spread_24; exact Or.inr (Or.inr (Or.inl (rfl)))))
                exact f34.tr (ih _ _ h33)
          ·
            obtain ⟨q52, e35, h36⟩ := Option.bind_eq_some_iff.mp h23
            have f37 : Fr v1 v2 S0 q52 := f22.tr (Fr.mo (fr_f_X3_gatherSources e35) (fun a k q => by refine s1 _ _ ?_; unfold w1_f_X3_gatherSources at q; unfold w1_lp_X3_spread_24; rcases q with q | q | q; exact Or.inr (Or.inl (q)); exact Or.inr (Or.inr (Or.inr (Or.inl (q)))); exact Or.inr (Or.inr (Or.inr (Or.inr ((q)))))) (fun a k q => by refine s2 _ _ ?_; unfold w2_f_X3_gatherSources at q; unfold w2_lp_X3_spread_24; exact Or.inr ((q))))
            rcases fr_ite h36 with h38 | h38
            ·
              exact fr_e2 h38 f37
            ·
              obtain ⟨q56, e39, h40⟩ := Option.bind_eq_some_iff.mp h38
              have f41 : Fr v1 v2 S0 q56.2 := f37.tr (Fr.mo (fr_f_X3_merge e39) (fun a k q => by refine s1 _ _ ?_; unfold w1_f_X3_merge at q; unfold w1_lp_X3_spread_24; rcases q with q | q; exact Or.inl (q); exact Or.inr (Or.inr (Or.inr (Or.inl (q))))) (fun a k q => by refine s2 _ _ ?_; unfold w2_f_X3_merge at q; unfold w2_lp_X3_spread_24; exact Or.inl (q)))
              rcases fr_ite h40 with h42 | h42
              ·
                exact fr_e2 h42 f41
              ·
                obtain ⟨S60, e43, h44⟩ := Option.bind_eq_some_iff.mp h42
                have f45 : Fr v1 v2 S0 S60 := f41.tr (fr_sI e43 (fun k => by refine s1 _ _ ?_; unfold w1_lp_X3_spread_24; exact Or.inr (Or.inr (Or.inl (rfl)))))
                exact f45.tr (ih _ _ h44)
        ·
          obtain ⟨q23, e46, h47⟩ := Option.bind_eq_some_iff.mp h17
          have f48 : Fr v1 v2 S0 q23 := f4.tr (Fr.mo (fr_f_X3_gatherSources e46) (fun a k q => by refine s1 _ _ ?_; unfold w1_f_X3_gatherSources at q; unfold w1_lp_X3_spread_24; rcases q with q | q | q; exact Or.inr (Or.inl (q)); exact Or.inr (Or.inr (Or.inr (Or.inl (q)))); exact Or.inr (Or.inr (Or.inr (Or.inr ((q)))))) (fun a k q => by refine s2 _ _ ?_; unfold w2_f_X3_gatherSources at q; unfold w2_lp_X3_spread_24; exact Or.inr ((q))))
          rcases fr_ite h47 with h49 | h49
          ·
            exact fr_e2 h49 f48
          ·
            obtain ⟨q27, e50, h51⟩ := Option.bind_eq_some_iff.mp h49
            have f52 : Fr v1 v2 S0 q27.2 := f48.tr (Fr.mo (fr_f_X3_merge e50) (fun a k q => by refine s1 _ _ ?_; unfold w1_f_X3_merge at q; unfold w1_lp_X3_spread_24; rcases q with q | q; exact Or.inl (q); exact Or.inr (Or.inr (Or.inr (Or.inl (q))))) (fun a k q => by refine s2 _ _ ?_; unfold w2_f_X3_merge at q; unfold w2_lp_X3_spread_24; exact Or.inl (q)))
            rcases fr_ite h51 with h53 | h53
            ·
              exact fr_e2 h53 f52
            ·
              obtain ⟨S31, e54, h55⟩ := Option.bind_eq_some_iff.mp h53
              have f56 : Fr v1 v2 S0 S31 := f52.tr (fr_sI e54 (fun k => by refine s1 _ _ ?_; unfold w1_lp_X3_spread_24; exact Or.inr (Or.inr (Or.inl (rfl)))))
              exact f56.tr (ih _ _ h55)
