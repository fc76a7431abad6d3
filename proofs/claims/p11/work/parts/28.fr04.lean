def w1_lp_X3_spread_8 (p1 : Nat) (a k : Nat) : Prop := (a = 45 ∧ k = 5) ∨ (a = 45 ∧ k = 6) ∨ a = 47 ∨ a = 48 ∨ a = 49
def w2_lp_X3_spread_8 (p1 : Nat) (a k : Nat) : Prop := a = 46 ∨ a = 50
theorem fr_lp_X3_spread_8 {p1 : Nat} {p2 : Int32} {p3 : Int32} {K : fS → Option (Int32 × fS)} {r : Int32 × fS} {v1 v2 : Nat → Nat → Prop} (s1 : ∀ a k, w1_lp_X3_spread_8 p1 a k → v1 a k) (s2 : ∀ a k, w2_lp_X3_spread_8 p1 a k → v2 a k) (hK : ∀ (x0 : fS), K x0 = some r → Fr v1 v2 x0 r.2) : ∀ (n : Nat) (p4 : Int32) (S0 : fS), lp_X3_spread_8 p1 p2 p3 K n p4 S0 = some r → Fr v1 v2 S0 r.2 := by
  intro n
  induction n with
  | zero => intro p4 S0 h; exact mm_no h
  | succ n ih =>
    intro p4 S0 h
    rw [lp_X3_spread_8.eq_2] at h
    rcases fr_ite h with h1 | h1
    ·
      exact (Fr.rf (S := S0)).tr (hK _ h1)
    ·
      rcases fr_ite h1 with h2 | h2
      ·
        exact (Fr.rf (S := S0)).tr (hK _ h2)
      ·
        refine (Fr.rf (S := S0)).tr (fr_lp_X3_spread_24 (v1 := v1) (v2 := v2) (fun a k q => by refine s1 _ _ ?_; unfold w1_lp_X3_spread_24 at q; unfold w1_lp_X3_spread_8; rcases q with q | q | q | q | q; exact Or.inl (q); exact Or.inr (Or.inl (q)); exact Or.inr (Or.inr (Or.inl (q))); exact Or.inr (Or.inr (Or.inr (Or.inl (q)))); exact Or.inr (Or.inr (Or.inr (Or.inr ((q)))))) (fun a k q => by refine s2 _ _ ?_; unfold w2_lp_X3_spread_24 at q; unfold w2_lp_X3_spread_8; rcases q with q | q; exact Or.inl (q); exact Or.inr ((q))) (fun S63 h3 => ?_) _ _ _ h2)
        exact (Fr.rf (S := S63)).tr (ih _ _ h3)
def w1_f_X3_spread (v1 : Nat) (a k : Nat) : Prop := (a = 45 ∧ k = 5) ∨ (a = 45 ∧ k = 6) ∨ a = 47 ∨ a = 48 ∨ a = 49
def w2_f_X3_spread (v1 : Nat) (a k : Nat) : Prop := a = 46 ∨ a = 50
theorem fr_f_X3_spread {v1 : Nat} {v2 : Int32} {v3 : Int32} {S : fS} {r : Int32 × fS} (h : f_X3_spread v1 v2 v3 S = some r) : Fr (w1_f_X3_spread v1) (w2_f_X3_spread v1) S r.2 := by
  unfold f_X3_spread at h
  obtain ⟨S1, e1, h2⟩ := Option.bind_eq_some_iff.mp h
  have f3 : Fr (w1_f_X3_spread v1) (w2_f_X3_spread v1) S S1 := (Fr.rf (S := S)).tr (fr_pI e1 (by unfold w1_f_X3_spread; exact Or.inl (⟨rfl, rfl⟩)))
  refine f3.tr (fr_lp_X3_spread_8 (v1 := w1_f_X3_spread v1) (v2 := w2_f_X3_spread v1) (fun a k q => by unfold w1_lp_X3_spread_8 at q; unfold w1_f_X3_spread; rcases q with q | q | q | q | q; exact Or.inl (q); exact Or.inr (Or.inl (q)); exact Or.inr (Or.inr (Or.inl (q))); exact Or.inr (Or.inr (Or.inr (Or.inl (q)))); exact Or.inr (Or.inr (Or.inr (Or.inr ((q)))))) (fun a k q => by unfold w2_lp_X3_spread_8 at q; unfold w2_f_X3_spread; rcases q with q | q; exact Or.inl (q); exact Or.inr ((q))) (fun S65 h4 => ?_) _ _ _ h2)
  exact fr_e2 h4 (Fr.rf (S := S65))
def w1_f_X10_ripe (a k : Nat) : Prop := (a = 45 ∧ k = 5) ∨ (a = 45 ∧ k = 6) ∨ a = 47 ∨ a = 48 ∨ a = 49
def w2_f_X10_ripe (a k : Nat) : Prop := a = 46 ∨ a = 50
theorem fr_f_X10_ripe {v1 : Int32} {v2 : Int32} {v3 : Int32} {v4 : Int32} {v5 : Int32} {S : fS} {r : Int32 × fS} (h : f_X10_ripe v1 v2 v3 v4 v5 S = some r) : Fr (w1_f_X10_ripe) (w2_f_X10_ripe) S r.2 := by
  unfold f_X10_ripe at h
  obtain ⟨q1, e1, h2⟩ := Option.bind_eq_some_iff.mp h
  rcases fr_ite h2 with h3 | h3
  ·
    exact fr_e2 h3 (Fr.rf (S := S))
  ·
    obtain ⟨q5, e4, h5⟩ := Option.bind_eq_some_iff.mp h3
    rcases fr_ite h5 with h6 | h6
    ·
      exact fr_e2 h6 (Fr.rf (S := S))
    ·
      obtain ⟨q9, e7, h8⟩ := Option.bind_eq_some_iff.mp h6
      rcases fr_ite h8 with h9 | h9
      ·
        exact fr_e2 h9 (Fr.rf (S := S))
      ·
        obtain ⟨q13, e10, h11⟩ := Option.bind_eq_some_iff.mp h9
        rcases fr_ite h11 with h12 | h12
        ·
          exact fr_e2 h12 (Fr.rf (S := S))
        ·
          obtain ⟨q17, e13, h14⟩ := Option.bind_eq_some_iff.mp h12
          rcases fr_ite h14 with h15 | h15
          ·
            exact fr_e2 h15 (Fr.rf (S := S))
          ·
            obtain ⟨q21, e16, h17⟩ := Option.bind_eq_some_iff.mp h15
            have f18 : Fr (w1_f_X10_ripe) (w2_f_X10_ripe) S q21.2 := (Fr.rf (S := S)).tr (Fr.mo (fr_f_X3_spread e16) (fun a k q => by unfold w1_f_X3_spread at q; unfold w1_f_X10_ripe; rcases q with q | q | q | q | q; exact Or.inl (q); exact Or.inr (Or.inl (q)); exact Or.inr (Or.inr (Or.inl (q))); exact Or.inr (Or.inr (Or.inr (Or.inl (q)))); exact Or.inr (Or.inr (Or.inr (Or.inr ((q)))))) (fun a k q => by unfold w2_f_X3_spread at q; unfold w2_f_X10_ripe; rcases q with q | q; exact Or.inl (q); exact Or.inr ((q))))
            rcases fr_ite h17 with h19 | h19
            ·
              exact fr_e2 h19 f18
            ·
              obtain ⟨q25, e20, h21⟩ := Option.bind_eq_some_iff.mp h19
              exact fr_e2 h21 f18
def w1_f_X10_waiting (a k : Nat) : Prop := False
def w2_f_X10_waiting (a k : Nat) : Prop := a = 44
theorem fr_f_X10_waiting {v1 : Int32} {v2 : Int32} {v3 : Int32} {S : fS} {r : Int32 × fS} (h : f_X10_waiting v1 v2 v3 S = some r) : Fr (w1_f_X10_waiting) (w2_f_X10_waiting) S r.2 := by
  unfold f_X10_waiting at h
  obtain ⟨q1, e1, h2⟩ := Option.bind_eq_some_iff.mp h
  rcases fr_ite h2 with h3 | h3
  ·
    exact fr_e2 h3 (Fr.rf (S := S))
  ·
    obtain ⟨q5, e4, h5⟩ := Option.bind_eq_some_iff.mp h3
    rcases fr_ite h5 with h6 | h6
    ·
      exact fr_e2 h6 (Fr.rf (S := S))
    ·
      obtain ⟨a9, e7, h8⟩ := Option.bind_eq_some_iff.mp h6
      obtain ⟨q12, e9, h10⟩ := Option.bind_eq_some_iff.mp h8
      have f11 : Fr (w1_f_X10_waiting) (w2_f_X10_waiting) S q12 := (Fr.rf (S := S)).tr (Fr.mo (fr_f_X1_measure e9) (fun _ _ q => False.elim q) (fun a k q => by unfold w2_f_X1_measure at q; unfold w2_f_X10_waiting; exact q))
      obtain ⟨q15, e12, h13⟩ := Option.bind_eq_some_iff.mp h10
      exact fr_e2 h13 f11
def w1_f_X10_elder (a k : Nat) : Prop := (a = 31 ∧ k = 5) ∨ (a = 31 ∧ k = 6) ∨ a = 32 ∨ a = 33 ∨ a = 34 ∨ a = 35 ∨ (127 ≤ a ∧ a ≤ 144)
def w2_f_X10_elder (a k : Nat) : Prop := a = 36 ∨ (127 ≤ a ∧ a ≤ 144)
theorem fr_f_X10_elder {v1 : Int32} {v2 : Int32} {v3 : Int32} {S : fS} {r : Int64 × fS} (h : f_X10_elder v1 v2 v3 S = some r) : Fr (w1_f_X10_elder) (w2_f_X10_elder) S r.2 := by
  unfold f_X10_elder at h
  obtain ⟨q1, e1, h2⟩ := Option.bind_eq_some_iff.mp h
  rcases fr_ite h2 with h3 | h3
  ·
    exact fr_e2 h3 (Fr.rf (S := S))
  ·
    obtain ⟨q5, e4, h5⟩ := Option.bind_eq_some_iff.mp h3
    rcases fr_ite h5 with h6 | h6
    ·
      exact fr_e2 h6 (Fr.rf (S := S))
    ·
      rcases fr_ite h6 with h7 | h7
      ·
        exact fr_e2 h7 (Fr.rf (S := S))
      ·
        obtain ⟨q10, e8, h9⟩ := Option.bind_eq_some_iff.mp h7
        rcases fr_ite h9 with h10 | h10
        ·
          exact fr_e2 h10 (Fr.rf (S := S))
        ·
          obtain ⟨q14, e11, h12⟩ := Option.bind_eq_some_iff.mp h10
          have f13 : Fr (w1_f_X10_elder) (w2_f_X10_elder) S q14 := (Fr.rf (S := S)).tr (Fr.mo (fr_f_X10_lookAhead e11) (fun a k q => by unfold w1_f_X10_lookAhead at q; unfold w1_f_X10_elder; rcases q with q | q | q | q | q | q | q; exact Or.inl (q); exact Or.inr (Or.inl (q)); exact Or.inr (Or.inr (Or.inl (q))); exact Or.inr (Or.inr (Or.inr (Or.inl (q)))); exact Or.inr (Or.inr (Or.inr (Or.inr (Or.inl (q))))); exact Or.inr (Or.inr (Or.inr (Or.inr (Or.inr (Or.inl (q)))))); exact Or.inr (Or.inr (Or.inr (Or.inr (Or.inr (Or.inr ((q)))))))) (fun a k q => by unfold w2_f_X10_lookAhead at q; unfold w2_f_X10_elder; rcases q with q | q; exact Or.inl (q); exact Or.inr ((q))))
          obtain ⟨q17, e14, h15⟩ := Option.bind_eq_some_iff.mp h12
          obtain ⟨q20, e16, h17⟩ := Option.bind_eq_some_iff.mp h15
          rcases fr_ite h17 with h18 | h18
          ·
            obtain ⟨a24, e19, h20⟩ := Option.bind_eq_some_iff.mp h18
            obtain ⟨a27, e21, h22⟩ := Option.bind_eq_some_iff.mp h20
            obtain ⟨q30, e23, h24⟩ := Option.bind_eq_some_iff.mp h22
            exact fr_e2 h24 f13
          ·
            rcases fr_ite h18 with h25 | h25
            ·
              exact fr_e2 h25 f13
            ·
              exact fr_e2 h25 f13
def w1_f_X2_send (v0 : Nat) (a k : Nat) : Prop := (a = v0 ∧ k = 4) ∨ a = v0 + 1 ∨ a = v0 + 2 ∨ a = v0 + 3 ∨ a = v0 + 4
def w2_f_X2_send (v0 : Nat) (a k : Nat) : Prop := False
theorem fr_f_X2_send {v0 : Nat} {v1 : Int32} {v2 : Int32} {v3 : Int32} {v4 : Int32} {S : fS} {r : fS} (h : f_X2_send v0 v1 v2 v3 v4 S = some r) : Fr (w1_f_X2_send v0) (w2_f_X2_send v0) S r := by
  unfold f_X2_send at h
  rcases fr_ite h with h1 | h1
  ·
    exact fr_e1 h1 (Fr.rf (S := S))
  ·
    obtain ⟨S2, e2, h3⟩ := Option.bind_eq_some_iff.mp h1
    have f4 : Fr (w1_f_X2_send v0) (w2_f_X2_send v0) S S2 := (Fr.rf (S := S)).tr (fr_sI e2 (fun k => by unfold w1_f_X2_send; exact Or.inr (Or.inl (rfl))))
    obtain ⟨S5, e5, h6⟩ := Option.bind_eq_some_iff.mp h3
    have f7 : Fr (w1_f_X2_send v0) (w2_f_X2_send v0) S S5 := f4.tr (fr_sI e5 (fun k => by unfold w1_f_X2_send; exact Or.inr (Or.inr (Or.inl (rfl)))))
    obtain ⟨S8, e8, h9⟩ := Option.bind_eq_some_iff.mp h6
    have f10 : Fr (w1_f_X2_send v0) (w2_f_X2_send v0) S S8 := f7.tr (fr_sI e8 (fun k => by unfold w1_f_X2_send; exact Or.inr (Or.inr (Or.inr (Or.inl (rfl))))))
    obtain ⟨S11, e11, h12⟩ := Option.bind_eq_some_iff.mp h9
    have f13 : Fr (w1_f_X2_send v0) (w2_f_X2_send v0) S S11 := f10.tr (fr_sI e11 (fun k => by unfold w1_f_X2_send; exact Or.inr (Or.inr (Or.inr (Or.inr ((rfl)))))))
    obtain ⟨S14, e14, h15⟩ := Option.bind_eq_some_iff.mp h12
    have f16 : Fr (w1_f_X2_send v0) (w2_f_X2_send v0) S S14 := f13.tr (fr_pI e14 (by unfold w1_f_X2_send; exact Or.inl (⟨rfl, rfl⟩)))
    exact fr_e1 h15 f16
def w1_f_X10_letter (a k : Nat) : Prop := (a = 17 ∧ k = 4) ∨ a = 18 ∨ a = 19 ∨ a = 20 ∨ a = 21
def w2_f_X10_letter (a k : Nat) : Prop := False
theorem fr_f_X10_letter {v1 : Int32} {v2 : Int32} {v3 : Int32} {S : fS} {r : Int32 × fS} (h : f_X10_letter v1 v2 v3 S = some r) : Fr (w1_f_X10_letter) (w2_f_X10_letter) S r.2 := by
  unfold f_X10_letter at h
  rcases fr_ite h with h1 | h1
  ·
    obtain ⟨S22, e2, h3⟩ := Option.bind_eq_some_iff.mp h1
    have f4 : Fr (w1_f_X10_letter) (w2_f_X10_letter) S S22 := (Fr.rf (S := S)).tr (fr_pI e2 (by unfold w1_f_X10_letter; exact Or.inl (⟨rfl, rfl⟩)))
    exact fr_e2 h3 f4
  ·
    obtain ⟨q2, e5, h6⟩ := Option.bind_eq_some_iff.mp h1
    rcases fr_ite h6 with h7 | h7
    ·
      exact fr_e2 h7 (Fr.rf (S := S))
    ·
      obtain ⟨q6, e8, h9⟩ := Option.bind_eq_some_iff.mp h7
      rcases fr_ite h9 with h10 | h10
      ·
        exact fr_e2 h10 (Fr.rf (S := S))
      ·
        obtain ⟨q10, e11, h12⟩ := Option.bind_eq_some_iff.mp h10
        rcases fr_ite h12 with h13 | h13
        ·
          exact fr_e2 h13 (Fr.rf (S := S))
        ·
          rcases fr_ite h13 with h14 | h14
          ·
            obtain ⟨q15, e15, h16⟩ := Option.bind_eq_some_iff.mp h14
            rcases fr_ite h16 with h17 | h17
            ·
              obtain ⟨q19, e18, h19⟩ := Option.bind_eq_some_iff.mp h17
              have f20 : Fr (w1_f_X10_letter) (w2_f_X10_letter) S q19 := (Fr.rf (S := S)).tr (Fr.mo (fr_f_X2_send e18) (fun a k q => by unfold w1_f_X2_send at q; unfold w1_f_X10_letter; rcases q with q | q | q | q | q; exact Or.inl (q); exact Or.inr (Or.inl (q)); exact Or.inr (Or.inr (Or.inl (q))); exact Or.inr (Or.inr (Or.inr (Or.inl (q)))); exact Or.inr (Or.inr (Or.inr (Or.inr ((q)))))) (fun _ _ q => False.elim q))
              exact fr_e2 h19 f20
            ·
              exact fr_e2 h17 (Fr.rf (S := S))
          ·
            exact fr_e2 h14 (Fr.rf (S := S))
def w1_f_X10_seed (a k : Nat) : Prop := (a = 3 ∧ k = 3)
def w2_f_X10_seed (a k : Nat) : Prop := False
theorem fr_f_X10_seed {v1 : Int32} {S : fS} {r : Int32 × fS} (h : f_X10_seed v1 S = some r) : Fr (w1_f_X10_seed) (w2_f_X10_seed) S r.2 := by
  unfold f_X10_seed at h
  rcases fr_ite h with h1 | h1
  ·
    obtain ⟨S2, e2, h3⟩ := Option.bind_eq_some_iff.mp h1
    have f4 : Fr (w1_f_X10_seed) (w2_f_X10_seed) S S2 := (Fr.rf (S := S)).tr (fr_pI e2 (by unfold w1_f_X10_seed; exact ⟨rfl, rfl⟩))
    exact fr_e2 h3 f4
  ·
    exact fr_e2 h1 (Fr.rf (S := S))
def w1_f_X6_draw (v0 : Nat) (a k : Nat) : Prop := (a = v0 ∧ k = 3)
def w2_f_X6_draw (v0 : Nat) (a k : Nat) : Prop := False
theorem fr_f_X6_draw {v0 : Nat} {S : fS} {r : Int32 × fS} (h : f_X6_draw v0 S = some r) : Fr (w1_f_X6_draw v0) (w2_f_X6_draw v0) S r.2 := by
  unfold f_X6_draw at h
  obtain ⟨S1, e1, h2⟩ := Option.bind_eq_some_iff.mp h
  have f3 : Fr (w1_f_X6_draw v0) (w2_f_X6_draw v0) S S1 := (Fr.rf (S := S)).tr (fr_pI e1 (by unfold w1_f_X6_draw; exact ⟨rfl, rfl⟩))
  obtain ⟨a4, e4, h5⟩ := Option.bind_eq_some_iff.mp h2
  exact fr_e2 h5 f3
def w1_lp_X10_wander_2 (a k : Nat) : Prop := (a = 3 ∧ k = 3) ∨ a = 32 ∨ a = 33 ∨ a = 34 ∨ a = 35
def w2_lp_X10_wander_2 (a k : Nat) : Prop := False
theorem fr_lp_X10_wander_2 {K : fS → Option (fS)} {r : fS} {v1 v2 : Nat → Nat → Prop} (s1 : ∀ a k, w1_lp_X10_wander_2 a k → v1 a k) (s2 : ∀ a k, w2_lp_X10_wander_2 a k → v2 a k) (hK : ∀ (x0 : fS), K x0 = some r → Fr v1 v2 x0 r) : ∀ (n : Nat) (p1 : Int32) (S0 : fS), lp_X10_wander_2 K n p1 S0 = some r → Fr v1 v2 S0 r := by
  intro n
  induction n with
  | zero => intro p1 S0 h; exact mm_no h
  | succ n ih =>
    intro p1 S0 h
    rw [lp_X10_wander_2.eq_2] at h
    rcases fr_ite h with h1 | h1
    ·
      exact (Fr.rf (S := S0)).tr (hK _ h1)
    ·
      obtain ⟨q2, e2, h3⟩ := Option.bind_eq_some_iff.mp h1
      rcases fr_ite h3 with h4 | h4
      ·
        exact (Fr.rf (S := S0)).tr (ih _ _ h4)
      ·
        obtain ⟨a6, e5, h6⟩ := Option.bind_eq_some_iff.mp h4
        obtain ⟨q9, e7, h8⟩ := Option.bind_eq_some_iff.mp h6
        have f9 : Fr v1 v2 S0 q9.2 := (Fr.rf (S := S0)).tr (Fr.mo (fr_f_X6_draw e7) (fun a k q => by refine s1 _ _ ?_; unfold w1_f_X6_draw at q; unfold w1_lp_X10_wander_2; exact Or.inl (q)) (fun _ _ q => False.elim q))
        obtain ⟨a12, e10, h11⟩ := Option.bind_eq_some_iff.mp h8
        rcases fr_ite h11 with h12 | h12
        ·
          obtain ⟨q33, e13, h14⟩ := Option.bind_eq_some_iff.mp h12
          rcases fr_ite h14 with h15 | h15
          ·
            exact f9.tr (ih _ _ h15)
          ·
            rcases fr_ite h15 with h16 | h16
            ·
              exact f9.tr (ih _ _ h16)
            ·
              obtain ⟨q38, e17, h18⟩ := Option.bind_eq_some_iff.mp h16
              have f19 : Fr v1 v2 S0 q38.2 := f9.tr (Fr.mo (fr_f_X6_draw e17) (fun a k q => by refine s1 _ _ ?_; unfold w1_f_X6_draw at q; unfold w1_lp_X10_wander_2; exact Or.inl (q)) (fun _ _ q => False.elim q))
              obtain ⟨a41, e20, h21⟩ := Option.bind_eq_some_iff.mp h18
              obtain ⟨q44, e22, h23⟩ := Option.bind_eq_some_iff.mp h21
              obtain ⟨q47, e24, h25⟩ := Option.bind_eq_some_iff.mp h23
              have f26 : Fr v1 v2 S0 q47.2 := f19.tr (Fr.mo (fr_f_X0_setOff e24) (fun a k q => by refine s1 _ _ ?_; unfold w1_f_X0_setOff at q; unfold w1_lp_X10_wander_2; rcases q with q | q | q | q; exact Or.inr (Or.inl (q)); exact Or.inr (Or.inr (Or.inl (q))); exact Or.inr (Or.inr (Or.inr (Or.inl (q)))); exact Or.inr (Or.inr (Or.inr (Or.inr ((q)))))) (fun _ _ q => False.elim q))
              exact f26.tr (ih _ _ h25)
        ·
          obtain ⟨q16, e27, h28⟩ := Option.bind_eq_some_iff.mp h12
          rcases fr_ite h28 with h29 | h29
          ·
            exact f9.tr (ih _ _ h29)
          ·
            rcases fr_ite h29 with h30 | h30
            ·
              exact f9.tr (ih _ _ h30)
            ·
              obtain ⟨q21, e31, h32⟩ := Option.bind_eq_some_iff.mp h30
              have f33 : Fr v1 v2 S0 q21.2 := f9.tr (Fr.mo (fr_f_X6_draw e31) (fun a k q => by refine s1 _ _ ?_; unfold w1_f_X6_draw at q; unfold w1_lp_X10_wander_2; exact Or.inl (q)) (fun _ _ q => False.elim q))
              obtain ⟨a24, e34, h35⟩ := Option.bind_eq_some_iff.mp h32
              obtain ⟨q27, e36, h37⟩ := Option.bind_eq_some_iff.mp h35
              obtain ⟨q30, e38, h39⟩ := Option.bind_eq_some_iff.mp h37
              have f40 : Fr v1 v2 S0 q30.2 := f33.tr (Fr.mo (fr_f_X0_setOff e38) (fun a k q => by refine s1 _ _ ?_; unfold w1_f_X0_setOff at q; unfold w1_lp_X10_wander_2; rcases q with q | q | q | q; exact Or.inr (Or.inl (q)); exact Or.inr (Or.inr (Or.inl (q))); exact Or.inr (Or.inr (Or.inr (Or.inl (q)))); exact Or.inr (Or.inr (Or.inr (Or.inr ((q)))))) (fun _ _ q => False.elim q))
              exact f40.tr (ih _ _ h39)
def w1_f_X10_wander (a k : Nat) : Prop := (a = 3 ∧ k = 3) ∨ a = 32 ∨ a = 33 ∨ a = 34 ∨ a = 35
def w2_f_X10_wander (a k : Nat) : Prop := False
theorem fr_f_X10_wander {S : fS} {r : fS} (h : f_X10_wander S = some r) : Fr (w1_f_X10_wander) (w2_f_X10_wander) S r := by
  unfold f_X10_wander at h
  refine (Fr.rf (S := S)).tr (fr_lp_X10_wander_2 (v1 := w1_f_X10_wander) (v2 := w2_f_X10_wander) (fun a k q => by unfold w1_lp_X10_wander_2 at q; unfold w1_f_X10_wander; rcases q with q | q | q | q | q; exact Or.inl (q); exact Or.inr (Or.inl (q)); exact Or.inr (Or.inr (Or.inl (q))); exact Or.inr (Or.inr (Or.inr (Or.inl (q)))); exact Or.inr (Or.inr (Or.inr (Or.inr ((q)))))) (fun _ _ q => False.elim q) (fun S50 h1 => ?_) _ _ _ h)
  exact fr_e1 h1 (Fr.rf (S := S50))
def w1_lp_X10_hoursMet_20 (a k : Nat) : Prop := (a = 3 ∧ k = 3) ∨ (a = 31 ∧ k = 6) ∨ a = 32 ∨ a = 33 ∨ a = 34 ∨ a = 35
def w2_lp_X10_hoursMet_20 (a k : Nat) : Prop := a = 36
theorem fr_lp_X10_hoursMet_20 {p1 : Int32} {p2 : Int32} {p3 : Int32} {K : Int32 → fS → Option (Int32 × fS)} {r : Int32 × fS} {v1 v2 : Nat → Nat → Prop} (s1 : ∀ a k, w1_lp_X10_hoursMet_20 a k → v1 a k) (s2 : ∀ a k, w2_lp_X10_hoursMet_20 a k → v2 a k) (hK : ∀ (x0 : Int32) (x1 : fS), K x0 x1 = some r → Fr v1 v2 x1 r.2) : ∀ (n : Nat) (p4 : Int32) (p5 : Int32) (S0 : fS), lp_X10_hoursMet_20 p1 p2 p3 K n p4 p5 S0 = some r → Fr v1 v2 S0 r.2 := by
  intro n
  induction n with
  | zero => intro p4 p5 S0 h; exact mm_no h
  | succ n ih =>
    intro p4 p5 S0 h
    rw [lp_X10_hoursMet_20.eq_2] at h
    rcases fr_ite h with h1 | h1
    ·
      exact (Fr.rf (S := S0)).tr (hK _ _ h1)
    ·
      obtain ⟨q5, e2, h3⟩ := Option.bind_eq_some_iff.mp h1
      have f4 : Fr v1 v2 S0 q5 := (Fr.rf (S := S0)).tr (Fr.mo (fr_f_X10_wander e2) (fun a k q => by refine s1 _ _ ?_; unfold w1_f_X10_wander at q; unfold w1_lp_X10_hoursMet_20; rcases q with q | q | q | q | q; exact Or.inl (q); exact Or.inr (Or.inr (Or.inl (q))); exact Or.inr (Or.inr (Or.inr (Or.inl (q)))); exact Or.inr (Or.inr (Or.inr (Or.inr (Or.inl (q))))); exact Or.inr (Or.inr (Or.inr (Or.inr (Or.inr ((q))))))) (fun _ _ q => False.elim q))
      obtain ⟨q8, e5, h6⟩ := Option.bind_eq_some_iff.mp h3
      have f7 : Fr v1 v2 S0 q8 := f4.tr (Fr.mo (fr_f_X0_passHour e5) (fun a k q => by refine s1 _ _ ?_; unfold w1_f_X0_passHour at q; unfold w1_lp_X10_hoursMet_20; rcases q with q | q | q | q | q; exact Or.inr (Or.inl (q)); exact Or.inr (Or.inr (Or.inl (q))); exact Or.inr (Or.inr (Or.inr (Or.inl (q)))); exact Or.inr (Or.inr (Or.inr (Or.inr (Or.inl (q))))); exact Or.inr (Or.inr (Or.inr (Or.inr (Or.inr ((q))))))) (fun a k q => by refine s2 _ _ ?_; unfold w2_f_X0_passHour at q; unfold w2_lp_X10_hoursMet_20; exact q))
      obtain ⟨q11, e8, h9⟩ := Option.bind_eq_some_iff.mp h6
      rcases fr_ite h9 with h10 | h10
      ·
        exact f7.tr (ih _ _ _ h10)
      ·
        exact f7.tr (ih _ _ _ h10)
def w1_f_X10_hoursMet (a k : Nat) : Prop := (a = 3 ∧ k = 3) ∨ (a = 31 ∧ k = 5) ∨ (a = 31 ∧ k = 6) ∨ a = 32 ∨ a = 33 ∨ a = 34 ∨ a = 35
def w2_f_X10_hoursMet (a k : Nat) : Prop := a = 36
theorem fr_f_X10_hoursMet {v1 : Int32} {v2 : Int32} {v3 : Int32} {S : fS} {r : Int32 × fS} (h : f_X10_hoursMet v1 v2 v3 S = some r) : Fr (w1_f_X10_hoursMet) (w2_f_X10_hoursMet) S r.2 := by
  unfold f_X10_hoursMet at h
  obtain ⟨q1, e1, h2⟩ := Option.bind_eq_some_iff.mp h
  have f3 : Fr (w1_f_X10_hoursMet) (w2_f_X10_hoursMet) S q1 := (Fr.rf (S := S)).tr (Fr.mo (fr_f_X0_copyFrom e1) (fun a k q => by unfold w1_f_X0_copyFrom at q; unfold w1_f_X10_hoursMet; rcases q with q | q | q | q | q | q; exact Or.inr (Or.inl (q)); exact Or.inr (Or.inr (Or.inl (q))); exact Or.inr (Or.inr (Or.inr (Or.inl (q)))); exact Or.inr (Or.inr (Or.inr (Or.inr (Or.inl (q))))); exact Or.inr (Or.inr (Or.inr (Or.inr (Or.inr (Or.inl (q)))))); exact Or.inr (Or.inr (Or.inr (Or.inr (Or.inr (Or.inr ((q)))))))) (fun a k q => by unfold w2_f_X0_copyFrom at q; unfold w2_f_X10_hoursMet; exact q))
  refine f3.tr (fr_lp_X10_hoursMet_20 (v1 := w1_f_X10_hoursMet) (v2 := w2_f_X10_hoursMet) (fun a k q => by unfold w1_lp_X10_hoursMet_20 at q; unfold w1_f_X10_hoursMet; rcases q with q | q | q | q | q | q; exact Or.inl (q); exact Or.inr (Or.inr (Or.inl (q))); exact Or.inr (Or.inr (Or.inr (Or.inl (q)))); exact Or.inr (Or.inr (Or.inr (Or.inr (Or.inl (q))))); exact Or.inr (Or.inr (Or.inr (Or.inr (Or.inr (Or.inl (q)))))); exact Or.inr (Or.inr (Or.inr (Or.inr (Or.inr (Or.inr ((q)))))))) (fun a k q => by unfold w2_lp_X10_hoursMet_20 at q; unfold w2_f_X10_hoursMet; exact q) (fun u15 S16 h4 => ?_) _ _ _ _ h2)
  exact fr_e2 h4 (Fr.rf (S := S16))
def w1_lp_X10_meetings_66 (a k : Nat) : Prop := (a = 3 ∧ k = 3) ∨ (a = 31 ∧ k = 5) ∨ (a = 31 ∧ k = 6) ∨ a = 32 ∨ a = 33 ∨ a = 34 ∨ a = 35
def w2_lp_X10_meetings_66 (a k : Nat) : Prop := a = 36
theorem fr_lp_X10_meetings_66 {p1 : Int32} {p2 : Int32} {p3 : Int32} {p4 : Int32} {p5 : Int32} {K : Int32 → Int32 → fS → Option (Int32 × fS)} {r : Int32 × fS} {v1 v2 : Nat → Nat → Prop} (s1 : ∀ a k, w1_lp_X10_meetings_66 a k → v1 a k) (s2 : ∀ a k, w2_lp_X10_meetings_66 a k → v2 a k) (hK : ∀ (x0 : Int32) (x1 : Int32) (x2 : fS), K x0 x1 x2 = some r → Fr v1 v2 x2 r.2) : ∀ (n : Nat) (p6 : Int32) (p7 : Int32) (p8 : Int32) (S0 : fS), lp_X10_meetings_66 p1 p2 p3 p4 p5 K n p6 p7 p8 S0 = some r → Fr v1 v2 S0 r.2 := by
  intro n
  induction n with
  | zero => intro p6 p7 p8 S0 h; exact mm_no h
  | succ n ih =>
    intro p6 p7 p8 S0 h
    rw [lp_X10_meetings_66.eq_2] at h
    rcases fr_ite h with h1 | h1
    ·
      exact (Fr.rf (S := S0)).tr (hK _ _ _ h1)
    ·
      obtain ⟨q23, e2, h3⟩ := Option.bind_eq_some_iff.mp h1
      have f4 : Fr v1 v2 S0 q23.2 := (Fr.rf (S := S0)).tr (Fr.mo (fr_f_X10_hoursMet e2) (fun a k q => by refine s1 _ _ ?_; unfold w1_f_X10_hoursMet at q; unfold w1_lp_X10_meetings_66; rcases q with q | q | q | q | q | q | q; exact Or.inl (q); exact Or.inr (Or.inl (q)); exact Or.inr (Or.inr (Or.inl (q))); exact Or.inr (Or.inr (Or.inr (Or.inl (q)))); exact Or.inr (Or.inr (Or.inr (Or.inr (Or.inl (q))))); exact Or.inr (Or.inr (Or.inr (Or.inr (Or.inr (Or.inl (q)))))); exact Or.inr (Or.inr (Or.inr (Or.inr (Or.inr (Or.inr ((q)))))))) (fun a k q => by refine s2 _ _ ?_; unfold w2_f_X10_hoursMet at q; unfold w2_lp_X10_meetings_66; exact q))
      rcases fr_ite h3 with h5 | h5
      ·
        exact f4.tr (ih _ _ _ _ h5)
      ·
        exact f4.tr (ih _ _ _ _ h5)
def w1_f_X10_meetings (a k : Nat) : Prop := (a = 3 ∧ k = 3) ∨ (a = 31 ∧ k = 5) ∨ (a = 31 ∧ k = 6) ∨ a = 32 ∨ a = 33 ∨ a = 34 ∨ a = 35
def w2_f_X10_meetings (a k : Nat) : Prop := a = 36
theorem fr_f_X10_meetings {v1 : Int32} {v2 : Int32} {v3 : Int32} {v4 : Int32} {v5 : Int32} {S : fS} {r : Int32 × fS} (h : f_X10_meetings v1 v2 v3 v4 v5 S = some r) : Fr (w1_f_X10_meetings) (w2_f_X10_meetings) S r.2 := by
  unfold f_X10_meetings at h
  obtain ⟨q1, e1, h2⟩ := Option.bind_eq_some_iff.mp h
  rcases fr_ite h2 with h3 | h3
  ·
    exact fr_e2 h3 (Fr.rf (S := S))
  ·
    obtain ⟨q5, e4, h5⟩ := Option.bind_eq_some_iff.mp h3
    rcases fr_ite h5 with h6 | h6
    ·
      exact fr_e2 h6 (Fr.rf (S := S))
    ·
      rcases fr_ite h6 with h7 | h7
      ·
        exact fr_e2 h7 (Fr.rf (S := S))
      ·
        obtain ⟨q10, e8, h9⟩ := Option.bind_eq_some_iff.mp h7
        rcases fr_ite h9 with h10 | h10
        ·
          exact fr_e2 h10 (Fr.rf (S := S))
        ·
          obtain ⟨q14, e11, h12⟩ := Option.bind_eq_some_iff.mp h10
          rcases fr_ite h12 with h13 | h13
          ·
            exact fr_e2 h13 (Fr.rf (S := S))
          ·
            obtain ⟨q18, e14, h15⟩ := Option.bind_eq_some_iff.mp h13
            rcases fr_ite h15 with h16 | h16
            ·
              exact fr_e2 h16 (Fr.rf (S := S))
            ·
              refine (Fr.rf (S := S)).tr (fr_lp_X10_meetings_66 (v1 := w1_f_X10_meetings) (v2 := w2_f_X10_meetings) (fun a k q => by unfold w1_lp_X10_meetings_66 at q; unfold w1_f_X10_meetings; rcases q with q | q | q | q | q | q | q; exact Or.inl (q); exact Or.inr (Or.inl (q)); exact Or.inr (Or.inr (Or.inl (q))); exact Or.inr (Or.inr (Or.inr (Or.inl (q)))); exact Or.inr (Or.inr (Or.inr (Or.inr (Or.inl (q))))); exact Or.inr (Or.inr (Or.inr (Or.inr (Or.inr (Or.inl (q)))))); exact Or.inr (Or.inr (Or.inr (Or.inr (Or.inr (Or.inr ((q)))))))) (fun a k q => by unfold w2_lp_X10_meetings_66 at q; unfold w2_f_X10_meetings; exact q) (fun u27 u28 S29 h17 => ?_) _ _ _ _ _ h16)
              rcases fr_ite h17 with h18 | h18
              ·
                exact fr_e2 h18 (Fr.rf (S := S29))
              ·
                exact fr_e2 h18 (Fr.rf (S := S29))
def w1_f_X2_copyFrom (v0 : Nat) (v1 : Nat) (a k : Nat) : Prop := (a = v0 ∧ k = 4) ∨ a = v0 + 1 ∨ a = v0 + 2 ∨ a = v0 + 3 ∨ a = v0 + 4
def w2_f_X2_copyFrom (v0 : Nat) (v1 : Nat) (a k : Nat) : Prop := False
theorem fr_f_X2_copyFrom {v0 : Nat} {v1 : Nat} {S : fS} {r : fS} (h : f_X2_copyFrom v0 v1 S = some r) : Fr (w1_f_X2_copyFrom v0 v1) (w2_f_X2_copyFrom v0 v1) S r := by
  unfold f_X2_copyFrom at h
  obtain ⟨S1, e1, h2⟩ := Option.bind_eq_some_iff.mp h
  have f3 : Fr (w1_f_X2_copyFrom v0 v1) (w2_f_X2_copyFrom v0 v1) S S1 := (Fr.rf (S := S)).tr (fr_cI e1 (fun k => by unfold w1_f_X2_copyFrom; exact Or.inr (Or.inl (rfl))))
  obtain ⟨S4, e4, h5⟩ := Option.bind_eq_some_iff.mp h2
  have f6 : Fr (w1_f_X2_copyFrom v0 v1) (w2_f_X2_copyFrom v0 v1) S S4 := f3.tr (fr_cI e4 (fun k => by unfold w1_f_X2_copyFrom; exact Or.inr (Or.inr (Or.inl (rfl)))))
  obtain ⟨S7, e7, h8⟩ := Option.bind_eq_some_iff.mp h5
  have f9 : Fr (w1_f_X2_copyFrom v0 v1) (w2_f_X2_copyFrom v0 v1) S S7 := f6.tr (fr_cI e7 (fun k => by unfold w1_f_X2_copyFrom; exact Or.inr (Or.inr (Or.inr (Or.inl (rfl))))))
  obtain ⟨S10, e10, h11⟩ := Option.bind_eq_some_iff.mp h8
  have f12 : Fr (w1_f_X2_copyFrom v0 v1) (w2_f_X2_copyFrom v0 v1) S S10 := f9.tr (fr_cI e10 (fun k => by unfold w1_f_X2_copyFrom; exact Or.inr (Or.inr (Or.inr (Or.inr ((rfl)))))))
  obtain ⟨S13, e13, h14⟩ := Option.bind_eq_some_iff.mp h11
  have f15 : Fr (w1_f_X2_copyFrom v0 v1) (w2_f_X2_copyFrom v0 v1) S S13 := f12.tr (fr_pI e13 (by unfold w1_f_X2_copyFrom; exact Or.inl (⟨rfl, rfl⟩)))
  exact fr_e1 h14 f15
def w1_f_X6_copyFrom (v0 : Nat) (v1 : Nat) (a k : Nat) : Prop := (a = v0 ∧ k = 3) ∨ (a = v0 + 1 ∧ k = 6) ∨ (a = v0 + 1 ∧ k = 7) ∨ a = v0 + 3 ∨ a = v0 + 4 ∨ a = v0 + 5 ∨ a = v0 + 7 ∨ (a = v0 + 8 ∧ k = 5) ∨ (a = v0 + 8 ∧ k = 6) ∨ a = v0 + 9 ∨ a = v0 + 10 ∨ a = v0 + 11 ∨ a = v0 + 12 ∨ (a = v0 + 14 ∧ k = 4) ∨ a = v0 + 15 ∨ a = v0 + 16 ∨ a = v0 + 17 ∨ a = v0 + 18
def w2_f_X6_copyFrom (v0 : Nat) (v1 : Nat) (a k : Nat) : Prop := a = v0 + 2 ∨ a = v0 + 6 ∨ a = v0 + 13
theorem fr_f_X6_copyFrom {v0 : Nat} {v1 : Nat} {S : fS} {r : fS} (h : f_X6_copyFrom v0 v1 S = some r) : Fr (w1_f_X6_copyFrom v0 v1) (w2_f_X6_copyFrom v0 v1) S r := by
  unfold f_X6_copyFrom at h
  obtain ⟨q1, e1, h2⟩ := Option.bind_eq_some_iff.mp h
  have f3 : Fr (w1_f_X6_copyFrom v0 v1) (w2_f_X6_copyFrom v0 v1) S q1 := (Fr.rf (S := S)).tr (Fr.mo (fr_f_X8_copyFrom e1) (fun a k q => by unfold w1_f_X8_copyFrom at q; unfold w1_f_X6_copyFrom; rcases q with q | q | q | q | q | q; exact Or.inr (Or.inl (q)); exact Or.inr (Or.inr (Or.inl (q))); exact Or.inr (Or.inr (Or.inr (Or.inl (q)))); exact Or.inr (Or.inr (Or.inr (Or.inr (Or.inl (q))))); exact Or.inr (Or.inr (Or.inr (Or.inr (Or.inr (Or.inl (q)))))); exact Or.inr (Or.inr (Or.inr (Or.inr (Or.inr (Or.inr (Or.inl (q)))))))) (fun a k q => by unfold w2_f_X8_copyFrom at q; unfold w2_f_X6_copyFrom; rcases q with q | q; exact Or.inl (q); exact Or.inr (Or.inl (q))))
  obtain ⟨q4, e4, h5⟩ := Option.bind_eq_some_iff.mp h2
  have f6 : Fr (w1_f_X6_copyFrom v0 v1) (w2_f_X6_copyFrom v0 v1) S q4 := f3.tr (Fr.mo (fr_f_X0_copyFrom e4) (fun a k q => by unfold w1_f_X0_copyFrom at q; unfold w1_f_X6_copyFrom; rcases q with q | q | q | q | q | q; exact Or.inr (Or.inr (Or.inr (Or.inr (Or.inr (Or.inr (Or.inr (Or.inl (q)))))))); exact Or.inr (Or.inr (Or.inr (Or.inr (Or.inr (Or.inr (Or.inr (Or.inr (Or.inl (q))))))))); exact Or.inr (Or.inr (Or.inr (Or.inr (Or.inr (Or.inr (Or.inr (Or.inr (Or.inr (Or.inl (q)))))))))); exact Or.inr (Or.inr (Or.inr (Or.inr (Or.inr (Or.inr (Or.inr (Or.inr (Or.inr (Or.inr (Or.inl (q))))))))))); exact Or.inr (Or.inr (Or.inr (Or.inr (Or.inr (Or.inr (Or.inr (Or.inr (Or.inr (Or.inr (Or.inr (Or.inl (q)))))))))))); exact Or.inr (Or.inr (Or.inr (Or.inr (Or.inr (Or.inr (Or.inr (Or.inr (Or.inr (Or.inr (Or.inr (Or.inr (Or.inl (q)))))))))))))) (fun a k q => by unfold w2_f_X0_copyFrom at q; unfold w2_f_X6_copyFrom; exact Or.inr (Or.inr ((q)))))
  obtain ⟨q7, e7, h8⟩ := Option.bind_eq_some_iff.mp h5
  have f9 : Fr (w1_f_X6_copyFrom v0 v1) (w2_f_X6_copyFrom v0 v1) S q7 := f6.tr (Fr.mo (fr_f_X2_copyFrom e7) (fun a k q => by unfold w1_f_X2_copyFrom at q; unfold w1_f_X6_copyFrom; rcases q with q | q | q | q | q; exact Or.inr (Or.inr (Or.inr (Or.inr (Or.inr (Or.inr (Or.inr (Or.inr (Or.inr (Or.inr (Or.inr (Or.inr (Or.inr (Or.inl (q)))))))))))))); exact Or.inr (Or.inr (Or.inr (Or.inr (Or.inr (Or.inr (Or.inr (Or.inr (Or.inr (Or.inr (Or.inr (Or.inr (Or.inr (Or.inr (Or.inl (q))))))))))))))); exact Or.inr (Or.inr (Or.inr (Or.inr (Or.inr (Or.inr (Or.inr (Or.inr (Or.inr (Or.inr (Or.inr (Or.inr (Or.inr (Or.inr (Or.inr (Or.inl (q)))))))))))))))); exact Or.inr (Or.inr (Or.inr (Or.inr (Or.inr (Or.inr (Or.inr (Or.inr (Or.inr (Or.inr (Or.inr (Or.inr (Or.inr (Or.inr (Or.inr (Or.inr (Or.inl (q))))))))))))))))); exact Or.inr (Or.inr (Or.inr (Or.inr (Or.inr (Or.inr (Or.inr (Or.inr (Or.inr (Or.inr (Or.inr (Or.inr (Or.inr (Or.inr (Or.inr (Or.inr (Or.inr ((q))))))))))))))))))) (fun _ _ q => False.elim q))
  obtain ⟨S10, e10, h11⟩ := Option.bind_eq_some_iff.mp h8
  have f12 : Fr (w1_f_X6_copyFrom v0 v1) (w2_f_X6_copyFrom v0 v1) S S10 := f9.tr (fr_pI e10 (by unfold w1_f_X6_copyFrom; exact Or.inl (⟨rfl, rfl⟩)))
  exact fr_e1 h11 f12
def w1_f_X10_image (a k : Nat) : Prop := (51 ≤ a ∧ a ≤ 126)
def w2_f_X10_image (a k : Nat) : Prop := (51 ≤ a ∧ a ≤ 126)
theorem fr_f_X10_image {v1 : Int32} {S : fS} {r : Int32 × fS} (h : f_X10_image v1 S = some r) : Fr (w1_f_X10_image) (w2_f_X10_image) S r.2 := by
  unfold f_X10_image at h
  obtain ⟨q1, e1, h2⟩ := Option.bind_eq_some_iff.mp h
  rcases fr_ite h2 with h3 | h3
  ·
    exact fr_e2 h3 (Fr.rf (S := S))
  ·
    obtain ⟨a5, e4, h5⟩ := Option.bind_eq_some_iff.mp h3
    have g6 := fr_A22 e4
    obtain ⟨q8, e7, h8⟩ := Option.bind_eq_some_iff.mp h5
    have f9 : Fr (w1_f_X10_image) (w2_f_X10_image) S q8 := (Fr.rf (S := S)).tr (Fr.mo (fr_f_X6_copyFrom e7) (fun a k q => by unfold w1_f_X6_copyFrom at q; unfold w1_f_X10_image; rcases q with q | q | q | q | q | q | q | q | q | q | q | q | q | q | q | q | q | q; exact (by omega); exact (by omega); exact (by omega); exact (by omega); exact (by omega); exact (by omega); exact (by omega); exact (by omega); exact (by omega); exact (by omega); exact (by omega); exact (by omega); exact (by omega); exact (by omega); exact (by omega); exact (by omega); exact (by omega); exact (by omega)) (fun a k q => by unfold w2_f_X6_copyFrom at q; unfold w2_f_X10_image; rcases q with q | q | q; exact (by omega); exact (by omega); exact (by omega)))
    obtain ⟨a11, e10, h11⟩ := Option.bind_eq_some_iff.mp h8
    have g12 := fr_A22 e10
    obtain ⟨S14, e13, h14⟩ := Option.bind_eq_some_iff.mp h11
    have f15 : Fr (w1_f_X10_image) (w2_f_X10_image) S S14 := f9.tr (fr_pI e13 (by unfold w1_f_X10_image; exact (by omega)))
    exact fr_e2 h14 f15
def w1_f_X10_back (a k : Nat) : Prop := (a = 3 ∧ k = 3) ∨ (a = 4 ∧ k = 6) ∨ (a = 4 ∧ k = 7) ∨ a = 6 ∨ a = 7 ∨ a = 8 ∨ a = 10 ∨ (a = 11 ∧ k = 5) ∨ (a = 11 ∧ k = 6) ∨ a = 12 ∨ a = 13 ∨ a = 14 ∨ a = 15 ∨ (a = 17 ∧ k = 4) ∨ a = 18 ∨ a = 19 ∨ a = 20 ∨ a = 21
def w2_f_X10_back (a k : Nat) : Prop := a = 5 ∨ a = 9 ∨ a = 16
theorem fr_f_X10_back {v1 : Int32} {S : fS} {r : Int32 × fS} (h : f_X10_back v1 S = some r) : Fr (w1_f_X10_back) (w2_f_X10_back) S r.2 := by
  unfold f_X10_back at h
  obtain ⟨q1, e1, h2⟩ := Option.bind_eq_some_iff.mp h
  rcases fr_ite h2 with h3 | h3
  ·
    exact fr_e2 h3 (Fr.rf (S := S))
  ·
    obtain ⟨a5, e4, h5⟩ := Option.bind_eq_some_iff.mp h3
    have g6 := fr_A22 e4
    rcases fr_ite h5 with h7 | h7
    ·
      exact fr_e2 h7 (Fr.rf (S := S))
    ·
      obtain ⟨a9, e8, h9⟩ := Option.bind_eq_some_iff.mp h7
      have g10 := fr_A22 e8
      obtain ⟨q12, e11, h12⟩ := Option.bind_eq_some_iff.mp h9
      have f13 : Fr (w1_f_X10_back) (w2_f_X10_back) S q12 := (Fr.rf (S := S)).tr (Fr.mo (fr_f_X6_copyFrom e11) (fun a k q => by unfold w1_f_X6_copyFrom at q; unfold w1_f_X10_back; rcases q with q | q | q | q | q | q | q | q | q | q | q | q | q | q | q | q | q | q; exact Or.inl (q); exact Or.inr (Or.inl (q)); exact Or.inr (Or.inr (Or.inl (q))); exact Or.inr (Or.inr (Or.inr (Or.inl (q)))); exact Or.inr (Or.inr (Or.inr (Or.inr (Or.inl (q))))); exact Or.inr (Or.inr (Or.inr (Or.inr (Or.inr (Or.inl (q)))))); exact Or.inr (Or.inr (Or.inr (Or.inr (Or.inr (Or.inr (Or.inl (q))))))); exact Or.inr (Or.inr (Or.inr (Or.inr (Or.inr (Or.inr (Or.inr (Or.inl (q)))))))); exact Or.inr (Or.inr (Or.inr (Or.inr (Or.inr (Or.inr (Or.inr (Or.inr (Or.inl (q))))))))); exact Or.inr (Or.inr (Or.inr (Or.inr (Or.inr (Or.inr (Or.inr (Or.inr (Or.inr (Or.inl (q)))))))))); exact Or.inr (Or.inr (Or.inr (Or.inr (Or.inr (Or.inr (Or.inr (Or.inr (Or.inr (Or.inr (Or.inl (q))))))))))); exact Or.inr (Or.inr (Or.inr (Or.inr (Or.inr (Or.inr (Or.inr (Or.inr (Or.inr (Or.inr (Or.inr (Or.inl (q)))))))))))); exact Or.inr (Or.inr (Or.inr (Or.inr (Or.inr (Or.inr (Or.inr (Or.inr (Or.inr (Or.inr (Or.inr (Or.inr (Or.inl (q))))))))))))); exact Or.inr (Or.inr (Or.inr (Or.inr (Or.inr (Or.inr (Or.inr (Or.inr (Or.inr (Or.inr (Or.inr (Or.inr (Or.inr (Or.inl (q)))))))))))))); exact Or.inr (Or.inr (Or.inr (Or.inr (Or.inr (Or.inr (Or.inr (Or.inr (Or.inr (Or.inr (Or.inr (Or.inr (Or.inr (Or.inr (Or.inl (q))))))))))))))); exact Or.inr (Or.inr (Or.inr (Or.inr (Or.inr (Or.inr (Or.inr (Or.inr (Or.inr (Or.inr (Or.inr (Or.inr (Or.inr (Or.inr (Or.inr (Or.inl (q)))))))))))))))); exact Or.inr (Or.inr (Or.inr (Or.inr (Or.inr (Or.inr (Or.inr (Or.inr (Or.inr (Or.inr (Or.inr (Or.inr (Or.inr (Or.inr (Or.inr (Or.inr (Or.inl (q))))))))))))))))); exact Or.inr (Or.inr (Or.inr (Or.inr (Or.inr (Or.inr (Or.inr (Or.inr (Or.inr (Or.inr (Or.inr (Or.inr (Or.inr (Or.inr (Or.inr (Or.inr (Or.inr ((q))))))))))))))))))) (fun a k q => by unfold w2_f_X6_copyFrom at q; unfold w2_f_X10_back; rcases q with q | q | q; exact Or.inl (q); exact Or.inr (Or.inl (q)); exact Or.inr (Or.inr ((q)))))
      exact fr_e2 h12 f13
def w1_lp_X11_four_3 (a k : Nat) : Prop := (a = 145 ∧ k = 1) ∨ a = 146
def w2_lp_X11_four_3 (a k : Nat) : Prop := False
theorem fr_lp_X11_four_3 {p1 : Int32} {K : fS → Option (fS)} {r : fS} {v1 v2 : Nat → Nat → Prop} (s1 : ∀ a k, w1_lp_X11_four_3 a k → v1 a k) (s2 : ∀ a k, w2_lp_X11_four_3 a k → v2 a k) (hK : ∀ (x0 : fS), K x0 = some r → Fr v1 v2 x0 r) : ∀ (n : Nat) (p2 : Int32) (S0 : fS), lp_X11_four_3 p1 K n p2 S0 = some r → Fr v1 v2 S0 r := by
  intro n
  induction n with
  | zero => intro p2 S0 h; exact mm_no h
  | succ n ih =>
    intro p2 S0 h
    rw [lp_X11_four_3.eq_2] at h
    rcases fr_ite h with h1 | h1
    ·
      exact (Fr.rf (S := S0)).tr (hK _ h1)
    ·
      obtain ⟨S2, e2, h3⟩ := Option.bind_eq_some_iff.mp h1
      have f4 : Fr v1 v2 S0 S2 := (Fr.rf (S := S0)).tr (fr_sI e2 (fun k => by refine s1 _ _ ?_; unfold w1_lp_X11_four_3; exact Or.inr ((rfl))))
      obtain ⟨S5, e5, h6⟩ := Option.bind_eq_some_iff.mp h3
      have f7 : Fr v1 v2 S0 S5 := f4.tr (fr_pI e5 (by refine s1 _ _ ?_; unfold w1_lp_X11_four_3; exact Or.inl (⟨rfl, rfl⟩)))
      exact f7.tr (ih _ _ h6)
def w1_f_X11_four (a k : Nat) : Prop := (a = 145 ∧ k = 1) ∨ a = 146
def w2_f_X11_four (a k : Nat) : Prop := False
theorem fr_f_X11_four {v1 : Int32} {S : fS} {r : fS} (h : f_X11_four v1 S = some r) : Fr (w1_f_X11_four) (w2_f_X11_four) S r := by
  unfold f_X11_four at h
  refine (Fr.rf (S := S)).tr (fr_lp_X11_four_3 (v1 := w1_f_X11_four) (v2 := w2_f_X11_four) (fun a k q => by unfold w1_lp_X11_four_3 at q; unfold w1_f_X11_four; rcases q with q | q; exact Or.inl (q); exact Or.inr ((q))) (fun _ _ q => False.elim q) (fun S8 h1 => ?_) _ _ _ h)
  exact fr_e1 h1 (Fr.rf (S := S8))
def w1_f_X11_feed (a k : Nat) : Prop := (a = 145 ∧ k = 1) ∨ a = 146
def w2_f_X11_feed (a k : Nat) : Prop := False
theorem fr_f_X11_feed {v1 : Int32} {v2 : Int32} {v3 : Int32} {v4 : Int32} {v5 : Int32} {S : fS} {r : Int32 × fS} (h : f_X11_feed v1 v2 v3 v4 v5 S = some r) : Fr (w1_f_X11_feed) (w2_f_X11_feed) S r.2 := by
  unfold f_X11_feed at h
  rcases fr_ite h with h1 | h1
  ·
    obtain ⟨q2, e2, h3⟩ := Option.bind_eq_some_iff.mp h1
    have f4 : Fr (w1_f_X11_feed) (w2_f_X11_feed) S q2 := (Fr.rf (S := S)).tr (Fr.mo (fr_f_X11_four e2) (fun a k q => by unfold w1_f_X11_four at q; unfold w1_f_X11_feed; rcases q with q | q; exact Or.inl (q); exact Or.inr ((q))) (fun _ _ q => False.elim q))
    obtain ⟨q5, e5, h6⟩ := Option.bind_eq_some_iff.mp h3
    have f7 : Fr (w1_f_X11_feed) (w2_f_X11_feed) S q5 := f4.tr (Fr.mo (fr_f_X11_four e5) (fun a k q => by unfold w1_f_X11_four at q; unfold w1_f_X11_feed; rcases q with q | q; exact Or.inl (q); exact Or.inr ((q))) (fun _ _ q => False.elim q))
    obtain ⟨q8, e8, h9⟩ := Option.bind_eq_some_iff.mp h6
    have f10 : Fr (w1_f_X11_feed) (w2_f_X11_feed) S q8 := f7.tr (Fr.mo (fr_f_X11_four e8) (fun a k q => by unfold w1_f_X11_four at q; unfold w1_f_X11_feed; rcases q with q | q; exact Or.inl (q); exact Or.inr ((q))) (fun _ _ q => False.elim q))
    obtain ⟨q11, e11, h12⟩ := Option.bind_eq_some_iff.mp h9
    have f13 : Fr (w1_f_X11_feed) (w2_f_X11_feed) S q11 := f10.tr (Fr.mo (fr_f_X11_four e11) (fun a k q => by unfold w1_f_X11_four at q; unfold w1_f_X11_feed; rcases q with q | q; exact Or.inl (q); exact Or.inr ((q))) (fun _ _ q => False.elim q))
    obtain ⟨q14, e14, h15⟩ := Option.bind_eq_some_iff.mp h12
    have f16 : Fr (w1_f_X11_feed) (w2_f_X11_feed) S q14 := f13.tr (Fr.mo (fr_f_X11_four e14) (fun a k q => by unfold w1_f_X11_four at q; unfold w1_f_X11_feed; rcases q with q | q; exact Or.inl (q); exact Or.inr ((q))) (fun _ _ q => False.elim q))
    exact fr_e2 h15 f16
  ·
    exact fr_e2 h1 (Fr.rf (S := S))
def w1_f_X11_end (a k : Nat) : Prop := (a = 145 ∧ k = 1)
def w2_f_X11_end (a k : Nat) : Prop := False
theorem fr_f_X11_end {v1 : Int32} {S : fS} {r : Int32 × fS} (h : f_X11_end v1 S = some r) : Fr (w1_f_X11_end) (w2_f_X11_end) S r.2 := by
  unfold f_X11_end at h
  rcases fr_ite h with h1 | h1
  ·
    exact fr_e2 h1 (Fr.rf (S := S))
  ·
    rcases fr_ite h1 with h2 | h2
    ·
      obtain ⟨S3, e3, h4⟩ := Option.bind_eq_some_iff.mp h2
      have f5 : Fr (w1_f_X11_end) (w2_f_X11_end) S S3 := (Fr.rf (S := S)).tr (fr_pI e3 (by unfold w1_f_X11_end; exact ⟨rfl, rfl⟩))
      exact fr_e2 h4 f5
    ·
      exact fr_e2 h2 (Fr.rf (S := S))
def w1_lp_X11_see_0 (a k : Nat) : Prop := (a = 145 ∧ k = 13)
def w2_lp_X11_see_0 (a k : Nat) : Prop := False
theorem fr_lp_X11_see_0 {K : fS → Option (Int32 × fS)} {r : Int32 × fS} {v1 v2 : Nat → Nat → Prop} (s1 : ∀ a k, w1_lp_X11_see_0 a k → v1 a k) (s2 : ∀ a k, w2_lp_X11_see_0 a k → v2 a k) (hK : ∀ (x0 : fS), K x0 = some r → Fr v1 v2 x0 r.2) : ∀ (n : Nat) (S0 : fS), lp_X11_see_0 K n S0 = some r → Fr v1 v2 S0 r.2 := by
  intro n
  induction n with
  | zero => intro S0 h; exact mm_no h
  | succ n ih =>
    intro S0 h
    rw [lp_X11_see_0.eq_2] at h
    rcases fr_ite h with h1 | h1
    ·
      exact (Fr.rf (S := S0)).tr (hK _ h1)
    ·
      obtain ⟨a2, e2, h3⟩ := Option.bind_eq_some_iff.mp h1
      rcases fr_ite h3 with h4 | h4
      ·
        obtain ⟨S6, e5, h6⟩ := Option.bind_eq_some_iff.mp h4
        have f7 : Fr v1 v2 S0 S6 := (Fr.rf (S := S0)).tr (fr_pI e5 (by refine s1 _ _ ?_; unfold w1_lp_X11_see_0; exact ⟨rfl, rfl⟩))
        exact f7.tr (ih _ h6)
      ·
        exact (Fr.rf (S := S0)).tr (hK _ h4)
def w1_f_X11_see (a k : Nat) : Prop := (a = 145 ∧ k = 13)
def w2_f_X11_see (a k : Nat) : Prop := False
theorem fr_f_X11_see {S : fS} {r : Int32 × fS} (h : f_X11_see S = some r) : Fr (w1_f_X11_see) (w2_f_X11_see) S r.2 := by
  unfold f_X11_see at h
  refine (Fr.rf (S := S)).tr (fr_lp_X11_see_0 (v1 := w1_f_X11_see) (v2 := w2_f_X11_see) (fun a k q => by unfold w1_lp_X11_see_0 at q; unfold w1_f_X11_see; exact q) (fun _ _ q => False.elim q) (fun S9 h1 => ?_) _ _ h)
  rcases fr_ite h1 with h2 | h2
  ·
    exact fr_e2 h2 (Fr.rf (S := S9))
  ·
    obtain ⟨a12, e3, h4⟩ := Option.bind_eq_some_iff.mp h2
    exact fr_e2 h4 (Fr.rf (S := S9))
def w1_lp_X11_isWord_10 (a k : Nat) : Prop := False
def w2_lp_X11_isWord_10 (a k : Nat) : Prop := False
theorem fr_lp_X11_isWord_10 {p1 : Int64} {K : Int64 → Int32 → fS → Option (Int32 × fS)} {r : Int32 × fS} {v1 v2 : Nat → Nat → Prop} (s1 : ∀ a k, w1_lp_X11_isWord_10 a k → v1 a k) (s2 : ∀ a k, w2_lp_X11_isWord_10 a k → v2 a k) (hK : ∀ (x0 : Int64) (x1 : Int32) (x2 : fS), K x0 x1 x2 = some r → Fr v1 v2 x2 r.2) : ∀ (n : Nat) (p3 : Int64) (p5 : Int32) (S0 : fS), lp_X11_isWord_10 p1 K n p3 p5 S0 = some r → Fr v1 v2 S0 r.2 := by
  intro n
  induction n with
  | zero => intro p3 p5 S0 h; exact mm_no h
  | succ n ih =>
    intro p3 p5 S0 h
    rw [lp_X11_isWord_10.eq_2] at h
    obtain ⟨q4, e1, h2⟩ := Option.bind_eq_some_iff.mp h
    rcases fr_ite h2 with h3 | h3
    ·
      exact (Fr.rf (S := S0)).tr (hK _ _ _ h3)
    ·
      rcases fr_ite h3 with h4 | h4
      ·
        exact (Fr.rf (S := S0)).tr (ih _ _ _ h4)
      ·
        obtain ⟨a9, e5, h6⟩ := Option.bind_eq_some_iff.mp h4
        exact (Fr.rf (S := S0)).tr (ih _ _ _ h6)
def w1_f_X11_isWord (a k : Nat) : Prop := (a = 145 ∧ k = 13)
def w2_f_X11_isWord (a k : Nat) : Prop := False
theorem fr_f_X11_isWord {v1 : Int64} {S : fS} {r : Int32 × fS} (h : f_X11_isWord v1 S = some r) : Fr (w1_f_X11_isWord) (w2_f_X11_isWord) S r.2 := by
  unfold f_X11_isWord at h
  obtain ⟨q1, e1, h2⟩ := Option.bind_eq_some_iff.mp h
  have f3 : Fr (w1_f_X11_isWord) (w2_f_X11_isWord) S q1.2 := (Fr.rf (S := S)).tr (Fr.mo (fr_f_X11_see e1) (fun a k q => by unfold w1_f_X11_see at q; unfold w1_f_X11_isWord; exact q) (fun _ _ q => False.elim q))
  refine f3.tr (fr_lp_X11_isWord_10 (v1 := w1_f_X11_isWord) (v2 := w2_f_X11_isWord) (fun _ _ q => False.elim q) (fun _ _ q => False.elim q) (fun u12 u13 S14 h4 => ?_) _ _ _ _ h2)
  rcases fr_ite h4 with h5 | h5
  ·
    exact fr_e2 h5 (Fr.rf (S := S14))
  ·
    rcases fr_ite h5 with h6 | h6
    ·
      exact fr_e2 h6 (Fr.rf (S := S14))
    ·
      rcases fr_ite h6 with h7 | h7
      ·
        exact fr_e2 h7 (Fr.rf (S := S14))
      ·
        exact fr_e2 h7 (Fr.rf (S := S14))
def w1_f_X11_fails (a k : Nat) : Prop := (a = 145 ∧ k = 14)
def w2_f_X11_fails (a k : Nat) : Prop := False
theorem fr_f_X11_fails {v1 : Int32} {v2 : Int32} {S : fS} {r : Int32 × fS} (h : f_X11_fails v1 v2 S = some r) : Fr (w1_f_X11_fails) (w2_f_X11_fails) S r.2 := by
  unfold f_X11_fails at h
  rcases fr_ite h with h1 | h1
  ·
    obtain ⟨S2, e2, h3⟩ := Option.bind_eq_some_iff.mp h1
    have f4 : Fr (w1_f_X11_fails) (w2_f_X11_fails) S S2 := (Fr.rf (S := S)).tr (fr_pI e2 (by unfold w1_f_X11_fails; exact ⟨rfl, rfl⟩))
    exact fr_e2 h3 f4
  ·
    exact fr_e2 h1 (Fr.rf (S := S))
def w1_lp_X11_passWord_0 (a k : Nat) : Prop := (a = 145 ∧ k = 13)
def w2_lp_X11_passWord_0 (a k : Nat) : Prop := False
theorem fr_lp_X11_passWord_0 {K : fS → Option (fS)} {r : fS} {v1 v2 : Nat → Nat → Prop} (s1 : ∀ a k, w1_lp_X11_passWord_0 a k → v1 a k) (s2 : ∀ a k, w2_lp_X11_passWord_0 a k → v2 a k) (hK : ∀ (x0 : fS), K x0 = some r → Fr v1 v2 x0 r) : ∀ (n : Nat) (S0 : fS), lp_X11_passWord_0 K n S0 = some r → Fr v1 v2 S0 r := by
  intro n
  induction n with
  | zero => intro S0 h; exact mm_no h
  | succ n ih =>
    intro S0 h
    rw [lp_X11_passWord_0.eq_2] at h
    obtain ⟨q1, e1, h2⟩ := Option.bind_eq_some_iff.mp h
    rcases fr_ite h2 with h3 | h3
    ·
      exact (Fr.rf (S := S0)).tr (hK _ h3)
    ·
      obtain ⟨S5, e4, h5⟩ := Option.bind_eq_some_iff.mp h3
      have f6 : Fr v1 v2 S0 S5 := (Fr.rf (S := S0)).tr (fr_pI e4 (by refine s1 _ _ ?_; unfold w1_lp_X11_passWord_0; exact ⟨rfl, rfl⟩))
      exact f6.tr (ih _ h5)
def w1_f_X11_passWord (a k : Nat) : Prop := (a = 145 ∧ k = 13)
def w2_f_X11_passWord (a k : Nat) : Prop := False
theorem fr_f_X11_passWord {S : fS} {r : fS} (h : f_X11_passWord S = some r) : Fr (w1_f_X11_passWord) (w2_f_X11_passWord) S r := by
  unfold f_X11_passWord at h
  refine (Fr.rf (S := S)).tr (fr_lp_X11_passWord_0 (v1 := w1_f_X11_passWord) (v2 := w2_f_X11_passWord) (fun a k q => by unfold w1_lp_X11_passWord_0 at q; unfold w1_f_X11_passWord; exact q) (fun _ _ q => False.elim q) (fun S8 h1 => ?_) _ _ h)
  exact fr_e1 h1 (Fr.rf (S := S8))
def w1_lp_X11_numberHere_34 (a k : Nat) : Prop := (a = 145 ∧ k = 13)
def w2_lp_X11_numberHere_34 (a k : Nat) : Prop := False
theorem fr_lp_X11_numberHere_34 {p1 : Int32} {p2 : Int32} {p3 : Int32} {K : Int32 → fS → Option (Int32 × fS)} {r : Int32 × fS} {v1 v2 : Nat → Nat → Prop} (s1 : ∀ a k, w1_lp_X11_numberHere_34 a k → v1 a k) (s2 : ∀ a k, w2_lp_X11_numberHere_34 a k → v2 a k) (hK : ∀ (x0 : Int32) (x1 : fS), K x0 x1 = some r → Fr v1 v2 x1 r.2) : ∀ (n : Nat) (p4 : Int32) (S0 : fS), lp_X11_numberHere_34 p1 p2 p3 K n p4 S0 = some r → Fr v1 v2 S0 r.2 := by
  intro n
  induction n with
  | zero => intro p4 S0 h; exact mm_no h
  | succ n ih =>
    intro p4 S0 h
    rw [lp_X11_numberHere_34.eq_2] at h
    obtain ⟨q8, e1, h2⟩ := Option.bind_eq_some_iff.mp h
    rcases fr_ite h2 with h3 | h3
    ·
      exact (Fr.rf (S := S0)).tr (hK _ _ h3)
    ·
      rcases fr_ite h3 with h4 | h4
      ·
        obtain ⟨S13, e5, h6⟩ := Option.bind_eq_some_iff.mp h4
        have f7 : Fr v1 v2 S0 S13 := (Fr.rf (S := S0)).tr (fr_pI e5 (by refine s1 _ _ ?_; unfold w1_lp_X11_numberHere_34; exact ⟨rfl, rfl⟩))
        exact f7.tr (ih _ _ h6)
      ·
        obtain ⟨a16, e8, h9⟩ := Option.bind_eq_some_iff.mp h4
        obtain ⟨S19, e10, h11⟩ := Option.bind_eq_some_iff.mp h9
        have f12 : Fr v1 v2 S0 S19 := (Fr.rf (S := S0)).tr (fr_pI e10 (by refine s1 _ _ ?_; unfold w1_lp_X11_numberHere_34; exact ⟨rfl, rfl⟩))
        exact f12.tr (ih _ _ h11)
def w1_f_X11_numberHere (a k : Nat) : Prop := (a = 145 ∧ k = 13) ∨ (a = 145 ∧ k = 14) ∨ (a = 145 ∧ k = 15)
def w2_f_X11_numberHere (a k : Nat) : Prop := False
theorem fr_f_X11_numberHere {v1 : Int32} {v2 : Int32} {S : fS} {r : Int32 × fS} (h : f_X11_numberHere v1 v2 S = some r) : Fr (w1_f_X11_numberHere) (w2_f_X11_numberHere) S r.2 := by
  unfold f_X11_numberHere at h
  obtain ⟨q1, e1, h2⟩ := Option.bind_eq_some_iff.mp h
  have f3 : Fr (w1_f_X11_numberHere) (w2_f_X11_numberHere) S q1.2 := (Fr.rf (S := S)).tr (Fr.mo (fr_f_X11_see e1) (fun a k q => by unfold w1_f_X11_see at q; unfold w1_f_X11_numberHere; exact Or.inl (q)) (fun _ _ q => False.elim q))
  obtain ⟨q4, e4, h5⟩ := Option.bind_eq_some_iff.mp h2
  rcases fr_ite h5 with h6 | h6
  ·
    obtain ⟨q41, e7, h8⟩ := Option.bind_eq_some_iff.mp h6
    have f9 : Fr (w1_f_X11_numberHere) (w2_f_X11_numberHere) S q41.2 := f3.tr (Fr.mo (fr_f_X11_fails e7) (fun a k q => by unfold w1_f_X11_fails at q; unfold w1_f_X11_numberHere; exact Or.inr (Or.inl (q))) (fun _ _ q => False.elim q))
    obtain ⟨z44, e10, h11⟩ := Option.bind_eq_some_iff.mp h8
    exact fr_e2 h11 f9
  ·
    refine f3.tr (fr_lp_X11_numberHere_34 (v1 := w1_f_X11_numberHere) (v2 := w2_f_X11_numberHere) (fun a k q => by unfold w1_lp_X11_numberHere_34 at q; unfold w1_f_X11_numberHere; exact Or.inl (q)) (fun _ _ q => False.elim q) (fun u22 S23 h12 => ?_) _ _ _ h6)
    obtain ⟨S25, e13, h14⟩ := Option.bind_eq_some_iff.mp h12
    have f15 : Fr (w1_f_X11_numberHere) (w2_f_X11_numberHere) S23 S25 := (Fr.rf (S := S23)).tr (fr_pI e13 (by unfold w1_f_X11_numberHere; exact Or.inr (Or.inr ((⟨rfl, rfl⟩)))))
    rcases fr_ite h14 with h16 | h16
    ·
      obtain ⟨q29, e17, h18⟩ := Option.bind_eq_some_iff.mp h16
      have f19 : Fr (w1_f_X11_numberHere) (w2_f_X11_numberHere) S23 q29.2 := f15.tr (Fr.mo (fr_f_X11_fails e17) (fun a k q => by unfold w1_f_X11_fails at q; unfold w1_f_X11_numberHere; exact Or.inr (Or.inl (q))) (fun _ _ q => False.elim q))
      rcases fr_ite h18 with h20 | h20
      ·
        exact fr_e2 h20 f19
      ·
        exact fr_e2 h20 f19
    ·
      obtain ⟨q33, e21, h22⟩ := Option.bind_eq_some_iff.mp h16
      rcases fr_ite h22 with h23 | h23
      ·
        obtain ⟨q37, e24, h25⟩ := Option.bind_eq_some_iff.mp h23
        have f26 : Fr (w1_f_X11_numberHere) (w2_f_X11_numberHere) S23 q37.2 := f15.tr (Fr.mo (fr_f_X11_fails e24) (fun a k q => by unfold w1_f_X11_fails at q; unfold w1_f_X11_numberHere; exact Or.inr (Or.inl (q))) (fun _ _ q => False.elim q))
        rcases fr_ite h25 with h27 | h27
        ·
          exact fr_e2 h27 f26
        ·
          exact fr_e2 h27 f26
      ·
        exact fr_e2 h23 f15
def w1_f_X11_takesWord (a k : Nat) : Prop := (a = 145 ∧ k = 13)
def w2_f_X11_takesWord (a k : Nat) : Prop := False
theorem fr_f_X11_takesWord {v1 : Int64} {S : fS} {r : Int32 × fS} (h : f_X11_takesWord v1 S = some r) : Fr (w1_f_X11_takesWord) (w2_f_X11_takesWord) S r.2 := by
  unfold f_X11_takesWord at h
  obtain ⟨q1, e1, h2⟩ := Option.bind_eq_some_iff.mp h
  have f3 : Fr (w1_f_X11_takesWord) (w2_f_X11_takesWord) S q1.2 := (Fr.rf (S := S)).tr (Fr.mo (fr_f_X11_isWord e1) (fun a k q => by unfold w1_f_X11_isWord at q; unfold w1_f_X11_takesWord; exact q) (fun _ _ q => False.elim q))
  rcases fr_ite h2 with h4 | h4
  ·
    exact fr_e2 h4 f3
  ·
    obtain ⟨q5, e5, h6⟩ := Option.bind_eq_some_iff.mp h4
    have f7 : Fr (w1_f_X11_takesWord) (w2_f_X11_takesWord) S q5 := f3.tr (Fr.mo (fr_f_X11_passWord e5) (fun a k q => by unfold w1_f_X11_passWord at q; unfold w1_f_X11_takesWord; exact q) (fun _ _ q => False.elim q))
    exact fr_e2 h6 f7
def w1_f_X11_opens (a k : Nat) : Prop := (a = 145 ∧ k = 14) ∨ (a = 145 ∧ k = 18) ∨ (a = 145 ∧ k = 21) ∨ a = 154
def w2_f_X11_opens (a k : Nat) : Prop := False
theorem fr_f_X11_opens {v1 : Int32} {S : fS} {r : Int32 × fS} (h : f_X11_opens v1 S = some r) : Fr (w1_f_X11_opens) (w2_f_X11_opens) S r.2 := by
  unfold f_X11_opens at h
  rcases fr_ite h with h1 | h1
  ·
    obtain ⟨q11, e2, h3⟩ := Option.bind_eq_some_iff.mp h1
    have f4 : Fr (w1_f_X11_opens) (w2_f_X11_opens) S q11.2 := (Fr.rf (S := S)).tr (Fr.mo (fr_f_X11_fails e2) (fun a k q => by unfold w1_f_X11_fails at q; unfold w1_f_X11_opens; exact Or.inl (q)) (fun _ _ q => False.elim q))
    obtain ⟨z14, e5, h6⟩ := Option.bind_eq_some_iff.mp h3
    exact fr_e2 h6 f4
  ·
    obtain ⟨S2, e7, h8⟩ := Option.bind_eq_some_iff.mp h1
    have f9 : Fr (w1_f_X11_opens) (w2_f_X11_opens) S S2 := (Fr.rf (S := S)).tr (fr_pI e7 (by unfold w1_f_X11_opens; exact Or.inr (Or.inl (⟨rfl, rfl⟩))))
    obtain ⟨S5, e10, h11⟩ := Option.bind_eq_some_iff.mp h8
    have f12 : Fr (w1_f_X11_opens) (w2_f_X11_opens) S S5 := f9.tr (fr_sI e10 (fun k => by unfold w1_f_X11_opens; exact Or.inr (Or.inr (Or.inr ((rfl))))))
    obtain ⟨S8, e13, h14⟩ := Option.bind_eq_some_iff.mp h11
    have f15 : Fr (w1_f_X11_opens) (w2_f_X11_opens) S S8 := f12.tr (fr_pI e13 (by unfold w1_f_X11_opens; exact Or.inr (Or.inr (Or.inl (⟨rfl, rfl⟩)))))
    exact fr_e2 h14 f15
def w1_f_X11_makes (a k : Nat) : Prop := (a = 145 ∧ k = 14) ∨ (a = 145 ∧ k = 17)
def w2_f_X11_makes (a k : Nat) : Prop := False
theorem fr_f_X11_makes {v1 : Int32} {S : fS} {r : Int32 × fS} (h : f_X11_makes v1 S = some r) : Fr (w1_f_X11_makes) (w2_f_X11_makes) S r.2 := by
  unfold f_X11_makes at h
  rcases fr_ite h with h1 | h1
  ·
    obtain ⟨q5, e2, h3⟩ := Option.bind_eq_some_iff.mp h1
    have f4 : Fr (w1_f_X11_makes) (w2_f_X11_makes) S q5.2 := (Fr.rf (S := S)).tr (Fr.mo (fr_f_X11_fails e2) (fun a k q => by unfold w1_f_X11_fails at q; unfold w1_f_X11_makes; exact Or.inl (q)) (fun _ _ q => False.elim q))
    obtain ⟨z8, e5, h6⟩ := Option.bind_eq_some_iff.mp h3
    exact fr_e2 h6 f4
  ·
    obtain ⟨S2, e7, h8⟩ := Option.bind_eq_some_iff.mp h1
    have f9 : Fr (w1_f_X11_makes) (w2_f_X11_makes) S S2 := (Fr.rf (S := S)).tr (fr_pI e7 (by unfold w1_f_X11_makes; exact Or.inr ((⟨rfl, rfl⟩))))
    exact fr_e2 h8 f9
def w1_f_X11_puts (a k : Nat) : Prop := a = 147 ∨ a = 148
def w2_f_X11_puts (a k : Nat) : Prop := False
theorem fr_f_X11_puts {v1 : Int32} {v2 : Int32} {S : fS} {r : fS} (h : f_X11_puts v1 v2 S = some r) : Fr (w1_f_X11_puts) (w2_f_X11_puts) S r := by
  unfold f_X11_puts at h
  obtain ⟨a1, e1, h2⟩ := Option.bind_eq_some_iff.mp h
  obtain ⟨S4, e3, h4⟩ := Option.bind_eq_some_iff.mp h2
  have f5 : Fr (w1_f_X11_puts) (w2_f_X11_puts) S S4 := (Fr.rf (S := S)).tr (fr_sI e3 (fun k => by unfold w1_f_X11_puts; exact Or.inl (rfl)))
  obtain ⟨a7, e6, h7⟩ := Option.bind_eq_some_iff.mp h4
  obtain ⟨S10, e8, h9⟩ := Option.bind_eq_some_iff.mp h7
  have f10 : Fr (w1_f_X11_puts) (w2_f_X11_puts) S S10 := f5.tr (fr_sI e8 (fun k => by unfold w1_f_X11_puts; exact Or.inr ((rfl))))
  exact fr_e1 h9 f10
def w1_f_X11_wordHere (a k : Nat) : Prop := (a = 145 ∧ k = 13)
def w2_f_X11_wordHere (a k : Nat) : Prop := False
theorem fr_f_X11_wordHere {S : fS} {r : Int32 × fS} (h : f_X11_wordHere S = some r) : Fr (w1_f_X11_wordHere) (w2_f_X11_wordHere) S r.2 := by
  unfold f_X11_wordHere at h
  obtain ⟨q1, e1, h2⟩ := Option.bind_eq_some_iff.mp h
  have f3 : Fr (w1_f_X11_wordHere) (w2_f_X11_wordHere) S q1.2 := (Fr.rf (S := S)).tr (Fr.mo (fr_f_X11_isWord e1) (fun a k q => by unfold w1_f_X11_isWord at q; unfold w1_f_X11_wordHere; exact q) (fun _ _ q => False.elim q))
  rcases fr_ite h2 with h4 | h4
  ·
    obtain ⟨q5, e5, h6⟩ := Option.bind_eq_some_iff.mp h4
    have f7 : Fr (w1_f_X11_wordHere) (w2_f_X11_wordHere) S q5.2 := f3.tr (Fr.mo (fr_f_X11_isWord e5) (fun a k q => by unfold w1_f_X11_isWord at q; unfold w1_f_X11_wordHere; exact q) (fun _ _ q => False.elim q))
    rcases fr_ite h6 with h8 | h8
    ·
      obtain ⟨q9, e9, h10⟩ := Option.bind_eq_some_iff.mp h8
      have f11 : Fr (w1_f_X11_wordHere) (w2_f_X11_wordHere) S q9.2 := f7.tr (Fr.mo (fr_f_X11_isWord e9) (fun a k q => by unfold w1_f_X11_isWord at q; unfold w1_f_X11_wordHere; exact q) (fun _ _ q => False.elim q))
      rcases fr_ite h10 with h12 | h12
      ·
        obtain ⟨q13, e13, h14⟩ := Option.bind_eq_some_iff.mp h12
        have f15 : Fr (w1_f_X11_wordHere) (w2_f_X11_wordHere) S q13.2 := f11.tr (Fr.mo (fr_f_X11_isWord e13) (fun a k q => by unfold w1_f_X11_isWord at q; unfold w1_f_X11_wordHere; exact q) (fun _ _ q => False.elim q))
        rcases fr_ite h14 with h16 | h16
        ·
          obtain ⟨q17, e17, h18⟩ := Option.bind_eq_some_iff.mp h16
          have f19 : Fr (w1_f_X11_wordHere) (w2_f_X11_wordHere) S q17.2 := f15.tr (Fr.mo (fr_f_X11_isWord e17) (fun a k q => by unfold w1_f_X11_isWord at q; unfold w1_f_X11_wordHere; exact q) (fun _ _ q => False.elim q))
          rcases fr_ite h18 with h20 | h20
          ·
            obtain ⟨q21, e21, h22⟩ := Option.bind_eq_some_iff.mp h20
            have f23 : Fr (w1_f_X11_wordHere) (w2_f_X11_wordHere) S q21.2 := f19.tr (Fr.mo (fr_f_X11_isWord e21) (fun a k q => by unfold w1_f_X11_isWord at q; unfold w1_f_X11_wordHere; exact q) (fun _ _ q => False.elim q))
            rcases fr_ite h22 with h24 | h24
            ·
              obtain ⟨q25, e25, h26⟩ := Option.bind_eq_some_iff.mp h24
              have f27 : Fr (w1_f_X11_wordHere) (w2_f_X11_wordHere) S q25.2 := f23.tr (Fr.mo (fr_f_X11_isWord e25) (fun a k q => by unfold w1_f_X11_isWord at q; unfold w1_f_X11_wordHere; exact q) (fun _ _ q => False.elim q))
              rcases fr_ite h26 with h28 | h28
              ·
                obtain ⟨q29, e29, h30⟩ := Option.bind_eq_some_iff.mp h28
                have f31 : Fr (w1_f_X11_wordHere) (w2_f_X11_wordHere) S q29.2 := f27.tr (Fr.mo (fr_f_X11_isWord e29) (fun a k q => by unfold w1_f_X11_isWord at q; unfold w1_f_X11_wordHere; exact q) (fun _ _ q => False.elim q))
                rcases fr_ite h30 with h32 | h32
                ·
                  exact fr_e2 h32 f31
                ·
                  exact fr_e2 h32 f31
              ·
                exact fr_e2 h28 f27
            ·
              exact fr_e2 h24 f23
          ·
            exact fr_e2 h20 f19
        ·
          exact fr_e2 h16 f15
      ·
        exact fr_e2 h12 f11
    ·
      exact fr_e2 h8 f7
  ·
    exact fr_e2 h4 f3
def w1_f_X11_value (a k : Nat) : Prop := (a = 145 ∧ k = 13) ∨ (a = 145 ∧ k = 14) ∨ (a = 145 ∧ k = 15) ∨ (a = 145 ∧ k = 17) ∨ a = 147 ∨ a = 148
def w2_f_X11_value (a k : Nat) : Prop := False
theorem fr_f_X11_value {S : fS} {r : Int32 × fS} (h : f_X11_value S = some r) : Fr (w1_f_X11_value) (w2_f_X11_value) S r.2 := by
  unfold f_X11_value at h
  obtain ⟨q1, e1, h2⟩ := Option.bind_eq_some_iff.mp h
  have f3 : Fr (w1_f_X11_value) (w2_f_X11_value) S q1.2 := (Fr.rf (S := S)).tr (Fr.mo (fr_f_X11_see e1) (fun a k q => by unfold w1_f_X11_see at q; unfold w1_f_X11_value; exact Or.inl (q)) (fun _ _ q => False.elim q))
  obtain ⟨q4, e4, h5⟩ := Option.bind_eq_some_iff.mp h2
  rcases fr_ite h5 with h6 | h6
  ·
    obtain ⟨q8, e7, h8⟩ := Option.bind_eq_some_iff.mp h6
    have f9 : Fr (w1_f_X11_value) (w2_f_X11_value) S q8.2 := f3.tr (Fr.mo (fr_f_X11_wordHere e7) (fun a k q => by unfold w1_f_X11_wordHere at q; unfold w1_f_X11_value; exact Or.inl (q)) (fun _ _ q => False.elim q))
    rcases fr_ite h8 with h10 | h10
    ·
      obtain ⟨q12, e11, h12⟩ := Option.bind_eq_some_iff.mp h10
      have f13 : Fr (w1_f_X11_value) (w2_f_X11_value) S q12.2 := f9.tr (Fr.mo (fr_f_X11_makes e11) (fun a k q => by unfold w1_f_X11_makes at q; unfold w1_f_X11_value; rcases q with q | q; exact Or.inr (Or.inl (q)); exact Or.inr (Or.inr (Or.inr (Or.inl (q))))) (fun _ _ q => False.elim q))
      rcases fr_ite h12 with h14 | h14
      ·
        exact fr_e2 h14 f13
      ·
        obtain ⟨q16, e15, h16⟩ := Option.bind_eq_some_iff.mp h14
        have f17 : Fr (w1_f_X11_value) (w2_f_X11_value) S q16 := f13.tr (Fr.mo (fr_f_X11_passWord e15) (fun a k q => by unfold w1_f_X11_passWord at q; unfold w1_f_X11_value; exact Or.inl (q)) (fun _ _ q => False.elim q))
        obtain ⟨q19, e18, h19⟩ := Option.bind_eq_some_iff.mp h16
        have f20 : Fr (w1_f_X11_value) (w2_f_X11_value) S q19 := f17.tr (Fr.mo (fr_f_X11_puts e18) (fun a k q => by unfold w1_f_X11_puts at q; unfold w1_f_X11_value; rcases q with q | q; exact Or.inr (Or.inr (Or.inr (Or.inr (Or.inl (q))))); exact Or.inr (Or.inr (Or.inr (Or.inr (Or.inr ((q))))))) (fun _ _ q => False.elim q))
        exact fr_e2 h19 f20
    ·
      obtain ⟨q22, e21, h22⟩ := Option.bind_eq_some_iff.mp h10
      have f23 : Fr (w1_f_X11_value) (w2_f_X11_value) S q22.2 := f9.tr (Fr.mo (fr_f_X11_fails e21) (fun a k q => by unfold w1_f_X11_fails at q; unfold w1_f_X11_value; exact Or.inr (Or.inl (q))) (fun _ _ q => False.elim q))
      obtain ⟨z25, e24, h25⟩ := Option.bind_eq_some_iff.mp h22
      exact fr_e2 h25 f23
  ·
    obtain ⟨q30, e26, h27⟩ := Option.bind_eq_some_iff.mp h6
    have f28 : Fr (w1_f_X11_value) (w2_f_X11_value) S q30.2 := f3.tr (Fr.mo (fr_f_X11_numberHere e26) (fun a k q => by unfold w1_f_X11_numberHere at q; unfold w1_f_X11_value; rcases q with q | q | q; exact Or.inl (q); exact Or.inr (Or.inl (q)); exact Or.inr (Or.inr (Or.inl (q)))) (fun _ _ q => False.elim q))
    rcases fr_ite h27 with h29 | h29
    ·
      exact fr_e2 h29 f28
    ·
      obtain ⟨q34, e30, h31⟩ := Option.bind_eq_some_iff.mp h29
      have f32 : Fr (w1_f_X11_value) (w2_f_X11_value) S q34.2 := f28.tr (Fr.mo (fr_f_X11_makes e30) (fun a k q => by unfold w1_f_X11_makes at q; unfold w1_f_X11_value; rcases q with q | q; exact Or.inr (Or.inl (q)); exact Or.inr (Or.inr (Or.inr (Or.inl (q))))) (fun _ _ q => False.elim q))
      rcases fr_ite h31 with h33 | h33
      ·
        exact fr_e2 h33 f32
      ·
        obtain ⟨q38, e34, h35⟩ := Option.bind_eq_some_iff.mp h33
        have f36 : Fr (w1_f_X11_value) (w2_f_X11_value) S q38 := f32.tr (Fr.mo (fr_f_X11_puts e34) (fun a k q => by unfold w1_f_X11_puts at q; unfold w1_f_X11_value; rcases q with q | q; exact Or.inr (Or.inr (Or.inr (Or.inr (Or.inl (q))))); exact Or.inr (Or.inr (Or.inr (Or.inr (Or.inr ((q))))))) (fun _ _ q => False.elim q))
        exact fr_e2 h35 f36
