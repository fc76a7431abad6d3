def w1_lp_X5_settle_0 (a k : Nat) : Prop := (a = 38 ∧ k = 4) ∨ (a = 38 ∧ k = 6) ∨ (a = 40 ∧ k = 2) ∨ a = 41
def w2_lp_X5_settle_0 (a k : Nat) : Prop := False
theorem fr_lp_X5_settle_0 {p1 : Int32} {K : fS → Option (fS)} {r : fS} {v1 v2 : Nat → Nat → Prop} (s1 : ∀ a k, w1_lp_X5_settle_0 a k → v1 a k) (s2 : ∀ a k, w2_lp_X5_settle_0 a k → v2 a k) (hK : ∀ (x0 : fS), K x0 = some r → Fr v1 v2 x0 r) : ∀ (n : Nat) (S0 : fS), lp_X5_settle_0 p1 K n S0 = some r → Fr v1 v2 S0 r := by
  intro n
  induction n with
  | zero => intro S0 h; exact mm_no h
  | succ n ih =>
    intro S0 h
    rw [lp_X5_settle_0.eq_2] at h
    rcases fr_ite h with h1 | h1
    ·
      exact (Fr.rf (S := S0)).tr (hK _ h1)
    ·
      obtain ⟨a2, e2, h3⟩ := Option.bind_eq_some_iff.mp h1
      obtain ⟨a5, e4, h5⟩ := Option.bind_eq_some_iff.mp h3
      rcases fr_ite h5 with h6 | h6
      ·
        exact (Fr.rf (S := S0)).tr (hK _ h6)
      ·
        obtain ⟨S9, e7, h8⟩ := Option.bind_eq_some_iff.mp h6
        have f9 : Fr v1 v2 S0 S9 := (Fr.rf (S := S0)).tr (fr_pI e7 (by refine s1 _ _ ?_; unfold w1_lp_X5_settle_0; exact Or.inl (⟨rfl, rfl⟩)))
        obtain ⟨a12, e10, h11⟩ := Option.bind_eq_some_iff.mp h8
        obtain ⟨q15, e12, h13⟩ := Option.bind_eq_some_iff.mp h11
        have f14 : Fr v1 v2 S0 q15 := f9.tr (Fr.mo (fr_f_X4_write e12) (fun a k q => by refine s1 _ _ ?_; unfold w1_f_X4_write at q; unfold w1_lp_X5_settle_0; rcases q with q | q; exact Or.inr (Or.inr (Or.inl (q))); exact Or.inr (Or.inr (Or.inr ((q))))) (fun _ _ q => False.elim q))
        obtain ⟨a18, e15, h16⟩ := Option.bind_eq_some_iff.mp h13
        rcases fr_ite h16 with h17 | h17
        ·
          obtain ⟨S25, e18, h19⟩ := Option.bind_eq_some_iff.mp h17
          have f20 : Fr v1 v2 S0 S25 := f14.tr (fr_pI e18 (by refine s1 _ _ ?_; unfold w1_lp_X5_settle_0; exact Or.inr (Or.inl (⟨rfl, rfl⟩))))
          exact f20.tr (ih _ h19)
        ·
          obtain ⟨S22, e21, h22⟩ := Option.bind_eq_some_iff.mp h17
          have f23 : Fr v1 v2 S0 S22 := f14.tr (fr_pI e21 (by refine s1 _ _ ?_; unfold w1_lp_X5_settle_0; exact Or.inr (Or.inl (⟨rfl, rfl⟩))))
          exact f23.tr (ih _ h22)
def w1_f_X5_settle (a k : Nat) : Prop := (a = 38 ∧ k = 4) ∨ (a = 38 ∧ k = 6) ∨ (a = 40 ∧ k = 2) ∨ a = 41
def w2_f_X5_settle (a k : Nat) : Prop := False
theorem fr_f_X5_settle {v1 : Int32} {S : fS} {r : fS} (h : f_X5_settle v1 S = some r) : Fr (w1_f_X5_settle) (w2_f_X5_settle) S r := by
  unfold f_X5_settle at h
  refine (Fr.rf (S := S)).tr (fr_lp_X5_settle_0 (v1 := w1_f_X5_settle) (v2 := w2_f_X5_settle) (fun a k q => by unfold w1_lp_X5_settle_0 at q; unfold w1_f_X5_settle; rcases q with q | q | q | q; exact Or.inl (q); exact Or.inr (Or.inl (q)); exact Or.inr (Or.inr (Or.inl (q))); exact Or.inr (Or.inr (Or.inr ((q))))) (fun _ _ q => False.elim q) (fun S28 h1 => ?_) _ _ h)
  exact fr_e1 h1 (Fr.rf (S := S28))
def w1_lp_X5_closeBrackets_0 (a k : Nat) : Prop := (a = 1 ∧ k = 2) ∨ (a = 1 ∧ k = 3) ∨ (a = 38 ∧ k = 4) ∨ (a = 38 ∧ k = 5) ∨ (a = 38 ∧ k = 6) ∨ (a = 40 ∧ k = 2) ∨ a = 41
def w2_lp_X5_closeBrackets_0 (a k : Nat) : Prop := False
theorem fr_lp_X5_closeBrackets_0 {K : fS → Option (fS)} {r : fS} {v1 v2 : Nat → Nat → Prop} (s1 : ∀ a k, w1_lp_X5_closeBrackets_0 a k → v1 a k) (s2 : ∀ a k, w2_lp_X5_closeBrackets_0 a k → v2 a k) (hK : ∀ (x0 : fS), K x0 = some r → Fr v1 v2 x0 r) : ∀ (n : Nat) (S0 : fS), lp_X5_closeBrackets_0 K n S0 = some r → Fr v1 v2 S0 r := by
  intro n
  induction n with
  | zero => intro S0 h; exact mm_no h
  | succ n ih =>
    intro S0 h
    rw [lp_X5_closeBrackets_0.eq_2] at h
    rcases fr_ite h with h1 | h1
    ·
      exact (Fr.rf (S := S0)).tr (hK _ h1)
    ·
      obtain ⟨q2, e2, h3⟩ := Option.bind_eq_some_iff.mp h1
      have f4 : Fr v1 v2 S0 q2.2 := (Fr.rf (S := S0)).tr (Fr.mo (fr_f_X7_takeSign e2) (fun a k q => by refine s1 _ _ ?_; unfold w1_f_X7_takeSign at q; unfold w1_lp_X5_closeBrackets_0; rcases q with q | q; exact Or.inl (q); exact Or.inr (Or.inl (q))) (fun _ _ q => False.elim q))
      rcases fr_ite h3 with h5 | h5
      ·
        exact f4.tr (hK _ h5)
      ·
        obtain ⟨a6, e6, h7⟩ := Option.bind_eq_some_iff.mp h5
        obtain ⟨q9, e8, h9⟩ := Option.bind_eq_some_iff.mp h7
        have f10 : Fr v1 v2 S0 q9 := f4.tr (Fr.mo (fr_f_X5_settle e8) (fun a k q => by refine s1 _ _ ?_; unfold w1_f_X5_settle at q; unfold w1_lp_X5_closeBrackets_0; rcases q with q | q | q | q; exact Or.inr (Or.inr (Or.inl (q))); exact Or.inr (Or.inr (Or.inr (Or.inr (Or.inl (q))))); exact Or.inr (Or.inr (Or.inr (Or.inr (Or.inr (Or.inl (q)))))); exact Or.inr (Or.inr (Or.inr (Or.inr (Or.inr (Or.inr ((q)))))))) (fun _ _ q => False.elim q))
        obtain ⟨q12, e11, h12⟩ := Option.bind_eq_some_iff.mp h9
        obtain ⟨S15, e13, h14⟩ := Option.bind_eq_some_iff.mp h12
        have f15 : Fr v1 v2 S0 S15 := f10.tr (fr_pI e13 (by refine s1 _ _ ?_; unfold w1_lp_X5_closeBrackets_0; exact Or.inr (Or.inr (Or.inl (⟨rfl, rfl⟩)))))
        obtain ⟨S18, e16, h17⟩ := Option.bind_eq_some_iff.mp h14
        have f18 : Fr v1 v2 S0 S18 := f15.tr (fr_pI e16 (by refine s1 _ _ ?_; unfold w1_lp_X5_closeBrackets_0; exact Or.inr (Or.inr (Or.inr (Or.inr (Or.inl (⟨rfl, rfl⟩)))))))
        obtain ⟨S21, e19, h20⟩ := Option.bind_eq_some_iff.mp h17
        have f21 : Fr v1 v2 S0 S21 := f18.tr (fr_pI e19 (by refine s1 _ _ ?_; unfold w1_lp_X5_closeBrackets_0; exact Or.inr (Or.inr (Or.inr (Or.inl (⟨rfl, rfl⟩))))))
        exact f21.tr (ih _ h20)
def w1_f_X5_closeBrackets (a k : Nat) : Prop := (a = 1 ∧ k = 2) ∨ (a = 1 ∧ k = 3) ∨ (a = 38 ∧ k = 4) ∨ (a = 38 ∧ k = 5) ∨ (a = 38 ∧ k = 6) ∨ (a = 40 ∧ k = 2) ∨ a = 41
def w2_f_X5_closeBrackets (a k : Nat) : Prop := False
theorem fr_f_X5_closeBrackets {S : fS} {r : fS} (h : f_X5_closeBrackets S = some r) : Fr (w1_f_X5_closeBrackets) (w2_f_X5_closeBrackets) S r := by
  unfold f_X5_closeBrackets at h
  refine (Fr.rf (S := S)).tr (fr_lp_X5_closeBrackets_0 (v1 := w1_f_X5_closeBrackets) (v2 := w2_f_X5_closeBrackets) (fun a k q => by unfold w1_lp_X5_closeBrackets_0 at q; unfold w1_f_X5_closeBrackets; rcases q with q | q | q | q | q | q | q; exact Or.inl (q); exact Or.inr (Or.inl (q)); exact Or.inr (Or.inr (Or.inl (q))); exact Or.inr (Or.inr (Or.inr (Or.inl (q)))); exact Or.inr (Or.inr (Or.inr (Or.inr (Or.inl (q))))); exact Or.inr (Or.inr (Or.inr (Or.inr (Or.inr (Or.inl (q)))))); exact Or.inr (Or.inr (Or.inr (Or.inr (Or.inr (Or.inr ((q)))))))) (fun _ _ q => False.elim q) (fun S24 h1 => ?_) _ _ h)
  exact fr_e1 h1 (Fr.rf (S := S24))
def w1_f_X5_takeJoining (a k : Nat) : Prop := (a = 1 ∧ k = 2) ∨ (a = 1 ∧ k = 3)
def w2_f_X5_takeJoining (a k : Nat) : Prop := False
theorem fr_f_X5_takeJoining {S : fS} {r : Int32 × fS} (h : f_X5_takeJoining S = some r) : Fr (w1_f_X5_takeJoining) (w2_f_X5_takeJoining) S r.2 := by
  unfold f_X5_takeJoining at h
  obtain ⟨q1, e1, h2⟩ := Option.bind_eq_some_iff.mp h
  have f3 : Fr (w1_f_X5_takeJoining) (w2_f_X5_takeJoining) S q1.2 := (Fr.rf (S := S)).tr (Fr.mo (fr_f_X7_takeWord e1) (fun a k q => by unfold w1_f_X7_takeWord at q; unfold w1_f_X5_takeJoining; rcases q with q | q; exact Or.inl (q); exact Or.inr ((q))) (fun _ _ q => False.elim q))
  rcases fr_ite h2 with h4 | h4
  ·
    obtain ⟨q5, e5, h6⟩ := Option.bind_eq_some_iff.mp h4
    have f7 : Fr (w1_f_X5_takeJoining) (w2_f_X5_takeJoining) S q5.2 := f3.tr (Fr.mo (fr_f_X7_takeWord e5) (fun a k q => by unfold w1_f_X7_takeWord at q; unfold w1_f_X5_takeJoining; rcases q with q | q; exact Or.inl (q); exact Or.inr ((q))) (fun _ _ q => False.elim q))
    rcases fr_ite h6 with h8 | h8
    ·
      exact fr_e2 h8 f7
    ·
      exact fr_e2 h8 f7
  ·
    exact fr_e2 h4 f3
def w1_f_X5_isTestOver (a k : Nat) : Prop := (a = 1 ∧ k = 4) ∨ (a = 38 ∧ k = 4) ∨ (a = 38 ∧ k = 6) ∨ (a = 40 ∧ k = 2) ∨ a = 41
def w2_f_X5_isTestOver (a k : Nat) : Prop := False
theorem fr_f_X5_isTestOver {S : fS} {r : Int32 × fS} (h : f_X5_isTestOver S = some r) : Fr (w1_f_X5_isTestOver) (w2_f_X5_isTestOver) S r.2 := by
  unfold f_X5_isTestOver at h
  obtain ⟨a1, e1, h2⟩ := Option.bind_eq_some_iff.mp h
  obtain ⟨q4, e3, h4⟩ := Option.bind_eq_some_iff.mp h2
  have f5 : Fr (w1_f_X5_isTestOver) (w2_f_X5_isTestOver) S q4 := (Fr.rf (S := S)).tr (Fr.mo (fr_f_X5_settle e3) (fun a k q => by unfold w1_f_X5_settle at q; unfold w1_f_X5_isTestOver; rcases q with q | q | q | q; exact Or.inr (Or.inl (q)); exact Or.inr (Or.inr (Or.inl (q))); exact Or.inr (Or.inr (Or.inr (Or.inl (q)))); exact Or.inr (Or.inr (Or.inr (Or.inr ((q)))))) (fun _ _ q => False.elim q))
  rcases fr_ite h4 with h6 | h6
  ·
    exact fr_e2 h6 f5
  ·
    obtain ⟨q8, e7, h8⟩ := Option.bind_eq_some_iff.mp h6
    have f9 : Fr (w1_f_X5_isTestOver) (w2_f_X5_isTestOver) S q8.2 := f5.tr (Fr.mo (fr_f_X7_fail e7) (fun a k q => by unfold w1_f_X7_fail at q; unfold w1_f_X5_isTestOver; exact Or.inl (q)) (fun _ _ q => False.elim q))
    rcases fr_ite h8 with h10 | h10
    ·
      exact fr_e2 h10 f9
    ·
      exact fr_e2 h10 f9
def w1_f_X5_takeComparing (a k : Nat) : Prop := (a = 1 ∧ k = 2) ∨ (a = 1 ∧ k = 3)
def w2_f_X5_takeComparing (a k : Nat) : Prop := False
theorem fr_f_X5_takeComparing {S : fS} {r : Int32 × fS} (h : f_X5_takeComparing S = some r) : Fr (w1_f_X5_takeComparing) (w2_f_X5_takeComparing) S r.2 := by
  unfold f_X5_takeComparing at h
  obtain ⟨q1, e1, h2⟩ := Option.bind_eq_some_iff.mp h
  have f3 : Fr (w1_f_X5_takeComparing) (w2_f_X5_takeComparing) S q1.2 := (Fr.rf (S := S)).tr (Fr.mo (fr_f_X7_takeSign e1) (fun a k q => by unfold w1_f_X7_takeSign at q; unfold w1_f_X5_takeComparing; rcases q with q | q; exact Or.inl (q); exact Or.inr ((q))) (fun _ _ q => False.elim q))
  rcases fr_ite h2 with h4 | h4
  ·
    obtain ⟨q5, e5, h6⟩ := Option.bind_eq_some_iff.mp h4
    have f7 : Fr (w1_f_X5_takeComparing) (w2_f_X5_takeComparing) S q5.2 := f3.tr (Fr.mo (fr_f_X7_takeSign e5) (fun a k q => by unfold w1_f_X7_takeSign at q; unfold w1_f_X5_takeComparing; rcases q with q | q; exact Or.inl (q); exact Or.inr ((q))) (fun _ _ q => False.elim q))
    rcases fr_ite h6 with h8 | h8
    ·
      obtain ⟨q18, e9, h10⟩ := Option.bind_eq_some_iff.mp h8
      have f11 : Fr (w1_f_X5_takeComparing) (w2_f_X5_takeComparing) S q18.2 := f7.tr (Fr.mo (fr_f_X7_takeSign e9) (fun a k q => by unfold w1_f_X7_takeSign at q; unfold w1_f_X5_takeComparing; rcases q with q | q; exact Or.inl (q); exact Or.inr ((q))) (fun _ _ q => False.elim q))
      rcases fr_ite h10 with h12 | h12
      ·
        exact fr_e2 h12 f11
      ·
        obtain ⟨q22, e13, h14⟩ := Option.bind_eq_some_iff.mp h12
        rcases fr_ite h14 with h15 | h15
        ·
          obtain ⟨S26, e16, h17⟩ := Option.bind_eq_some_iff.mp h15
          have f18 : Fr (w1_f_X5_takeComparing) (w2_f_X5_takeComparing) S S26 := f11.tr (fr_pI e16 (by unfold w1_f_X5_takeComparing; exact Or.inl (⟨rfl, rfl⟩)))
          rcases fr_ite h17 with h19 | h19
          ·
            exact fr_e2 h19 f18
          ·
            exact fr_e2 h19 f18
        ·
          rcases fr_ite h15 with h20 | h20
          ·
            exact fr_e2 h20 f11
          ·
            exact fr_e2 h20 f11
    ·
      obtain ⟨q9, e21, h22⟩ := Option.bind_eq_some_iff.mp h8
      rcases fr_ite h22 with h23 | h23
      ·
        obtain ⟨S13, e24, h25⟩ := Option.bind_eq_some_iff.mp h23
        have f26 : Fr (w1_f_X5_takeComparing) (w2_f_X5_takeComparing) S S13 := f7.tr (fr_pI e24 (by unfold w1_f_X5_takeComparing; exact Or.inl (⟨rfl, rfl⟩)))
        rcases fr_ite h25 with h27 | h27
        ·
          exact fr_e2 h27 f26
        ·
          exact fr_e2 h27 f26
      ·
        rcases fr_ite h23 with h28 | h28
        ·
          exact fr_e2 h28 f7
        ·
          exact fr_e2 h28 f7
  ·
    exact fr_e2 h4 f3
def w1_lp_X5_readTest_21 (a k : Nat) : Prop := (a = 1 ∧ k = 2) ∨ (a = 1 ∧ k = 3) ∨ (a = 1 ∧ k = 4) ∨ (a = 38 ∧ k = 3) ∨ (a = 38 ∧ k = 4) ∨ (a = 38 ∧ k = 5) ∨ (a = 38 ∧ k = 6) ∨ a = 39 ∨ (a = 40 ∧ k = 2) ∨ a = 41
def w2_lp_X5_readTest_21 (a k : Nat) : Prop := False
theorem fr_lp_X5_readTest_21 {K : fS → Option (Int32 × fS)} {r : Int32 × fS} {v1 v2 : Nat → Nat → Prop} (s1 : ∀ a k, w1_lp_X5_readTest_21 a k → v1 a k) (s2 : ∀ a k, w2_lp_X5_readTest_21 a k → v2 a k) (hK : ∀ (x0 : fS), K x0 = some r → Fr v1 v2 x0 r.2) : ∀ (n : Nat) (p1 : Int32) (p2 : Int32) (p3 : Int32) (S0 : fS), lp_X5_readTest_21 K n p1 p2 p3 S0 = some r → Fr v1 v2 S0 r.2 := by
  intro n
  induction n with
  | zero => intro p1 p2 p3 S0 h; exact mm_no h
  | succ n ih =>
    intro p1 p2 p3 S0 h
    rw [lp_X5_readTest_21.eq_2] at h
    rcases fr_ite h with h1 | h1
    ·
      exact (Fr.rf (S := S0)).tr (hK _ h1)
    ·
      rcases fr_ite h1 with h2 | h2
      ·
        obtain ⟨q12, e3, h4⟩ := Option.bind_eq_some_iff.mp h2
        have f5 : Fr v1 v2 S0 q12.2 := (Fr.rf (S := S0)).tr (Fr.mo (fr_f_X5_readValue e3) (fun a k q => by refine s1 _ _ ?_; unfold w1_f_X5_readValue at q; unfold w1_lp_X5_readTest_21; rcases q with q | q | q | q | q | q; exact Or.inl (q); exact Or.inr (Or.inl (q)); exact Or.inr (Or.inr (Or.inl (q))); exact Or.inr (Or.inr (Or.inr (Or.inl (q)))); exact Or.inr (Or.inr (Or.inr (Or.inr (Or.inr (Or.inr (Or.inr (Or.inr (Or.inl (q))))))))); exact Or.inr (Or.inr (Or.inr (Or.inr (Or.inr (Or.inr (Or.inr (Or.inr (Or.inr ((q))))))))))) (fun _ _ q => False.elim q))
        rcases fr_ite h4 with h6 | h6
        ·
          exact fr_e2 h6 f5
        ·
          obtain ⟨q16, e7, h8⟩ := Option.bind_eq_some_iff.mp h6
          have f9 : Fr v1 v2 S0 q16.2 := f5.tr (Fr.mo (fr_f_X5_takeReckoning e7) (fun a k q => by refine s1 _ _ ?_; unfold w1_f_X5_takeReckoning at q; unfold w1_lp_X5_readTest_21; rcases q with q | q; exact Or.inl (q); exact Or.inr (Or.inl (q))) (fun _ _ q => False.elim q))
          rcases fr_ite h8 with h10 | h10
          ·
            rcases fr_ite h10 with h11 | h11
            ·
              rcases fr_ite h11 with h12 | h12
              ·
                obtain ⟨a22, e13, h14⟩ := Option.bind_eq_some_iff.mp h12
                obtain ⟨q25, e15, h16⟩ := Option.bind_eq_some_iff.mp h14
                have f17 : Fr v1 v2 S0 q25 := f9.tr (Fr.mo (fr_f_X5_settle e15) (fun a k q => by refine s1 _ _ ?_; unfold w1_f_X5_settle at q; unfold w1_lp_X5_readTest_21; rcases q with q | q | q | q; exact Or.inr (Or.inr (Or.inr (Or.inr (Or.inl (q))))); exact Or.inr (Or.inr (Or.inr (Or.inr (Or.inr (Or.inr (Or.inl (q))))))); exact Or.inr (Or.inr (Or.inr (Or.inr (Or.inr (Or.inr (Or.inr (Or.inr (Or.inl (q))))))))); exact Or.inr (Or.inr (Or.inr (Or.inr (Or.inr (Or.inr (Or.inr (Or.inr (Or.inr ((q))))))))))) (fun _ _ q => False.elim q))
                obtain ⟨q28, e18, h19⟩ := Option.bind_eq_some_iff.mp h16
                have f20 : Fr v1 v2 S0 q28 := f17.tr (Fr.mo (fr_f_X5_hold e18) (fun a k q => by refine s1 _ _ ?_; unfold w1_f_X5_hold at q; unfold w1_lp_X5_readTest_21; rcases q with q | q; exact Or.inr (Or.inr (Or.inr (Or.inr (Or.inl (q))))); exact Or.inr (Or.inr (Or.inr (Or.inr (Or.inr (Or.inr (Or.inr (Or.inl (q))))))))) (fun _ _ q => False.elim q))
                exact f20.tr (ih _ _ _ _ h19)
              ·
                obtain ⟨q31, e21, h22⟩ := Option.bind_eq_some_iff.mp h12
                have f23 : Fr v1 v2 S0 q31.2 := f9.tr (Fr.mo (fr_f_X5_takeComparing e21) (fun a k q => by refine s1 _ _ ?_; unfold w1_f_X5_takeComparing at q; unfold w1_lp_X5_readTest_21; rcases q with q | q; exact Or.inl (q); exact Or.inr (Or.inl (q))) (fun _ _ q => False.elim q))
                rcases fr_ite h22 with h24 | h24
                ·
                  obtain ⟨q35, e25, h26⟩ := Option.bind_eq_some_iff.mp h24
                  have f27 : Fr v1 v2 S0 q35.2 := f23.tr (Fr.mo (fr_f_X5_isRoomForOne e25) (fun a k q => by refine s1 _ _ ?_; unfold w1_f_X5_isRoomForOne at q; unfold w1_lp_X5_readTest_21; rcases q with q | q; exact Or.inr (Or.inr (Or.inl (q))); exact Or.inr (Or.inr (Or.inr (Or.inl (q))))) (fun _ _ q => False.elim q))
                  rcases fr_ite h26 with h28 | h28
                  ·
                    exact fr_e2 h28 f27
                  ·
                    obtain ⟨a39, e29, h30⟩ := Option.bind_eq_some_iff.mp h28
                    obtain ⟨q42, e31, h32⟩ := Option.bind_eq_some_iff.mp h30
                    have f33 : Fr v1 v2 S0 q42 := f27.tr (Fr.mo (fr_f_X5_settle e31) (fun a k q => by refine s1 _ _ ?_; unfold w1_f_X5_settle at q; unfold w1_lp_X5_readTest_21; rcases q with q | q | q | q; exact Or.inr (Or.inr (Or.inr (Or.inr (Or.inl (q))))); exact Or.inr (Or.inr (Or.inr (Or.inr (Or.inr (Or.inr (Or.inl (q))))))); exact Or.inr (Or.inr (Or.inr (Or.inr (Or.inr (Or.inr (Or.inr (Or.inr (Or.inl (q))))))))); exact Or.inr (Or.inr (Or.inr (Or.inr (Or.inr (Or.inr (Or.inr (Or.inr (Or.inr ((q))))))))))) (fun _ _ q => False.elim q))
                    obtain ⟨q45, e34, h35⟩ := Option.bind_eq_some_iff.mp h32
                    have f36 : Fr v1 v2 S0 q45 := f33.tr (Fr.mo (fr_f_X5_hold e34) (fun a k q => by refine s1 _ _ ?_; unfold w1_f_X5_hold at q; unfold w1_lp_X5_readTest_21; rcases q with q | q; exact Or.inr (Or.inr (Or.inr (Or.inr (Or.inl (q))))); exact Or.inr (Or.inr (Or.inr (Or.inr (Or.inr (Or.inr (Or.inr (Or.inl (q))))))))) (fun _ _ q => False.elim q))
                    exact f36.tr (ih _ _ _ _ h35)
                ·
                  obtain ⟨q48, e37, h38⟩ := Option.bind_eq_some_iff.mp h24
                  have f39 : Fr v1 v2 S0 q48.2 := f23.tr (Fr.mo (fr_f_X7_fail e37) (fun a k q => by refine s1 _ _ ?_; unfold w1_f_X7_fail at q; unfold w1_lp_X5_readTest_21; exact Or.inr (Or.inr (Or.inl (q)))) (fun _ _ q => False.elim q))
                  obtain ⟨z51, e40, h41⟩ := Option.bind_eq_some_iff.mp h38
                  exact fr_e2 h41 f39
            ·
              obtain ⟨q56, e42, h43⟩ := Option.bind_eq_some_iff.mp h11
              have f44 : Fr v1 v2 S0 q56 := f9.tr (Fr.mo (fr_f_X5_closeBrackets e42) (fun a k q => by refine s1 _ _ ?_; unfold w1_f_X5_closeBrackets at q; unfold w1_lp_X5_readTest_21; rcases q with q | q | q | q | q | q | q; exact Or.inl (q); exact Or.inr (Or.inl (q)); exact Or.inr (Or.inr (Or.inr (Or.inr (Or.inl (q))))); exact Or.inr (Or.inr (Or.inr (Or.inr (Or.inr (Or.inl (q)))))); exact Or.inr (Or.inr (Or.inr (Or.inr (Or.inr (Or.inr (Or.inl (q))))))); exact Or.inr (Or.inr (Or.inr (Or.inr (Or.inr (Or.inr (Or.inr (Or.inr (Or.inl (q))))))))); exact Or.inr (Or.inr (Or.inr (Or.inr (Or.inr (Or.inr (Or.inr (Or.inr (Or.inr ((q))))))))))) (fun _ _ q => False.elim q))
              obtain ⟨q59, e45, h46⟩ := Option.bind_eq_some_iff.mp h43
              have f47 : Fr v1 v2 S0 q59.2 := f44.tr (Fr.mo (fr_f_X5_takeJoining e45) (fun a k q => by refine s1 _ _ ?_; unfold w1_f_X5_takeJoining at q; unfold w1_lp_X5_readTest_21; rcases q with q | q; exact Or.inl (q); exact Or.inr (Or.inl (q))) (fun _ _ q => False.elim q))
              rcases fr_ite h46 with h48 | h48
              ·
                obtain ⟨a63, e49, h50⟩ := Option.bind_eq_some_iff.mp h48
                obtain ⟨q66, e51, h52⟩ := Option.bind_eq_some_iff.mp h50
                have f53 : Fr v1 v2 S0 q66 := f47.tr (Fr.mo (fr_f_X5_settle e51) (fun a k q => by refine s1 _ _ ?_; unfold w1_f_X5_settle at q; unfold w1_lp_X5_readTest_21; rcases q with q | q | q | q; exact Or.inr (Or.inr (Or.inr (Or.inr (Or.inl (q))))); exact Or.inr (Or.inr (Or.inr (Or.inr (Or.inr (Or.inr (Or.inl (q))))))); exact Or.inr (Or.inr (Or.inr (Or.inr (Or.inr (Or.inr (Or.inr (Or.inr (Or.inl (q))))))))); exact Or.inr (Or.inr (Or.inr (Or.inr (Or.inr (Or.inr (Or.inr (Or.inr (Or.inr ((q))))))))))) (fun _ _ q => False.elim q))
                obtain ⟨q69, e54, h55⟩ := Option.bind_eq_some_iff.mp h52
                have f56 : Fr v1 v2 S0 q69 := f53.tr (Fr.mo (fr_f_X5_hold e54) (fun a k q => by refine s1 _ _ ?_; unfold w1_f_X5_hold at q; unfold w1_lp_X5_readTest_21; rcases q with q | q; exact Or.inr (Or.inr (Or.inr (Or.inr (Or.inl (q))))); exact Or.inr (Or.inr (Or.inr (Or.inr (Or.inr (Or.inr (Or.inr (Or.inl (q))))))))) (fun _ _ q => False.elim q))
                exact f56.tr (ih _ _ _ _ h55)
              ·
                obtain ⟨q72, e57, h58⟩ := Option.bind_eq_some_iff.mp h48
                have f59 : Fr v1 v2 S0 q72.2 := f47.tr (Fr.mo (fr_f_X5_isTestOver e57) (fun a k q => by refine s1 _ _ ?_; unfold w1_f_X5_isTestOver at q; unfold w1_lp_X5_readTest_21; rcases q with q | q | q | q | q; exact Or.inr (Or.inr (Or.inl (q))); exact Or.inr (Or.inr (Or.inr (Or.inr (Or.inl (q))))); exact Or.inr (Or.inr (Or.inr (Or.inr (Or.inr (Or.inr (Or.inl (q))))))); exact Or.inr (Or.inr (Or.inr (Or.inr (Or.inr (Or.inr (Or.inr (Or.inr (Or.inl (q))))))))); exact Or.inr (Or.inr (Or.inr (Or.inr (Or.inr (Or.inr (Or.inr (Or.inr (Or.inr ((q))))))))))) (fun _ _ q => False.elim q))
                obtain ⟨z75, e60, h61⟩ := Option.bind_eq_some_iff.mp h58
                exact fr_e2 h61 f59
          ·
            rcases fr_ite h10 with h62 | h62
            ·
              rcases fr_ite h62 with h63 | h63
              ·
                rcases fr_ite h63 with h64 | h64
                ·
                  obtain ⟨a83, e65, h66⟩ := Option.bind_eq_some_iff.mp h64
                  obtain ⟨q86, e67, h68⟩ := Option.bind_eq_some_iff.mp h66
                  have f69 : Fr v1 v2 S0 q86 := f9.tr (Fr.mo (fr_f_X5_settle e67) (fun a k q => by refine s1 _ _ ?_; unfold w1_f_X5_settle at q; unfold w1_lp_X5_readTest_21; rcases q with q | q | q | q; exact Or.inr (Or.inr (Or.inr (Or.inr (Or.inl (q))))); exact Or.inr (Or.inr (Or.inr (Or.inr (Or.inr (Or.inr (Or.inl (q))))))); exact Or.inr (Or.inr (Or.inr (Or.inr (Or.inr (Or.inr (Or.inr (Or.inr (Or.inl (q))))))))); exact Or.inr (Or.inr (Or.inr (Or.inr (Or.inr (Or.inr (Or.inr (Or.inr (Or.inr ((q))))))))))) (fun _ _ q => False.elim q))
                  obtain ⟨q89, e70, h71⟩ := Option.bind_eq_some_iff.mp h68
                  have f72 : Fr v1 v2 S0 q89 := f69.tr (Fr.mo (fr_f_X5_hold e70) (fun a k q => by refine s1 _ _ ?_; unfold w1_f_X5_hold at q; unfold w1_lp_X5_readTest_21; rcases q with q | q; exact Or.inr (Or.inr (Or.inr (Or.inr (Or.inl (q))))); exact Or.inr (Or.inr (Or.inr (Or.inr (Or.inr (Or.inr (Or.inr (Or.inl (q))))))))) (fun _ _ q => False.elim q))
                  exact f72.tr (ih _ _ _ _ h71)
                ·
                  obtain ⟨q92, e73, h74⟩ := Option.bind_eq_some_iff.mp h64
                  have f75 : Fr v1 v2 S0 q92.2 := f9.tr (Fr.mo (fr_f_X5_takeComparing e73) (fun a k q => by refine s1 _ _ ?_; unfold w1_f_X5_takeComparing at q; unfold w1_lp_X5_readTest_21; rcases q with q | q; exact Or.inl (q); exact Or.inr (Or.inl (q))) (fun _ _ q => False.elim q))
                  rcases fr_ite h74 with h76 | h76
                  ·
                    obtain ⟨q96, e77, h78⟩ := Option.bind_eq_some_iff.mp h76
                    have f79 : Fr v1 v2 S0 q96.2 := f75.tr (Fr.mo (fr_f_X5_isRoomForOne e77) (fun a k q => by refine s1 _ _ ?_; unfold w1_f_X5_isRoomForOne at q; unfold w1_lp_X5_readTest_21; rcases q with q | q; exact Or.inr (Or.inr (Or.inl (q))); exact Or.inr (Or.inr (Or.inr (Or.inl (q))))) (fun _ _ q => False.elim q))
                    rcases fr_ite h78 with h80 | h80
                    ·
                      exact fr_e2 h80 f79
                    ·
                      obtain ⟨a100, e81, h82⟩ := Option.bind_eq_some_iff.mp h80
                      obtain ⟨q103, e83, h84⟩ := Option.bind_eq_some_iff.mp h82
                      have f85 : Fr v1 v2 S0 q103 := f79.tr (Fr.mo (fr_f_X5_settle e83) (fun a k q => by refine s1 _ _ ?_; unfold w1_f_X5_settle at q; unfold w1_lp_X5_readTest_21; rcases q with q | q | q | q; exact Or.inr (Or.inr (Or.inr (Or.inr (Or.inl (q))))); exact Or.inr (Or.inr (Or.inr (Or.inr (Or.inr (Or.inr (Or.inl (q))))))); exact Or.inr (Or.inr (Or.inr (Or.inr (Or.inr (Or.inr (Or.inr (Or.inr (Or.inl (q))))))))); exact Or.inr (Or.inr (Or.inr (Or.inr (Or.inr (Or.inr (Or.inr (Or.inr (Or.inr ((q))))))))))) (fun _ _ q => False.elim q))
                      obtain ⟨q106, e86, h87⟩ := Option.bind_eq_some_iff.mp h84
                      have f88 : Fr v1 v2 S0 q106 := f85.tr (Fr.mo (fr_f_X5_hold e86) (fun a k q => by refine s1 _ _ ?_; unfold w1_f_X5_hold at q; unfold w1_lp_X5_readTest_21; rcases q with q | q; exact Or.inr (Or.inr (Or.inr (Or.inr (Or.inl (q))))); exact Or.inr (Or.inr (Or.inr (Or.inr (Or.inr (Or.inr (Or.inr (Or.inl (q))))))))) (fun _ _ q => False.elim q))
                      exact f88.tr (ih _ _ _ _ h87)
                  ·
                    obtain ⟨q109, e89, h90⟩ := Option.bind_eq_some_iff.mp h76
                    have f91 : Fr v1 v2 S0 q109.2 := f75.tr (Fr.mo (fr_f_X7_fail e89) (fun a k q => by refine s1 _ _ ?_; unfold w1_f_X7_fail at q; unfold w1_lp_X5_readTest_21; exact Or.inr (Or.inr (Or.inl (q)))) (fun _ _ q => False.elim q))
                    obtain ⟨z112, e92, h93⟩ := Option.bind_eq_some_iff.mp h90
                    exact fr_e2 h93 f91
              ·
                obtain ⟨q117, e94, h95⟩ := Option.bind_eq_some_iff.mp h63
                have f96 : Fr v1 v2 S0 q117 := f9.tr (Fr.mo (fr_f_X5_closeBrackets e94) (fun a k q => by refine s1 _ _ ?_; unfold w1_f_X5_closeBrackets at q; unfold w1_lp_X5_readTest_21; rcases q with q | q | q | q | q | q | q; exact Or.inl (q); exact Or.inr (Or.inl (q)); exact Or.inr (Or.inr (Or.inr (Or.inr (Or.inl (q))))); exact Or.inr (Or.inr (Or.inr (Or.inr (Or.inr (Or.inl (q)))))); exact Or.inr (Or.inr (Or.inr (Or.inr (Or.inr (Or.inr (Or.inl (q))))))); exact Or.inr (Or.inr (Or.inr (Or.inr (Or.inr (Or.inr (Or.inr (Or.inr (Or.inl (q))))))))); exact Or.inr (Or.inr (Or.inr (Or.inr (Or.inr (Or.inr (Or.inr (Or.inr (Or.inr ((q))))))))))) (fun _ _ q => False.elim q))
                obtain ⟨q120, e97, h98⟩ := Option.bind_eq_some_iff.mp h95
                have f99 : Fr v1 v2 S0 q120.2 := f96.tr (Fr.mo (fr_f_X5_takeJoining e97) (fun a k q => by refine s1 _ _ ?_; unfold w1_f_X5_takeJoining at q; unfold w1_lp_X5_readTest_21; rcases q with q | q; exact Or.inl (q); exact Or.inr (Or.inl (q))) (fun _ _ q => False.elim q))
                rcases fr_ite h98 with h100 | h100
                ·
                  obtain ⟨a124, e101, h102⟩ := Option.bind_eq_some_iff.mp h100
                  obtain ⟨q127, e103, h104⟩ := Option.bind_eq_some_iff.mp h102
                  have f105 : Fr v1 v2 S0 q127 := f99.tr (Fr.mo (fr_f_X5_settle e103) (fun a k q => by refine s1 _ _ ?_; unfold w1_f_X5_settle at q; unfold w1_lp_X5_readTest_21; rcases q with q | q | q | q; exact Or.inr (Or.inr (Or.inr (Or.inr (Or.inl (q))))); exact Or.inr (Or.inr (Or.inr (Or.inr (Or.inr (Or.inr (Or.inl (q))))))); exact Or.inr (Or.inr (Or.inr (Or.inr (Or.inr (Or.inr (Or.inr (Or.inr (Or.inl (q))))))))); exact Or.inr (Or.inr (Or.inr (Or.inr (Or.inr (Or.inr (Or.inr (Or.inr (Or.inr ((q))))))))))) (fun _ _ q => False.elim q))
                  obtain ⟨q130, e106, h107⟩ := Option.bind_eq_some_iff.mp h104
                  have f108 : Fr v1 v2 S0 q130 := f105.tr (Fr.mo (fr_f_X5_hold e106) (fun a k q => by refine s1 _ _ ?_; unfold w1_f_X5_hold at q; unfold w1_lp_X5_readTest_21; rcases q with q | q; exact Or.inr (Or.inr (Or.inr (Or.inr (Or.inl (q))))); exact Or.inr (Or.inr (Or.inr (Or.inr (Or.inr (Or.inr (Or.inr (Or.inl (q))))))))) (fun _ _ q => False.elim q))
                  exact f108.tr (ih _ _ _ _ h107)
                ·
                  obtain ⟨q133, e109, h110⟩ := Option.bind_eq_some_iff.mp h100
                  have f111 : Fr v1 v2 S0 q133.2 := f99.tr (Fr.mo (fr_f_X5_isTestOver e109) (fun a k q => by refine s1 _ _ ?_; unfold w1_f_X5_isTestOver at q; unfold w1_lp_X5_readTest_21; rcases q with q | q | q | q | q; exact Or.inr (Or.inr (Or.inl (q))); exact Or.inr (Or.inr (Or.inr (Or.inr (Or.inl (q))))); exact Or.inr (Or.inr (Or.inr (Or.inr (Or.inr (Or.inr (Or.inl (q))))))); exact Or.inr (Or.inr (Or.inr (Or.inr (Or.inr (Or.inr (Or.inr (Or.inr (Or.inl (q))))))))); exact Or.inr (Or.inr (Or.inr (Or.inr (Or.inr (Or.inr (Or.inr (Or.inr (Or.inr ((q))))))))))) (fun _ _ q => False.elim q))
                  obtain ⟨z136, e112, h113⟩ := Option.bind_eq_some_iff.mp h110
                  exact fr_e2 h113 f111
            ·
              rcases fr_ite h62 with h114 | h114
              ·
                rcases fr_ite h114 with h115 | h115
                ·
                  obtain ⟨a143, e116, h117⟩ := Option.bind_eq_some_iff.mp h115
                  obtain ⟨q146, e118, h119⟩ := Option.bind_eq_some_iff.mp h117
                  have f120 : Fr v1 v2 S0 q146 := f9.tr (Fr.mo (fr_f_X5_settle e118) (fun a k q => by refine s1 _ _ ?_; unfold w1_f_X5_settle at q; unfold w1_lp_X5_readTest_21; rcases q with q | q | q | q; exact Or.inr (Or.inr (Or.inr (Or.inr (Or.inl (q))))); exact Or.inr (Or.inr (Or.inr (Or.inr (Or.inr (Or.inr (Or.inl (q))))))); exact Or.inr (Or.inr (Or.inr (Or.inr (Or.inr (Or.inr (Or.inr (Or.inr (Or.inl (q))))))))); exact Or.inr (Or.inr (Or.inr (Or.inr (Or.inr (Or.inr (Or.inr (Or.inr (Or.inr ((q))))))))))) (fun _ _ q => False.elim q))
                  obtain ⟨q149, e121, h122⟩ := Option.bind_eq_some_iff.mp h119
                  have f123 : Fr v1 v2 S0 q149 := f120.tr (Fr.mo (fr_f_X5_hold e121) (fun a k q => by refine s1 _ _ ?_; unfold w1_f_X5_hold at q; unfold w1_lp_X5_readTest_21; rcases q with q | q; exact Or.inr (Or.inr (Or.inr (Or.inr (Or.inl (q))))); exact Or.inr (Or.inr (Or.inr (Or.inr (Or.inr (Or.inr (Or.inr (Or.inl (q))))))))) (fun _ _ q => False.elim q))
                  exact f123.tr (ih _ _ _ _ h122)
                ·
                  obtain ⟨q152, e124, h125⟩ := Option.bind_eq_some_iff.mp h115
                  have f126 : Fr v1 v2 S0 q152.2 := f9.tr (Fr.mo (fr_f_X5_takeComparing e124) (fun a k q => by refine s1 _ _ ?_; unfold w1_f_X5_takeComparing at q; unfold w1_lp_X5_readTest_21; rcases q with q | q; exact Or.inl (q); exact Or.inr (Or.inl (q))) (fun _ _ q => False.elim q))
                  rcases fr_ite h125 with h127 | h127
                  ·
                    obtain ⟨q156, e128, h129⟩ := Option.bind_eq_some_iff.mp h127
                    have f130 : Fr v1 v2 S0 q156.2 := f126.tr (Fr.mo (fr_f_X5_isRoomForOne e128) (fun a k q => by refine s1 _ _ ?_; unfold w1_f_X5_isRoomForOne at q; unfold w1_lp_X5_readTest_21; rcases q with q | q; exact Or.inr (Or.inr (Or.inl (q))); exact Or.inr (Or.inr (Or.inr (Or.inl (q))))) (fun _ _ q => False.elim q))
                    rcases fr_ite h129 with h131 | h131
                    ·
                      exact fr_e2 h131 f130
                    ·
                      obtain ⟨a160, e132, h133⟩ := Option.bind_eq_some_iff.mp h131
                      obtain ⟨q163, e134, h135⟩ := Option.bind_eq_some_iff.mp h133
                      have f136 : Fr v1 v2 S0 q163 := f130.tr (Fr.mo (fr_f_X5_settle e134) (fun a k q => by refine s1 _ _ ?_; unfold w1_f_X5_settle at q; unfold w1_lp_X5_readTest_21; rcases q with q | q | q | q; exact Or.inr (Or.inr (Or.inr (Or.inr (Or.inl (q))))); exact Or.inr (Or.inr (Or.inr (Or.inr (Or.inr (Or.inr (Or.inl (q))))))); exact Or.inr (Or.inr (Or.inr (Or.inr (Or.inr (Or.inr (Or.inr (Or.inr (Or.inl (q))))))))); exact Or.inr (Or.inr (Or.inr (Or.inr (Or.inr (Or.inr (Or.inr (Or.inr (Or.inr ((q))))))))))) (fun _ _ q => False.elim q))
                      obtain ⟨q166, e137, h138⟩ := Option.bind_eq_some_iff.mp h135
                      have f139 : Fr v1 v2 S0 q166 := f136.tr (Fr.mo (fr_f_X5_hold e137) (fun a k q => by refine s1 _ _ ?_; unfold w1_f_X5_hold at q; unfold w1_lp_X5_readTest_21; rcases q with q | q; exact Or.inr (Or.inr (Or.inr (Or.inr (Or.inl (q))))); exact Or.inr (Or.inr (Or.inr (Or.inr (Or.inr (Or.inr (Or.inr (Or.inl (q))))))))) (fun _ _ q => False.elim q))
                      exact f139.tr (ih _ _ _ _ h138)
                  ·
                    obtain ⟨q169, e140, h141⟩ := Option.bind_eq_some_iff.mp h127
                    have f142 : Fr v1 v2 S0 q169.2 := f126.tr (Fr.mo (fr_f_X7_fail e140) (fun a k q => by refine s1 _ _ ?_; unfold w1_f_X7_fail at q; unfold w1_lp_X5_readTest_21; exact Or.inr (Or.inr (Or.inl (q)))) (fun _ _ q => False.elim q))
                    obtain ⟨z172, e143, h144⟩ := Option.bind_eq_some_iff.mp h141
                    exact fr_e2 h144 f142
              ·
                obtain ⟨q177, e145, h146⟩ := Option.bind_eq_some_iff.mp h114
                have f147 : Fr v1 v2 S0 q177 := f9.tr (Fr.mo (fr_f_X5_closeBrackets e145) (fun a k q => by refine s1 _ _ ?_; unfold w1_f_X5_closeBrackets at q; unfold w1_lp_X5_readTest_21; rcases q with q | q | q | q | q | q | q; exact Or.inl (q); exact Or.inr (Or.inl (q)); exact Or.inr (Or.inr (Or.inr (Or.inr (Or.inl (q))))); exact Or.inr (Or.inr (Or.inr (Or.inr (Or.inr (Or.inl (q)))))); exact Or.inr (Or.inr (Or.inr (Or.inr (Or.inr (Or.inr (Or.inl (q))))))); exact Or.inr (Or.inr (Or.inr (Or.inr (Or.inr (Or.inr (Or.inr (Or.inr (Or.inl (q))))))))); exact Or.inr (Or.inr (Or.inr (Or.inr (Or.inr (Or.inr (Or.inr (Or.inr (Or.inr ((q))))))))))) (fun _ _ q => False.elim q))
                obtain ⟨q180, e148, h149⟩ := Option.bind_eq_some_iff.mp h146
                have f150 : Fr v1 v2 S0 q180.2 := f147.tr (Fr.mo (fr_f_X5_takeJoining e148) (fun a k q => by refine s1 _ _ ?_; unfold w1_f_X5_takeJoining at q; unfold w1_lp_X5_readTest_21; rcases q with q | q; exact Or.inl (q); exact Or.inr (Or.inl (q))) (fun _ _ q => False.elim q))
                rcases fr_ite h149 with h151 | h151
                ·
                  obtain ⟨a184, e152, h153⟩ := Option.bind_eq_some_iff.mp h151
                  obtain ⟨q187, e154, h155⟩ := Option.bind_eq_some_iff.mp h153
                  have f156 : Fr v1 v2 S0 q187 := f150.tr (Fr.mo (fr_f_X5_settle e154) (fun a k q => by refine s1 _ _ ?_; unfold w1_f_X5_settle at q; unfold w1_lp_X5_readTest_21; rcases q with q | q | q | q; exact Or.inr (Or.inr (Or.inr (Or.inr (Or.inl (q))))); exact Or.inr (Or.inr (Or.inr (Or.inr (Or.inr (Or.inr (Or.inl (q))))))); exact Or.inr (Or.inr (Or.inr (Or.inr (Or.inr (Or.inr (Or.inr (Or.inr (Or.inl (q))))))))); exact Or.inr (Or.inr (Or.inr (Or.inr (Or.inr (Or.inr (Or.inr (Or.inr (Or.inr ((q))))))))))) (fun _ _ q => False.elim q))
                  obtain ⟨q190, e157, h158⟩ := Option.bind_eq_some_iff.mp h155
                  have f159 : Fr v1 v2 S0 q190 := f156.tr (Fr.mo (fr_f_X5_hold e157) (fun a k q => by refine s1 _ _ ?_; unfold w1_f_X5_hold at q; unfold w1_lp_X5_readTest_21; rcases q with q | q; exact Or.inr (Or.inr (Or.inr (Or.inr (Or.inl (q))))); exact Or.inr (Or.inr (Or.inr (Or.inr (Or.inr (Or.inr (Or.inr (Or.inl (q))))))))) (fun _ _ q => False.elim q))
                  exact f159.tr (ih _ _ _ _ h158)
                ·
                  obtain ⟨q193, e160, h161⟩ := Option.bind_eq_some_iff.mp h151
                  have f162 : Fr v1 v2 S0 q193.2 := f150.tr (Fr.mo (fr_f_X5_isTestOver e160) (fun a k q => by refine s1 _ _ ?_; unfold w1_f_X5_isTestOver at q; unfold w1_lp_X5_readTest_21; rcases q with q | q | q | q | q; exact Or.inr (Or.inr (Or.inl (q))); exact Or.inr (Or.inr (Or.inr (Or.inr (Or.inl (q))))); exact Or.inr (Or.inr (Or.inr (Or.inr (Or.inr (Or.inr (Or.inl (q))))))); exact Or.inr (Or.inr (Or.inr (Or.inr (Or.inr (Or.inr (Or.inr (Or.inr (Or.inl (q))))))))); exact Or.inr (Or.inr (Or.inr (Or.inr (Or.inr (Or.inr (Or.inr (Or.inr (Or.inr ((q))))))))))) (fun _ _ q => False.elim q))
                  obtain ⟨z196, e163, h164⟩ := Option.bind_eq_some_iff.mp h161
                  exact fr_e2 h164 f162
      ·
        obtain ⟨q201, e165, h166⟩ := Option.bind_eq_some_iff.mp h2
        have f167 : Fr v1 v2 S0 q201.2 := (Fr.rf (S := S0)).tr (Fr.mo (fr_f_X5_readOpenings e165) (fun a k q => by refine s1 _ _ ?_; unfold w1_f_X5_readOpenings at q; unfold w1_lp_X5_readTest_21; rcases q with q | q | q | q | q | q | q; exact Or.inl (q); exact Or.inr (Or.inl (q)); exact Or.inr (Or.inr (Or.inl (q))); exact Or.inr (Or.inr (Or.inr (Or.inr (Or.inl (q))))); exact Or.inr (Or.inr (Or.inr (Or.inr (Or.inr (Or.inl (q)))))); exact Or.inr (Or.inr (Or.inr (Or.inr (Or.inr (Or.inr (Or.inl (q))))))); exact Or.inr (Or.inr (Or.inr (Or.inr (Or.inr (Or.inr (Or.inr (Or.inl (q))))))))) (fun _ _ q => False.elim q))
        rcases fr_ite h166 with h168 | h168
        ·
          exact fr_e2 h168 f167
        ·
          obtain ⟨q205, e169, h170⟩ := Option.bind_eq_some_iff.mp h168
          have f171 : Fr v1 v2 S0 q205.2 := f167.tr (Fr.mo (fr_f_X5_readValue e169) (fun a k q => by refine s1 _ _ ?_; unfold w1_f_X5_readValue at q; unfold w1_lp_X5_readTest_21; rcases q with q | q | q | q | q | q; exact Or.inl (q); exact Or.inr (Or.inl (q)); exact Or.inr (Or.inr (Or.inl (q))); exact Or.inr (Or.inr (Or.inr (Or.inl (q)))); exact Or.inr (Or.inr (Or.inr (Or.inr (Or.inr (Or.inr (Or.inr (Or.inr (Or.inl (q))))))))); exact Or.inr (Or.inr (Or.inr (Or.inr (Or.inr (Or.inr (Or.inr (Or.inr (Or.inr ((q))))))))))) (fun _ _ q => False.elim q))
          rcases fr_ite h170 with h172 | h172
          ·
            exact fr_e2 h172 f171
          ·
            obtain ⟨q209, e173, h174⟩ := Option.bind_eq_some_iff.mp h172
            have f175 : Fr v1 v2 S0 q209.2 := f171.tr (Fr.mo (fr_f_X5_takeReckoning e173) (fun a k q => by refine s1 _ _ ?_; unfold w1_f_X5_takeReckoning at q; unfold w1_lp_X5_readTest_21; rcases q with q | q; exact Or.inl (q); exact Or.inr (Or.inl (q))) (fun _ _ q => False.elim q))
            rcases fr_ite h174 with h176 | h176
            ·
              rcases fr_ite h176 with h177 | h177
              ·
                rcases fr_ite h177 with h178 | h178
                ·
                  obtain ⟨a215, e179, h180⟩ := Option.bind_eq_some_iff.mp h178
                  obtain ⟨q218, e181, h182⟩ := Option.bind_eq_some_iff.mp h180
                  have f183 : Fr v1 v2 S0 q218 := f175.tr (Fr.mo (fr_f_X5_settle e181) (fun a k q => by refine s1 _ _ ?_; unfold w1_f_X5_settle at q; unfold w1_lp_X5_readTest_21; rcases q with q | q | q | q; exact Or.inr (Or.inr (Or.inr (Or.inr (Or.inl (q))))); exact Or.inr (Or.inr (Or.inr (Or.inr (Or.inr (Or.inr (Or.inl (q))))))); exact Or.inr (Or.inr (Or.inr (Or.inr (Or.inr (Or.inr (Or.inr (Or.inr (Or.inl (q))))))))); exact Or.inr (Or.inr (Or.inr (Or.inr (Or.inr (Or.inr (Or.inr (Or.inr (Or.inr ((q))))))))))) (fun _ _ q => False.elim q))
                  obtain ⟨q221, e184, h185⟩ := Option.bind_eq_some_iff.mp h182
                  have f186 : Fr v1 v2 S0 q221 := f183.tr (Fr.mo (fr_f_X5_hold e184) (fun a k q => by refine s1 _ _ ?_; unfold w1_f_X5_hold at q; unfold w1_lp_X5_readTest_21; rcases q with q | q; exact Or.inr (Or.inr (Or.inr (Or.inr (Or.inl (q))))); exact Or.inr (Or.inr (Or.inr (Or.inr (Or.inr (Or.inr (Or.inr (Or.inl (q))))))))) (fun _ _ q => False.elim q))
                  exact f186.tr (ih _ _ _ _ h185)
                ·
                  obtain ⟨q224, e187, h188⟩ := Option.bind_eq_some_iff.mp h178
                  have f189 : Fr v1 v2 S0 q224.2 := f175.tr (Fr.mo (fr_f_X5_takeComparing e187) (fun a k q => by refine s1 _ _ ?_; unfold w1_f_X5_takeComparing at q; unfold w1_lp_X5_readTest_21; rcases q with q | q; exact Or.inl (q); exact Or.inr (Or.inl (q))) (fun _ _ q => False.elim q))
                  rcases fr_ite h188 with h190 | h190
                  ·
                    obtain ⟨q228, e191, h192⟩ := Option.bind_eq_some_iff.mp h190
                    have f193 : Fr v1 v2 S0 q228.2 := f189.tr (Fr.mo (fr_f_X5_isRoomForOne e191) (fun a k q => by refine s1 _ _ ?_; unfold w1_f_X5_isRoomForOne at q; unfold w1_lp_X5_readTest_21; rcases q with q | q; exact Or.inr (Or.inr (Or.inl (q))); exact Or.inr (Or.inr (Or.inr (Or.inl (q))))) (fun _ _ q => False.elim q))
                    rcases fr_ite h192 with h194 | h194
                    ·
                      exact fr_e2 h194 f193
                    ·
                      obtain ⟨a232, e195, h196⟩ := Option.bind_eq_some_iff.mp h194
                      obtain ⟨q235, e197, h198⟩ := Option.bind_eq_some_iff.mp h196
                      have f199 : Fr v1 v2 S0 q235 := f193.tr (Fr.mo (fr_f_X5_settle e197) (fun a k q => by refine s1 _ _ ?_; unfold w1_f_X5_settle at q; unfold w1_lp_X5_readTest_21; rcases q with q | q | q | q; exact Or.inr (Or.inr (Or.inr (Or.inr (Or.inl (q))))); exact Or.inr (Or.inr (Or.inr (Or.inr (Or.inr (Or.inr (Or.inl (q))))))); exact Or.inr (Or.inr (Or.inr (Or.inr (Or.inr (Or.inr (Or.inr (Or.inr (Or.inl (q))))))))); exact Or.inr (Or.inr (Or.inr (Or.inr (Or.inr (Or.inr (Or.inr (Or.inr (Or.inr ((q))))))))))) (fun _ _ q => False.elim q))
                      obtain ⟨q238, e200, h201⟩ := Option.bind_eq_some_iff.mp h198
                      have f202 : Fr v1 v2 S0 q238 := f199.tr (Fr.mo (fr_f_X5_hold e200) (fun a k q => by refine s1 _ _ ?_; unfold w1_f_X5_hold at q; unfold w1_lp_X5_readTest_21; rcases q with q | q; exact Or.inr (Or.inr (Or.inr (Or.inr (Or.inl (q))))); exact Or.inr (Or.inr (Or.inr (Or.inr (Or.inr (Or.inr (Or.inr (Or.inl (q))))))))) (fun _ _ q => False.elim q))
                      exact f202.tr (ih _ _ _ _ h201)
                  ·
                    obtain ⟨q241, e203, h204⟩ := Option.bind_eq_some_iff.mp h190
                    have f205 : Fr v1 v2 S0 q241.2 := f189.tr (Fr.mo (fr_f_X7_fail e203) (fun a k q => by refine s1 _ _ ?_; unfold w1_f_X7_fail at q; unfold w1_lp_X5_readTest_21; exact Or.inr (Or.inr (Or.inl (q)))) (fun _ _ q => False.elim q))
                    obtain ⟨z244, e206, h207⟩ := Option.bind_eq_some_iff.mp h204
                    exact fr_e2 h207 f205
              ·
                obtain ⟨q249, e208, h209⟩ := Option.bind_eq_some_iff.mp h177
                have f210 : Fr v1 v2 S0 q249 := f175.tr (Fr.mo (fr_f_X5_closeBrackets e208) (fun a k q => by refine s1 _ _ ?_; unfold w1_f_X5_closeBrackets at q; unfold w1_lp_X5_readTest_21; rcases q with q | q | q | q | q | q | q; exact Or.inl (q); exact Or.inr (Or.inl (q)); exact Or.inr (Or.inr (Or.inr (Or.inr (Or.inl (q))))); exact Or.inr (Or.inr (Or.inr (Or.inr (Or.inr (Or.inl (q)))))); exact Or.inr (Or.inr (Or.inr (Or.inr (Or.inr (Or.inr (Or.inl (q))))))); exact Or.inr (Or.inr (Or.inr (Or.inr (Or.inr (Or.inr (Or.inr (Or.inr (Or.inl (q))))))))); exact Or.inr (Or.inr (Or.inr (Or.inr (Or.inr (Or.inr (Or.inr (Or.inr (Or.inr ((q))))))))))) (fun _ _ q => False.elim q))
                obtain ⟨q252, e211, h212⟩ := Option.bind_eq_some_iff.mp h209
                have f213 : Fr v1 v2 S0 q252.2 := f210.tr (Fr.mo (fr_f_X5_takeJoining e211) (fun a k q => by refine s1 _ _ ?_; unfold w1_f_X5_takeJoining at q; unfold w1_lp_X5_readTest_21; rcases q with q | q; exact Or.inl (q); exact Or.inr (Or.inl (q))) (fun _ _ q => False.elim q))
                rcases fr_ite h212 with h214 | h214
                ·
                  obtain ⟨a256, e215, h216⟩ := Option.bind_eq_some_iff.mp h214
                  obtain ⟨q259, e217, h218⟩ := Option.bind_eq_some_iff.mp h216
                  have f219 : Fr v1 v2 S0 q259 := f213.tr (Fr.mo (fr_f_X5_settle e217) (fun a k q => by refine s1 _ _ ?_; unfold w1_f_X5_settle at q; unfold w1_lp_X5_readTest_21; rcases q with q | q | q | q; exact Or.inr (Or.inr (Or.inr (Or.inr (Or.inl (q))))); exact Or.inr (Or.inr (Or.inr (Or.inr (Or.inr (Or.inr (Or.inl (q))))))); exact Or.inr (Or.inr (Or.inr (Or.inr (Or.inr (Or.inr (Or.inr (Or.inr (Or.inl (q))))))))); exact Or.inr (Or.inr (Or.inr (Or.inr (Or.inr (Or.inr (Or.inr (Or.inr (Or.inr ((q))))))))))) (fun _ _ q => False.elim q))
                  obtain ⟨q262, e220, h221⟩ := Option.bind_eq_some_iff.mp h218
                  have f222 : Fr v1 v2 S0 q262 := f219.tr (Fr.mo (fr_f_X5_hold e220) (fun a k q => by refine s1 _ _ ?_; unfold w1_f_X5_hold at q; unfold w1_lp_X5_readTest_21; rcases q with q | q; exact Or.inr (Or.inr (Or.inr (Or.inr (Or.inl (q))))); exact Or.inr (Or.inr (Or.inr (Or.inr (Or.inr (Or.inr (Or.inr (Or.inl (q))))))))) (fun _ _ q => False.elim q))
                  exact f222.tr (ih _ _ _ _ h221)
                ·
                  obtain ⟨q265, e223, h224⟩ := Option.bind_eq_some_iff.mp h214
                  have f225 : Fr v1 v2 S0 q265.2 := f213.tr (Fr.mo (fr_f_X5_isTestOver e223) (fun a k q => by refine s1 _ _ ?_; unfold w1_f_X5_isTestOver at q; unfold w1_lp_X5_readTest_21; rcases q with q | q | q | q | q; exact Or.inr (Or.inr (Or.inl (q))); exact Or.inr (Or.inr (Or.inr (Or.inr (Or.inl (q))))); exact Or.inr (Or.inr (Or.inr (Or.inr (Or.inr (Or.inr (Or.inl (q))))))); exact Or.inr (Or.inr (Or.inr (Or.inr (Or.inr (Or.inr (Or.inr (Or.inr (Or.inl (q))))))))); exact Or.inr (Or.inr (Or.inr (Or.inr (Or.inr (Or.inr (Or.inr (Or.inr (Or.inr ((q))))))))))) (fun _ _ q => False.elim q))
                  obtain ⟨z268, e226, h227⟩ := Option.bind_eq_some_iff.mp h224
                  exact fr_e2 h227 f225
            ·
              rcases fr_ite h176 with h228 | h228
              ·
                rcases fr_ite h228 with h229 | h229
                ·
                  rcases fr_ite h229 with h230 | h230
                  ·
                    obtain ⟨a276, e231, h232⟩ := Option.bind_eq_some_iff.mp h230
                    obtain ⟨q279, e233, h234⟩ := Option.bind_eq_some_iff.mp h232
                    have f235 : Fr v1 v2 S0 q279 := f175.tr (Fr.mo (fr_f_X5_settle e233) (fun a k q => by refine s1 _ _ ?_; unfold w1_f_X5_settle at q; unfold w1_lp_X5_readTest_21; rcases q with q | q | q | q; exact Or.inr (Or.inr (Or.inr (Or.inr (Or.inl (q))))); exact Or.inr (Or.inr (Or.inr (Or.inr (Or.inr (Or.inr (Or.inl (q))))))); exact Or.inr (Or.inr (Or.inr (Or.inr (Or.inr (Or.inr (Or.inr (Or.inr (Or.inl (q))))))))); exact Or.inr (Or.inr (Or.inr (Or.inr (Or.inr (Or.inr (Or.inr (Or.inr (Or.inr ((q))))))))))) (fun _ _ q => False.elim q))
                    obtain ⟨q282, e236, h237⟩ := Option.bind_eq_some_iff.mp h234
                    have f238 : Fr v1 v2 S0 q282 := f235.tr (Fr.mo (fr_f_X5_hold e236) (fun a k q => by refine s1 _ _ ?_; unfold w1_f_X5_hold at q; unfold w1_lp_X5_readTest_21; rcases q with q | q; exact Or.inr (Or.inr (Or.inr (Or.inr (Or.inl (q))))); exact Or.inr (Or.inr (Or.inr (Or.inr (Or.inr (Or.inr (Or.inr (Or.inl (q))))))))) (fun _ _ q => False.elim q))
                    exact f238.tr (ih _ _ _ _ h237)
                  ·
                    obtain ⟨q285, e239, h240⟩ := Option.bind_eq_some_iff.mp h230
                    have f241 : Fr v1 v2 S0 q285.2 := f175.tr (Fr.mo (fr_f_X5_takeComparing e239) (fun a k q => by refine s1 _ _ ?_; unfold w1_f_X5_takeComparing at q; unfold w1_lp_X5_readTest_21; rcases q with q | q; exact Or.inl (q); exact Or.inr (Or.inl (q))) (fun _ _ q => False.elim q))
                    rcases fr_ite h240 with h242 | h242
                    ·
                      obtain ⟨q289, e243, h244⟩ := Option.bind_eq_some_iff.mp h242
                      have f245 : Fr v1 v2 S0 q289.2 := f241.tr (Fr.mo (fr_f_X5_isRoomForOne e243) (fun a k q => by refine s1 _ _ ?_; unfold w1_f_X5_isRoomForOne at q; unfold w1_lp_X5_readTest_21; rcases q with q | q; exact Or.inr (Or.inr (Or.inl (q))); exact Or.inr (Or.inr (Or.inr (Or.inl (q))))) (fun _ _ q => False.elim q))
                      rcases fr_ite h244 with h246 | h246
                      ·
                        exact fr_e2 h246 f245
                      ·
                        obtain ⟨a293, e247, h248⟩ := Option.bind_eq_some_iff.mp h246
                        obtain ⟨q296, e249, h250⟩ := Option.bind_eq_some_iff.mp h248
                        have f251 : Fr v1 v2 S0 q296 := f245.tr (Fr.mo (fr_f_X5_settle e249) (fun a k q => by refine s1 _ _ ?_; unfold w1_f_X5_settle at q; unfold w1_lp_X5_readTest_21; rcases q with q | q | q | q; exact Or.inr (Or.inr (Or.inr (Or.inr (Or.inl (q))))); exact Or.inr (Or.inr (Or.inr (Or.inr (Or.inr (Or.inr (Or.inl (q))))))); exact Or.inr (Or.inr (Or.inr (Or.inr (Or.inr (Or.inr (Or.inr (Or.inr (Or.inl (q))))))))); exact Or.inr (Or.inr (Or.inr (Or.inr (Or.inr (Or.inr (Or.inr (Or.inr (Or.inr ((q))))))))))) (fun _ _ q => False.elim q))
                        obtain ⟨q299, e252, h253⟩ := Option.bind_eq_some_iff.mp h250
                        have f254 : Fr v1 v2 S0 q299 := f251.tr (Fr.mo (fr_f_X5_hold e252) (fun a k q => by refine s1 _ _ ?_; unfold w1_f_X5_hold at q; unfold w1_lp_X5_readTest_21; rcases q with q | q; exact Or.inr (Or.inr (Or.inr (Or.inr (Or.inl (q))))); exact Or.inr (Or.inr (Or.inr (Or.inr (Or.inr (Or.inr (Or.inr (Or.inl (q))))))))) (fun _ _ q => False.elim q))
                        exact f254.tr (ih _ _ _ _ h253)
                    ·
                      obtain ⟨q302, e255, h256⟩ := Option.bind_eq_some_iff.mp h242
                      have f257 : Fr v1 v2 S0 q302.2 := f241.tr (Fr.mo (fr_f_X7_fail e255) (fun a k q => by refine s1 _ _ ?_; unfold w1_f_X7_fail at q; unfold w1_lp_X5_readTest_21; exact Or.inr (Or.inr (Or.inl (q)))) (fun _ _ q => False.elim q))
                      obtain ⟨z305, e258, h259⟩ := Option.bind_eq_some_iff.mp h256
                      exact fr_e2 h259 f257
                ·
                  obtain ⟨q310, e260, h261⟩ := Option.bind_eq_some_iff.mp h229
                  have f262 : Fr v1 v2 S0 q310 := f175.tr (Fr.mo (fr_f_X5_closeBrackets e260) (fun a k q => by refine s1 _ _ ?_; unfold w1_f_X5_closeBrackets at q; unfold w1_lp_X5_readTest_21; rcases q with q | q | q | q | q | q | q; exact Or.inl (q); exact Or.inr (Or.inl (q)); exact Or.inr (Or.inr (Or.inr (Or.inr (Or.inl (q))))); exact Or.inr (Or.inr (Or.inr (Or.inr (Or.inr (Or.inl (q)))))); exact Or.inr (Or.inr (Or.inr (Or.inr (Or.inr (Or.inr (Or.inl (q))))))); exact Or.inr (Or.inr (Or.inr (Or.inr (Or.inr (Or.inr (Or.inr (Or.inr (Or.inl (q))))))))); exact Or.inr (Or.inr (Or.inr (Or.inr (Or.inr (Or.inr (Or.inr (Or.inr (Or.inr ((q))))))))))) (fun _ _ q => False.elim q))
                  obtain ⟨q313, e263, h264⟩ := Option.bind_eq_some_iff.mp h261
                  have f265 : Fr v1 v2 S0 q313.2 := f262.tr (Fr.mo (fr_f_X5_takeJoining e263) (fun a k q => by refine s1 _ _ ?_; unfold w1_f_X5_takeJoining at q; unfold w1_lp_X5_readTest_21; rcases q with q | q; exact Or.inl (q); exact Or.inr (Or.inl (q))) (fun _ _ q => False.elim q))
                  rcases fr_ite h264 with h266 | h266
                  ·
                    obtain ⟨a317, e267, h268⟩ := Option.bind_eq_some_iff.mp h266
                    obtain ⟨q320, e269, h270⟩ := Option.bind_eq_some_iff.mp h268
                    have f271 : Fr v1 v2 S0 q320 := f265.tr (Fr.mo (fr_f_X5_settle e269) (fun a k q => by refine s1 _ _ ?_; unfold w1_f_X5_settle at q; unfold w1_lp_X5_readTest_21; rcases q with q | q | q | q; exact Or.inr (Or.inr (Or.inr (Or.inr (Or.inl (q))))); exact Or.inr (Or.inr (Or.inr (Or.inr (Or.inr (Or.inr (Or.inl (q))))))); exact Or.inr (Or.inr (Or.inr (Or.inr (Or.inr (Or.inr (Or.inr (Or.inr (Or.inl (q))))))))); exact Or.inr (Or.inr (Or.inr (Or.inr (Or.inr (Or.inr (Or.inr (Or.inr (Or.inr ((q))))))))))) (fun _ _ q => False.elim q))
                    obtain ⟨q323, e272, h273⟩ := Option.bind_eq_some_iff.mp h270
                    have f274 : Fr v1 v2 S0 q323 := f271.tr (Fr.mo (fr_f_X5_hold e272) (fun a k q => by refine s1 _ _ ?_; unfold w1_f_X5_hold at q; unfold w1_lp_X5_readTest_21; rcases q with q | q; exact Or.inr (Or.inr (Or.inr (Or.inr (Or.inl (q))))); exact Or.inr (Or.inr (Or.inr (Or.inr (Or.inr (Or.inr (Or.inr (Or.inl (q))))))))) (fun _ _ q => False.elim q))
                    exact f274.tr (ih _ _ _ _ h273)
                  ·
                    obtain ⟨q326, e275, h276⟩ := Option.bind_eq_some_iff.mp h266
                    have f277 : Fr v1 v2 S0 q326.2 := f265.tr (Fr.mo (fr_f_X5_isTestOver e275) (fun a k q => by refine s1 _ _ ?_; unfold w1_f_X5_isTestOver at q; unfold w1_lp_X5_readTest_21; rcases q with q | q | q | q | q; exact Or.inr (Or.inr (Or.inl (q))); exact Or.inr (Or.inr (Or.inr (Or.inr (Or.inl (q))))); exact Or.inr (Or.inr (Or.inr (Or.inr (Or.inr (Or.inr (Or.inl (q))))))); exact Or.inr (Or.inr (Or.inr (Or.inr (Or.inr (Or.inr (Or.inr (Or.inr (Or.inl (q))))))))); exact Or.inr (Or.inr (Or.inr (Or.inr (Or.inr (Or.inr (Or.inr (Or.inr (Or.inr ((q))))))))))) (fun _ _ q => False.elim q))
                    obtain ⟨z329, e278, h279⟩ := Option.bind_eq_some_iff.mp h276
                    exact fr_e2 h279 f277
              ·
                rcases fr_ite h228 with h280 | h280
                ·
                  rcases fr_ite h280 with h281 | h281
                  ·
                    obtain ⟨a336, e282, h283⟩ := Option.bind_eq_some_iff.mp h281
                    obtain ⟨q339, e284, h285⟩ := Option.bind_eq_some_iff.mp h283
                    have f286 : Fr v1 v2 S0 q339 := f175.tr (Fr.mo (fr_f_X5_settle e284) (fun a k q => by refine s1 _ _ ?_; unfold w1_f_X5_settle at q; unfold w1_lp_X5_readTest_21; rcases q with q | q | q | q; exact Or.inr (Or.inr (Or.inr (Or.inr (Or.inl (q))))); exact Or.inr (Or.inr (Or.inr (Or.inr (Or.inr (Or.inr (Or.inl (q))))))); exact Or.inr (Or.inr (Or.inr (Or.inr (Or.inr (Or.inr (Or.inr (Or.inr (Or.inl (q))))))))); exact Or.inr (Or.inr (Or.inr (Or.inr (Or.inr (Or.inr (Or.inr (Or.inr (Or.inr ((q))))))))))) (fun _ _ q => False.elim q))
                    obtain ⟨q342, e287, h288⟩ := Option.bind_eq_some_iff.mp h285
                    have f289 : Fr v1 v2 S0 q342 := f286.tr (Fr.mo (fr_f_X5_hold e287) (fun a k q => by refine s1 _ _ ?_; unfold w1_f_X5_hold at q; unfold w1_lp_X5_readTest_21; rcases q with q | q; exact Or.inr (Or.inr (Or.inr (Or.inr (Or.inl (q))))); exact Or.inr (Or.inr (Or.inr (Or.inr (Or.inr (Or.inr (Or.inr (Or.inl (q))))))))) (fun _ _ q => False.elim q))
                    exact f289.tr (ih _ _ _ _ h288)
                  ·
                    obtain ⟨q345, e290, h291⟩ := Option.bind_eq_some_iff.mp h281
                    have f292 : Fr v1 v2 S0 q345.2 := f175.tr (Fr.mo (fr_f_X5_takeComparing e290) (fun a k q => by refine s1 _ _ ?_; unfold w1_f_X5_takeComparing at q; unfold w1_lp_X5_readTest_21; rcases q with q | q; exact Or.inl (q); exact Or.inr (Or.inl (q))) (fun _ _ q => False.elim q))
                    rcases fr_ite h291 with h293 | h293
                    ·
                      obtain ⟨q349, e294, h295⟩ := Option.bind_eq_some_iff.mp h293
                      have f296 : Fr v1 v2 S0 q349.2 := f292.tr (Fr.mo (fr_f_X5_isRoomForOne e294) (fun a k q => by refine s1 _ _ ?_; unfold w1_f_X5_isRoomForOne at q; unfold w1_lp_X5_readTest_21; rcases q with q | q; exact Or.inr (Or.inr (Or.inl (q))); exact Or.inr (Or.inr (Or.inr (Or.inl (q))))) (fun _ _ q => False.elim q))
                      rcases fr_ite h295 with h297 | h297
                      ·
                        exact fr_e2 h297 f296
                      ·
                        obtain ⟨a353, e298, h299⟩ := Option.bind_eq_some_iff.mp h297
                        obtain ⟨q356, e300, h301⟩ := Option.bind_eq_some_iff.mp h299
                        have f302 : Fr v1 v2 S0 q356 := f296.tr (Fr.mo (fr_f_X5_settle e300) (fun a k q => by refine s1 _ _ ?_; unfold w1_f_X5_settle at q; unfold w1_lp_X5_readTest_21; rcases q with q | q | q | q; exact Or.inr (Or.inr (Or.inr (Or.inr (Or.inl (q))))); exact Or.inr (Or.inr (Or.inr (Or.inr (Or.inr (Or.inr (Or.inl (q))))))); exact Or.inr (Or.inr (Or.inr (Or.inr (Or.inr (Or.inr (Or.inr (Or.inr (Or.inl (q))))))))); exact Or.inr (Or.inr (Or.inr (Or.inr (Or.inr (Or.inr (Or.inr (Or.inr (Or.inr ((q))))))))))) (fun _ _ q => False.elim q))
                        obtain ⟨q359, e303, h304⟩ := Option.bind_eq_some_iff.mp h301
                        have f305 : Fr v1 v2 S0 q359 := f302.tr (Fr.mo (fr_f_X5_hold e303) (fun a k q => by refine s1 _ _ ?_; unfold w1_f_X5_hold at q; unfold w1_lp_X5_readTest_21; rcases q with q | q; exact Or.inr (Or.inr (Or.inr (Or.inr (Or.inl (q))))); exact Or.inr (Or.inr (Or.inr (Or.inr (Or.inr (Or.inr (Or.inr (Or.inl (q))))))))) (fun _ _ q => False.elim q))
                        exact f305.tr (ih _ _ _ _ h304)
                    ·
                      obtain ⟨q362, e306, h307⟩ := Option.bind_eq_some_iff.mp h293
                      have f308 : Fr v1 v2 S0 q362.2 := f292.tr (Fr.mo (fr_f_X7_fail e306) (fun a k q => by refine s1 _ _ ?_; unfold w1_f_X7_fail at q; unfold w1_lp_X5_readTest_21; exact Or.inr (Or.inr (Or.inl (q)))) (fun _ _ q => False.elim q))
                      obtain ⟨z365, e309, h310⟩ := Option.bind_eq_some_iff.mp h307
                      exact fr_e2 h310 f308
                ·
                  obtain ⟨q370, e311, h312⟩ := Option.bind_eq_some_iff.mp h280
                  have f313 : Fr v1 v2 S0 q370 := f175.tr (Fr.mo (fr_f_X5_closeBrackets e311) (fun a k q => by refine s1 _ _ ?_; unfold w1_f_X5_closeBrackets at q; unfold w1_lp_X5_readTest_21; rcases q with q | q | q | q | q | q | q; exact Or.inl (q); exact Or.inr (Or.inl (q)); exact Or.inr (Or.inr (Or.inr (Or.inr (Or.inl (q))))); exact Or.inr (Or.inr (Or.inr (Or.inr (Or.inr (Or.inl (q)))))); exact Or.inr (Or.inr (Or.inr (Or.inr (Or.inr (Or.inr (Or.inl (q))))))); exact Or.inr (Or.inr (Or.inr (Or.inr (Or.inr (Or.inr (Or.inr (Or.inr (Or.inl (q))))))))); exact Or.inr (Or.inr (Or.inr (Or.inr (Or.inr (Or.inr (Or.inr (Or.inr (Or.inr ((q))))))))))) (fun _ _ q => False.elim q))
                  obtain ⟨q373, e314, h315⟩ := Option.bind_eq_some_iff.mp h312
                  have f316 : Fr v1 v2 S0 q373.2 := f313.tr (Fr.mo (fr_f_X5_takeJoining e314) (fun a k q => by refine s1 _ _ ?_; unfold w1_f_X5_takeJoining at q; unfold w1_lp_X5_readTest_21; rcases q with q | q; exact Or.inl (q); exact Or.inr (Or.inl (q))) (fun _ _ q => False.elim q))
                  rcases fr_ite h315 with h317 | h317
                  ·
                    obtain ⟨a377, e318, h319⟩ := Option.bind_eq_some_iff.mp h317
                    obtain ⟨q380, e320, h321⟩ := Option.bind_eq_some_iff.mp h319
                    have f322 : Fr v1 v2 S0 q380 := f316.tr (Fr.mo (fr_f_X5_settle e320) (fun a k q => by refine s1 _ _ ?_; unfold w1_f_X5_settle at q; unfold w1_lp_X5_readTest_21; rcases q with q | q | q | q; exact Or.inr (Or.inr (Or.inr (Or.inr (Or.inl (q))))); exact Or.inr (Or.inr (Or.inr (Or.inr (Or.inr (Or.inr (Or.inl (q))))))); exact Or.inr (Or.inr (Or.inr (Or.inr (Or.inr (Or.inr (Or.inr (Or.inr (Or.inl (q))))))))); exact Or.inr (Or.inr (Or.inr (Or.inr (Or.inr (Or.inr (Or.inr (Or.inr (Or.inr ((q))))))))))) (fun _ _ q => False.elim q))
                    obtain ⟨q383, e323, h324⟩ := Option.bind_eq_some_iff.mp h321
                    have f325 : Fr v1 v2 S0 q383 := f322.tr (Fr.mo (fr_f_X5_hold e323) (fun a k q => by refine s1 _ _ ?_; unfold w1_f_X5_hold at q; unfold w1_lp_X5_readTest_21; rcases q with q | q; exact Or.inr (Or.inr (Or.inr (Or.inr (Or.inl (q))))); exact Or.inr (Or.inr (Or.inr (Or.inr (Or.inr (Or.inr (Or.inr (Or.inl (q))))))))) (fun _ _ q => False.elim q))
                    exact f325.tr (ih _ _ _ _ h324)
                  ·
                    obtain ⟨q386, e326, h327⟩ := Option.bind_eq_some_iff.mp h317
                    have f328 : Fr v1 v2 S0 q386.2 := f316.tr (Fr.mo (fr_f_X5_isTestOver e326) (fun a k q => by refine s1 _ _ ?_; unfold w1_f_X5_isTestOver at q; unfold w1_lp_X5_readTest_21; rcases q with q | q | q | q | q; exact Or.inr (Or.inr (Or.inl (q))); exact Or.inr (Or.inr (Or.inr (Or.inr (Or.inl (q))))); exact Or.inr (Or.inr (Or.inr (Or.inr (Or.inr (Or.inr (Or.inl (q))))))); exact Or.inr (Or.inr (Or.inr (Or.inr (Or.inr (Or.inr (Or.inr (Or.inr (Or.inl (q))))))))); exact Or.inr (Or.inr (Or.inr (Or.inr (Or.inr (Or.inr (Or.inr (Or.inr (Or.inr ((q))))))))))) (fun _ _ q => False.elim q))
                    obtain ⟨z389, e329, h330⟩ := Option.bind_eq_some_iff.mp h327
                    exact fr_e2 h330 f328
def w1_f_X5_readTest (a k : Nat) : Prop := (a = 1 ∧ k = 2) ∨ (a = 1 ∧ k = 3) ∨ (a = 1 ∧ k = 4) ∨ (a = 38 ∧ k = 3) ∨ (a = 38 ∧ k = 4) ∨ (a = 38 ∧ k = 5) ∨ (a = 38 ∧ k = 6) ∨ a = 39 ∨ (a = 40 ∧ k = 2) ∨ a = 41
def w2_f_X5_readTest (a k : Nat) : Prop := False
theorem fr_f_X5_readTest {S : fS} {r : Int32 × fS} (h : f_X5_readTest S = some r) : Fr (w1_f_X5_readTest) (w2_f_X5_readTest) S r.2 := by
  unfold f_X5_readTest at h
  obtain ⟨S1, e1, h2⟩ := Option.bind_eq_some_iff.mp h
  have f3 : Fr (w1_f_X5_readTest) (w2_f_X5_readTest) S S1 := (Fr.rf (S := S)).tr (fr_pI e1 (by unfold w1_f_X5_readTest; exact Or.inr (Or.inr (Or.inr (Or.inr (Or.inl (⟨rfl, rfl⟩)))))))
  obtain ⟨S4, e4, h5⟩ := Option.bind_eq_some_iff.mp h2
  have f6 : Fr (w1_f_X5_readTest) (w2_f_X5_readTest) S S4 := f3.tr (fr_pI e4 (by unfold w1_f_X5_readTest; exact Or.inr (Or.inr (Or.inr (Or.inr (Or.inr (Or.inl (⟨rfl, rfl⟩))))))))
  obtain ⟨S7, e7, h8⟩ := Option.bind_eq_some_iff.mp h5
  have f9 : Fr (w1_f_X5_readTest) (w2_f_X5_readTest) S S7 := f6.tr (fr_pI e7 (by unfold w1_f_X5_readTest; exact Or.inr (Or.inr (Or.inr (Or.inr (Or.inr (Or.inr (Or.inl (⟨rfl, rfl⟩)))))))))
  refine f9.tr (fr_lp_X5_readTest_21 (v1 := w1_f_X5_readTest) (v2 := w2_f_X5_readTest) (fun a k q => by unfold w1_lp_X5_readTest_21 at q; unfold w1_f_X5_readTest; rcases q with q | q | q | q | q | q | q | q | q | q; exact Or.inl (q); exact Or.inr (Or.inl (q)); exact Or.inr (Or.inr (Or.inl (q))); exact Or.inr (Or.inr (Or.inr (Or.inl (q)))); exact Or.inr (Or.inr (Or.inr (Or.inr (Or.inl (q))))); exact Or.inr (Or.inr (Or.inr (Or.inr (Or.inr (Or.inl (q)))))); exact Or.inr (Or.inr (Or.inr (Or.inr (Or.inr (Or.inr (Or.inl (q))))))); exact Or.inr (Or.inr (Or.inr (Or.inr (Or.inr (Or.inr (Or.inr (Or.inl (q)))))))); exact Or.inr (Or.inr (Or.inr (Or.inr (Or.inr (Or.inr (Or.inr (Or.inr (Or.inl (q))))))))); exact Or.inr (Or.inr (Or.inr (Or.inr (Or.inr (Or.inr (Or.inr (Or.inr (Or.inr ((q))))))))))) (fun _ _ q => False.elim q) (fun S394 h10 => ?_) _ _ _ _ _ h8)
  exact fr_e2 h10 (Fr.rf (S := S394))
