def w1_f_X11_takesWord (a k : Nat) : Prop := (a = 145 ∧ k = 13)
def w2_f_X11_takesWord (a k : Nat) : Prop := False
theorem fr_f_X11_takesWord {v1 : Int64} {S : fS} {r : Int32 × fS} (h : f_X11_takesWord v1 S = some r) : Fr (w1_f_X11_takesWord) (w2_f_X11_takesWord) S r.2 := by
  unfold f_X11_takesWord at h
  obtain ⟨q1, e1, h2⟩ := Option.bind_eq_some_iff.mp h
  have f3 : Fr (w1_f_X11_takesWord) (w2_f_X11_takesWord) S q1.2 := (Fr.rf (S := S)).tr (Fr.mo (fr_f_X11_isWord e1) (fun a k q => by unfold w1_f_X11_isWord at q; unfold w1_f_X11_takesWord; exact q) (fun _ _ q => False.elim q))
  rcases fr_ite h2 with h4 | h4
  ·
    exact fr_e2 h4 f3
  ·
    obtain ⟨q5, e5, h6⟩ := Option.bind_eq_some_iff.mp h4
    have f7 : Fr (w1_f_X11_takesWord) (w2_f_X11_takesWord) S q5 := f3.tr (Fr.mo (fr_f_X11_passWord e5) (fun a k q => by unfold w1_f_X11_passWord at q; unfold w1_f_X11_takesWord; exact q) (fun _ _ q => False.elim q))
    exact fr_e2 h6 f7
def w1_f_X11_opens (a k : Nat) : Prop := (a = 145 ∧ k = 14) ∨ (a = 145 ∧ k = 18) ∨ (a = 145 ∧ k = 21) ∨ a = 154
def w2_f_X11_opens (a k : Nat) : Prop := False
theorem fr_f_X11_opens {v1 : Int32} {S : fS} {r : Int32 × fS} (h : f_X11_opens v1 S = some r) : Fr (w1_f_X11_opens) (w2_f_X11_opens) S r.2 := by
  unfold f_X11_opens at h
  rcases fr_ite h with h1 | h1
  ·
    obtain ⟨q11, e2, h3⟩ := Option.bind_eq_some_iff.mp h1
    have f4 : Fr (w1_f_X11_opens) (w2_f_X11_opens) S q11.2 := (Fr.rf (S := S)).tr (Fr.mo (fr_f_X11_fails e2) (fun a k q => by unfold w1_f_X11_fails at q; unfold w1_f_X11_opens; exact Or.inl (q)) (fun _ _ q => False.elim q))
    obtain ⟨z14, e5, h6⟩ := Option.bind_eq_some_iff.mp h3
    exact fr_e2 h6 f4
  ·
    obtain ⟨S2, e7, h8⟩ := Option.bind_eq_some_iff.mp h1
    have f9 : Fr (w1_f_X11_opens) (w2_f_X11_opens) S S2 := (Fr.rf (S := S)).tr (fr_pI e7 (by unfold w1_f_X11_opens; exact Or.inr (Or.inl (⟨rfl, rfl⟩))))
    obtain ⟨S5, e10, h11⟩ := Option.bind_eq_some_iff.mp h8
    have f12 : Fr (w1_f_X11_opens) (w2_f_X11_opens) S S5 := f9.tr (fr_sI e10 (fun k => by unfold w1_f_X11_opens; exact Or.inr (Or.inr (Or.inr ((rfl))))))
    obtain ⟨S8, e13, h14⟩ := Option.bind_eq_some_iff.mp h11
    have f15 : Fr (w1_f_X11_opens) (w2_f_X11_opens) S S8 := f12.tr (fr_pI e13 (by unfold w1_f_X11_opens; exact Or.inr (Or.inr (Or.inl (⟨rfl, rfl⟩)))))
    exact fr_e2 h14 f15
def w1_f_X11_makes (a k : Nat) : Prop := (a = 145 ∧ k = 14) ∨ (a = 145 ∧ k = 17)
def w2_f_X11_makes (a k : Nat) : Prop := False
theorem fr_f_X11_makes {v1 : Int32} {S : fS} {r : Int32 × fS} (h : f_X11_makes v1 S = some r) : Fr (w1_f_X11_makes) (w2_f_X11_makes) S r.2 := by
  unfold f_X11_makes at h
  rcases fr_ite h with h1 | h1
  ·
    obtain ⟨q5, e2, h3⟩ := Option.bind_eq_some_iff.mp h1
    have f4 : Fr (w1_f_X11_makes) (w2_f_X11_makes) S q5.2 := (Fr.rf (S := S)).tr (Fr.mo (fr_f_X11_fails e2) (fun a k q => by unfold w1_f_X11_fails at q; unfold w1_f_X11_makes; exact Or.inl (q)) (fun _ _ q => False.elim q))
    obtain ⟨z8, e5, h6⟩ := Option.bind_eq_some_iff.mp h3
    exact fr_e2 h6 f4
  ·
    obtain ⟨S2, e7, h8⟩ := Option.bind_eq_some_iff.mp h1
    have f9 : Fr (w1_f_X11_makes) (w2_f_X11_makes) S S2 := (Fr.rf (S := S)).tr (fr_pI e7 (by unfold w1_f_X11_makes; exact Or.inr ((⟨rfl, rfl⟩))))
    exact fr_e2 h8 f9
def w1_f_X11_puts (a k : Nat) : Prop := a = 147 ∨ a = 148
def w2_f_X11_puts (a k : Nat) : Prop := False
theorem fr_f_X11_puts {v1 : Int32} {v2 : Int32} {S : fS} {r : fS} (h : f_X11_puts v1 v2 S = some r) : Fr (w1_f_X11_puts) (w2_f_X11_puts) S r := by
  unfold f_X11_puts at h
  obtain ⟨a1, e1, h2⟩ := Option.bind_eq_some_iff.mp h
  obtain ⟨S4, e3, h4⟩ := Option.bind_eq_some_iff.mp h2
  have f5 : Fr (w1_f_X11_puts) (w2_f_X11_puts) S S4 := (Fr.rf (S := S)).tr (fr_sI e3 (fun k => by unfold w1_f_X11_puts; exact Or.inl (rfl)))
  obtain ⟨a7, e6, h7⟩ := Option.bind_eq_some_iff.mp h4
  obtain ⟨S10, e8, h9⟩ := Option.bind_eq_some_iff.mp h7
  have f10 : Fr (w1_f_X11_puts) (w2_f_X11_puts) S S10 := f5.tr (fr_sI e8 (fun k => by unfold w1_f_X11_puts; exact Or.inr ((rfl))))
  exact fr_e1 h9 f10
def w1_f_X11_wordHere (a k : Nat) : Prop := (a = 145 ∧ k = 13)
def w2_f_X11_wordHere (a k : Nat) : Prop := False
theorem fr_f_X11_wordHere {S : fS} {r : Int32 × fS} (h : f_X11_wordHere S = some r) : Fr (w1_f_X11_wordHere) (w2_f_X11_wordHere) S r.2 := by
  unfold f_X11_wordHere at h
  obtain ⟨q1, e1, h2⟩ := Option.bind_eq_some_iff.mp h
  have f3 : Fr (w1_f_X11_wordHere) (w2_f_X11_wordHere) S q1.2 := (Fr.rf (S := S)).tr (Fr.mo (fr_f_X11_isWord e1) (fun a k q => by unfold w1_f_X11_isWord at q; unfold w1_f_X11_wordHere; exact q) (fun _ _ q => False.elim q))
  rcases fr_ite h2 with h4 | h4
  ·
    obtain ⟨q5, e5, h6⟩ := Option.bind_eq_some_iff.mp h4
    have f7 : Fr (w1_f_X11_wordHere) (w2_f_X11_wordHere) S q5.2 := f3.tr (Fr.mo (fr_f_X11_isWord e5) (fun a k q => by unfold w1_f_X11_isWord at q; unfold w1_f_X11_wordHere; exact q) (fun _ _ q => False.elim q))
    rcases fr_ite h6 with h8 | h8
    ·
      obtain ⟨q9, e9, h10⟩ := Option.bind_eq_some_iff.mp h8
      have f11 : Fr (w1_f_X11_wordHere) (w2_f_X11_wordHere) S q9.2 := f7.tr (Fr.mo (fr_f_X11_isWord e9) (fun a k q => by unfold w1_f_X11_isWord at q; unfold w1_f_X11_wordHere; exact q) (fun _ _ q => False.elim q))
      rcases fr_ite h10 with h12 | h12
      ·
        obtain ⟨q13, e13, h14⟩ := Option.bind_eq_some_iff.mp h12
        have f15 : Fr (w1_f_X11_wordHere) (w2_f_X11_wordHere) S q13.2 := f11.tr (Fr.mo (fr_f_X11_isWord e13) (fun a k q => by unfold w1_f_X11_isWord at q; unfold w1_f_X11_wordHere; exact q) (fun _ _ q => False.elim q))
        rcases fr_ite h14 with h16 | h16
        ·
          obtain ⟨q17, e17, h18⟩ := Option.bind_eq_some_iff.mp h16
          have f19 : Fr (w1_f_X11_wordHere) (w2_f_X11_wordHere) S q17.2 := f15.tr (Fr.mo (fr_f_X11_isWord e17) (fun a k q => by unfold w1_f_X11_isWord at q; unfold w1_f_X11_wordHere; exact q) (fun _ _ q => False.elim q))
          rcases fr_ite h18 with h20 | h20
          ·
            obtain ⟨q21, e21, h22⟩ := Option.bind_eq_some_iff.mp h20
            have f23 : Fr (w1_f_X11_wordHere) (w2_f_X11_wordHere) S q21.2 := f19.tr (Fr.mo (fr_f_X11_isWord e21) (fun a k q => by unfold w1_f_X11_isWord at q; unfold w1_f_X11_wordHere; exact q) (fun _ _ q => False.elim q))
            rcases fr_ite h22 with h24 | h24
            ·
              obtain ⟨q25, e25, h26⟩ := Option.bind_eq_some_iff.mp h24
              have f27 : Fr (w1_f_X11_wordHere) (w2_f_X11_wordHere) S q25.2 := f23.tr (Fr.mo (fr_f_X11_isWord e25) (fun a k q => by unfold w1_f_X11_isWord at q; unfold w1_f_X11_wordHere; exact q) (fun _ _ q => False.elim q))
              rcases fr_ite h26 with h28 | h28
              ·
                obtain ⟨q29, e29, h30⟩ := Option.bind_eq_some_iff.mp h28
                have f31 : Fr (w1_f_X11_wordHere) (w2_f_X11_wordHere) S q29.2 := f27.tr (Fr.mo (fr_f_X11_isWord e29) (fun a k q => by unfold w1_f_X11_isWord at q; unfold w1_f_X11_wordHere; exact q) (fun _ _ q => False.elim q))
                rcases fr_ite h30 with h32 | h32
                ·
                  exact fr_e2 h32 f31
                ·
                  exact fr_e2 h32 f31
              ·
                exact fr_e2 h28 f27
            ·
              exact fr_e2 h24 f23
          ·
            exact fr_e2 h20 f19
        ·
          exact fr_e2 h16 f15
      ·
        exact fr_e2 h12 f11
    ·
      exact fr_e2 h8 f7
  ·
    exact fr_e2 h4 f3
def w1_f_X11_value (a k : Nat) : Prop := (a = 145 ∧ k = 13) ∨ (a = 145 ∧ k = 14) ∨ (a = 145 ∧ k = 15) ∨ (a = 145 ∧ k = 17) ∨ a = 147 ∨ a = 148
def w2_f_X11_value (a k : Nat) : Prop := False
theorem fr_f_X11_value {S : fS} {r : Int32 × fS} (h : f_X11_value S = some r) : Fr (w1_f_X11_value) (w2_f_X11_value) S r.2 := by
  unfold f_X11_value at h
  obtain ⟨q1, e1, h2⟩ := Option.bind_eq_some_iff.mp h
  have f3 : Fr (w1_f_X11_value) (w2_f_X11_value) S q1.2 := (Fr.rf (S := S)).tr (Fr.mo (fr_f_X11_see e1) (fun a k q => by unfold w1_f_X11_see at q; unfold w1_f_X11_value; exact Or.inl (q)) (fun _ _ q => False.elim q))
  obtain ⟨q4, e4, h5⟩ := Option.bind_eq_some_iff.mp h2
  rcases fr_ite h5 with h6 | h6
  ·
    obtain ⟨q8, e7, h8⟩ := Option.bind_eq_some_iff.mp h6
    have f9 : Fr (w1_f_X11_value) (w2_f_X11_value) S q8.2 := f3.tr (Fr.mo (fr_f_X11_wordHere e7) (fun a k q => by unfold w1_f_X11_wordHere at q; unfold w1_f_X11_value; exact Or.inl (q)) (fun _ _ q => False.elim q))
    rcases fr_ite h8 with h10 | h10
    ·
      obtain ⟨q12, e11, h12⟩ := Option.bind_eq_some_iff.mp h10
      have f13 : Fr (w1_f_X11_value) (w2_f_X11_value) S q12.2 := f9.tr (Fr.mo (fr_f_X11_makes e11) (fun a k q => by unfold w1_f_X11_makes at q; unfold w1_f_X11_value; rcases q with q | q; exact Or.inr (Or.inl (q)); exact Or.inr (Or.inr (Or.inr (Or.inl (q))))) (fun _ _ q => False.elim q))
      rcases fr_ite h12 with h14 | h14
      ·
        exact fr_e2 h14 f13
      ·
        obtain ⟨q16, e15, h16⟩ := Option.bind_eq_some_iff.mp h14
        have f17 : Fr (w1_f_X11_value) (w2_f_X11_value) S q16 := f13.tr (Fr.mo (fr_f_X11_passWord e15) (fun a k q => by unfold w1_f_X11_passWord at q; unfold w1_f_X11_value; exact Or.inl (q)) (fun _ _ q => False.elim q))
        obtain ⟨q19, e18, h19⟩ := Option.bind_eq_some_iff.mp h16
        have f20 : Fr (w1_f_X11_value) (w2_f_X11_value) S q19 := f17.tr (Fr.mo (fr_f_X11_puts e18) (fun a k q => by unfold w1_f_X11_puts at q; unfold w1_f_X11_value; rcases q with q | q; exact Or.inr (Or.inr (Or.inr (Or.inr (Or.inl (q))))); exact Or.inr (Or.inr (Or.inr (Or.inr (Or.inr ((q))))))) (fun _ _ q => False.elim q))
        exact fr_e2 h19 f20
    ·
      obtain ⟨q22, e21, h22⟩ := Option.bind_eq_some_iff.mp h10
      have f23 : Fr (w1_f_X11_value) (w2_f_X11_value) S q22.2 := f9.tr (Fr.mo (fr_f_X11_fails e21) (fun a k q => by unfold w1_f_X11_fails at q; unfold w1_f_X11_value; exact Or.inr (Or.inl (q))) (fun _ _ q => False.elim q))
      obtain ⟨z25, e24, h25⟩ := Option.bind_eq_some_iff.mp h22
      exact fr_e2 h25 f23
  ·
    obtain ⟨q30, e26, h27⟩ := Option.bind_eq_some_iff.mp h6
    have f28 : Fr (w1_f_X11_value) (w2_f_X11_value) S q30.2 := f3.tr (Fr.mo (fr_f_X11_numberHere e26) (fun a k q => by unfold w1_f_X11_numberHere at q; unfold w1_f_X11_value; rcases q with q | q | q; exact Or.inl (q); exact Or.inr (Or.inl (q)); exact Or.inr (Or.inr (Or.inl (q)))) (fun _ _ q => False.elim q))
    rcases fr_ite h27 with h29 | h29
    ·
      exact fr_e2 h29 f28
    ·
      obtain ⟨q34, e30, h31⟩ := Option.bind_eq_some_iff.mp h29
      have f32 : Fr (w1_f_X11_value) (w2_f_X11_value) S q34.2 := f28.tr (Fr.mo (fr_f_X11_makes e30) (fun a k q => by unfold w1_f_X11_makes at q; unfold w1_f_X11_value; rcases q with q | q; exact Or.inr (Or.inl (q)); exact Or.inr (Or.inr (Or.inr (Or.inl (q))))) (fun _ _ q => False.elim q))
      rcases fr_ite h31 with h33 | h33
      ·
        exact fr_e2 h33 f32
      ·
        obtain ⟨q38, e34, h35⟩ := Option.bind_eq_some_iff.mp h33
        have f36 : Fr (w1_f_X11_value) (w2_f_X11_value) S q38 := f32.tr (Fr.mo (fr_f_X11_puts e34) (fun a k q => by unfold w1_f_X11_puts at q; unfold w1_f_X11_value; rcases q with q | q; exact Or.inr (Or.inr (Or.inr (Or.inr (Or.inl (q))))); exact Or.inr (Or.inr (Or.inr (Or.inr (Or.inr ((q))))))) (fun _ _ q => False.elim q))
        exact fr_e2 h35 f36
def w1_lp_X11_term_9 (a k : Nat) : Prop := (a = 145 ∧ k = 13) ∨ (a = 145 ∧ k = 14) ∨ (a = 145 ∧ k = 15) ∨ (a = 145 ∧ k = 17) ∨ a = 147 ∨ a = 148
def w2_lp_X11_term_9 (a k : Nat) : Prop := False
theorem fr_lp_X11_term_9 {K : fS → Option (Int32 × fS)} {r : Int32 × fS} {v1 v2 : Nat → Nat → Prop} (s1 : ∀ a k, w1_lp_X11_term_9 a k → v1 a k) (s2 : ∀ a k, w2_lp_X11_term_9 a k → v2 a k) (hK : ∀ (x0 : fS), K x0 = some r → Fr v1 v2 x0 r.2) : ∀ (n : Nat) (S0 : fS), lp_X11_term_9 K n S0 = some r → Fr v1 v2 S0 r.2 := by
  intro n
  induction n with
  | zero => intro S0 h; exact mm_no h
  | succ n ih =>
    intro S0 h
    rw [lp_X11_term_9.eq_2] at h
    obtain ⟨q5, e1, h2⟩ := Option.bind_eq_some_iff.mp h
    have f3 : Fr v1 v2 S0 q5.2 := (Fr.rf (S := S0)).tr (Fr.mo (fr_f_X11_see e1) (fun a k q => by refine s1 _ _ ?_; unfold w1_f_X11_see at q; unfold w1_lp_X11_term_9; exact Or.inl (q)) (fun _ _ q => False.elim q))
    rcases fr_ite h2 with h4 | h4
    ·
      obtain ⟨a9, e5, h6⟩ := Option.bind_eq_some_iff.mp h4
      rcases fr_ite h6 with h7 | h7
      ·
        obtain ⟨S23, e8, h9⟩ := Option.bind_eq_some_iff.mp h7
        have f10 : Fr v1 v2 S0 S23 := f3.tr (fr_pI e8 (by refine s1 _ _ ?_; unfold w1_lp_X11_term_9; exact Or.inl (⟨rfl, rfl⟩)))
        obtain ⟨q26, e11, h12⟩ := Option.bind_eq_some_iff.mp h9
        have f13 : Fr v1 v2 S0 q26.2 := f10.tr (Fr.mo (fr_f_X11_value e11) (fun a k q => by refine s1 _ _ ?_; unfold w1_f_X11_value at q; unfold w1_lp_X11_term_9; rcases q with q | q | q | q | q | q; exact Or.inl (q); exact Or.inr (Or.inl (q)); exact Or.inr (Or.inr (Or.inl (q))); exact Or.inr (Or.inr (Or.inr (Or.inl (q)))); exact Or.inr (Or.inr (Or.inr (Or.inr (Or.inl (q))))); exact Or.inr (Or.inr (Or.inr (Or.inr (Or.inr ((q))))))) (fun _ _ q => False.elim q))
        rcases fr_ite h12 with h14 | h14
        ·
          exact fr_e2 h14 f13
        ·
          obtain ⟨q30, e15, h16⟩ := Option.bind_eq_some_iff.mp h14
          have f17 : Fr v1 v2 S0 q30 := f13.tr (Fr.mo (fr_f_X11_puts e15) (fun a k q => by refine s1 _ _ ?_; unfold w1_f_X11_puts at q; unfold w1_lp_X11_term_9; rcases q with q | q; exact Or.inr (Or.inr (Or.inr (Or.inr (Or.inl (q))))); exact Or.inr (Or.inr (Or.inr (Or.inr (Or.inr ((q))))))) (fun _ _ q => False.elim q))
          exact f17.tr (ih _ h16)
      ·
        obtain ⟨S13, e18, h19⟩ := Option.bind_eq_some_iff.mp h7
        have f20 : Fr v1 v2 S0 S13 := f3.tr (fr_pI e18 (by refine s1 _ _ ?_; unfold w1_lp_X11_term_9; exact Or.inl (⟨rfl, rfl⟩)))
        obtain ⟨q16, e21, h22⟩ := Option.bind_eq_some_iff.mp h19
        have f23 : Fr v1 v2 S0 q16.2 := f20.tr (Fr.mo (fr_f_X11_value e21) (fun a k q => by refine s1 _ _ ?_; unfold w1_f_X11_value at q; unfold w1_lp_X11_term_9; rcases q with q | q | q | q | q | q; exact Or.inl (q); exact Or.inr (Or.inl (q)); exact Or.inr (Or.inr (Or.inl (q))); exact Or.inr (Or.inr (Or.inr (Or.inl (q)))); exact Or.inr (Or.inr (Or.inr (Or.inr (Or.inl (q))))); exact Or.inr (Or.inr (Or.inr (Or.inr (Or.inr ((q))))))) (fun _ _ q => False.elim q))
        rcases fr_ite h22 with h24 | h24
        ·
          exact fr_e2 h24 f23
        ·
          obtain ⟨q20, e25, h26⟩ := Option.bind_eq_some_iff.mp h24
          have f27 : Fr v1 v2 S0 q20 := f23.tr (Fr.mo (fr_f_X11_puts e25) (fun a k q => by refine s1 _ _ ?_; unfold w1_f_X11_puts at q; unfold w1_lp_X11_term_9; rcases q with q | q; exact Or.inr (Or.inr (Or.inr (Or.inr (Or.inl (q))))); exact Or.inr (Or.inr (Or.inr (Or.inr (Or.inr ((q))))))) (fun _ _ q => False.elim q))
          exact f27.tr (ih _ h26)
    ·
      obtain ⟨q33, e28, h29⟩ := Option.bind_eq_some_iff.mp h4
      have f30 : Fr v1 v2 S0 q33.2 := f3.tr (Fr.mo (fr_f_X11_see e28) (fun a k q => by refine s1 _ _ ?_; unfold w1_f_X11_see at q; unfold w1_lp_X11_term_9; exact Or.inl (q)) (fun _ _ q => False.elim q))
      rcases fr_ite h29 with h31 | h31
      ·
        obtain ⟨a37, e32, h33⟩ := Option.bind_eq_some_iff.mp h31
        rcases fr_ite h33 with h34 | h34
        ·
          obtain ⟨S51, e35, h36⟩ := Option.bind_eq_some_iff.mp h34
          have f37 : Fr v1 v2 S0 S51 := f30.tr (fr_pI e35 (by refine s1 _ _ ?_; unfold w1_lp_X11_term_9; exact Or.inl (⟨rfl, rfl⟩)))
          obtain ⟨q54, e38, h39⟩ := Option.bind_eq_some_iff.mp h36
          have f40 : Fr v1 v2 S0 q54.2 := f37.tr (Fr.mo (fr_f_X11_value e38) (fun a k q => by refine s1 _ _ ?_; unfold w1_f_X11_value at q; unfold w1_lp_X11_term_9; rcases q with q | q | q | q | q | q; exact Or.inl (q); exact Or.inr (Or.inl (q)); exact Or.inr (Or.inr (Or.inl (q))); exact Or.inr (Or.inr (Or.inr (Or.inl (q)))); exact Or.inr (Or.inr (Or.inr (Or.inr (Or.inl (q))))); exact Or.inr (Or.inr (Or.inr (Or.inr (Or.inr ((q))))))) (fun _ _ q => False.elim q))
          rcases fr_ite h39 with h41 | h41
          ·
            exact fr_e2 h41 f40
          ·
            obtain ⟨q58, e42, h43⟩ := Option.bind_eq_some_iff.mp h41
            have f44 : Fr v1 v2 S0 q58 := f40.tr (Fr.mo (fr_f_X11_puts e42) (fun a k q => by refine s1 _ _ ?_; unfold w1_f_X11_puts at q; unfold w1_lp_X11_term_9; rcases q with q | q; exact Or.inr (Or.inr (Or.inr (Or.inr (Or.inl (q))))); exact Or.inr (Or.inr (Or.inr (Or.inr (Or.inr ((q))))))) (fun _ _ q => False.elim q))
            exact f44.tr (ih _ h43)
        ·
          obtain ⟨S41, e45, h46⟩ := Option.bind_eq_some_iff.mp h34
          have f47 : Fr v1 v2 S0 S41 := f30.tr (fr_pI e45 (by refine s1 _ _ ?_; unfold w1_lp_X11_term_9; exact Or.inl (⟨rfl, rfl⟩)))
          obtain ⟨q44, e48, h49⟩ := Option.bind_eq_some_iff.mp h46
          have f50 : Fr v1 v2 S0 q44.2 := f47.tr (Fr.mo (fr_f_X11_value e48) (fun a k q => by refine s1 _ _ ?_; unfold w1_f_X11_value at q; unfold w1_lp_X11_term_9; rcases q with q | q | q | q | q | q; exact Or.inl (q); exact Or.inr (Or.inl (q)); exact Or.inr (Or.inr (Or.inl (q))); exact Or.inr (Or.inr (Or.inr (Or.inl (q)))); exact Or.inr (Or.inr (Or.inr (Or.inr (Or.inl (q))))); exact Or.inr (Or.inr (Or.inr (Or.inr (Or.inr ((q))))))) (fun _ _ q => False.elim q))
          rcases fr_ite h49 with h51 | h51
          ·
            exact fr_e2 h51 f50
          ·
            obtain ⟨q48, e52, h53⟩ := Option.bind_eq_some_iff.mp h51
            have f54 : Fr v1 v2 S0 q48 := f50.tr (Fr.mo (fr_f_X11_puts e52) (fun a k q => by refine s1 _ _ ?_; unfold w1_f_X11_puts at q; unfold w1_lp_X11_term_9; rcases q with q | q; exact Or.inr (Or.inr (Or.inr (Or.inr (Or.inl (q))))); exact Or.inr (Or.inr (Or.inr (Or.inr (Or.inr ((q))))))) (fun _ _ q => False.elim q))
            exact f54.tr (ih _ h53)
      ·
        exact f30.tr (hK _ h31)
def w1_f_X11_term (a k : Nat) : Prop := (a = 145 ∧ k = 13) ∨ (a = 145 ∧ k = 14) ∨ (a = 145 ∧ k = 15) ∨ (a = 145 ∧ k = 17) ∨ a = 147 ∨ a = 148
def w2_f_X11_term (a k : Nat) : Prop := False
theorem fr_f_X11_term {S : fS} {r : Int32 × fS} (h : f_X11_term S = some r) : Fr (w1_f_X11_term) (w2_f_X11_term) S r.2 := by
  unfold f_X11_term at h
  obtain ⟨q1, e1, h2⟩ := Option.bind_eq_some_iff.mp h
  have f3 : Fr (w1_f_X11_term) (w2_f_X11_term) S q1.2 := (Fr.rf (S := S)).tr (Fr.mo (fr_f_X11_value e1) (fun a k q => by unfold w1_f_X11_value at q; unfold w1_f_X11_term; rcases q with q | q | q | q | q | q; exact Or.inl (q); exact Or.inr (Or.inl (q)); exact Or.inr (Or.inr (Or.inl (q))); exact Or.inr (Or.inr (Or.inr (Or.inl (q)))); exact Or.inr (Or.inr (Or.inr (Or.inr (Or.inl (q))))); exact Or.inr (Or.inr (Or.inr (Or.inr (Or.inr ((q))))))) (fun _ _ q => False.elim q))
  rcases fr_ite h2 with h4 | h4
  ·
    exact fr_e2 h4 f3
  ·
    refine f3.tr (fr_lp_X11_term_9 (v1 := w1_f_X11_term) (v2 := w2_f_X11_term) (fun a k q => by unfold w1_lp_X11_term_9 at q; unfold w1_f_X11_term; rcases q with q | q | q | q | q | q; exact Or.inl (q); exact Or.inr (Or.inl (q)); exact Or.inr (Or.inr (Or.inl (q))); exact Or.inr (Or.inr (Or.inr (Or.inl (q)))); exact Or.inr (Or.inr (Or.inr (Or.inr (Or.inl (q))))); exact Or.inr (Or.inr (Or.inr (Or.inr (Or.inr ((q))))))) (fun _ _ q => False.elim q) (fun S61 h5 => ?_) _ _ h4)
    exact fr_e2 h5 (Fr.rf (S := S61))
def w1_lp_X11_sum_9 (a k : Nat) : Prop := (a = 145 ∧ k = 13) ∨ (a = 145 ∧ k = 14) ∨ (a = 145 ∧ k = 15) ∨ (a = 145 ∧ k = 17) ∨ a = 147 ∨ a = 148
def w2_lp_X11_sum_9 (a k : Nat) : Prop := False
theorem fr_lp_X11_sum_9 {K : fS → Option (Int32 × fS)} {r : Int32 × fS} {v1 v2 : Nat → Nat → Prop} (s1 : ∀ a k, w1_lp_X11_sum_9 a k → v1 a k) (s2 : ∀ a k, w2_lp_X11_sum_9 a k → v2 a k) (hK : ∀ (x0 : fS), K x0 = some r → Fr v1 v2 x0 r.2) : ∀ (n : Nat) (S0 : fS), lp_X11_sum_9 K n S0 = some r → Fr v1 v2 S0 r.2 := by
  intro n
  induction n with
  | zero => intro S0 h; exact mm_no h
  | succ n ih =>
    intro S0 h
    rw [lp_X11_sum_9.eq_2] at h
    obtain ⟨q5, e1, h2⟩ := Option.bind_eq_some_iff.mp h
    have f3 : Fr v1 v2 S0 q5.2 := (Fr.rf (S := S0)).tr (Fr.mo (fr_f_X11_see e1) (fun a k q => by refine s1 _ _ ?_; unfold w1_f_X11_see at q; unfold w1_lp_X11_sum_9; exact Or.inl (q)) (fun _ _ q => False.elim q))
    rcases fr_ite h2 with h4 | h4
    ·
      obtain ⟨a9, e5, h6⟩ := Option.bind_eq_some_iff.mp h4
      rcases fr_ite h6 with h7 | h7
      ·
        obtain ⟨S23, e8, h9⟩ := Option.bind_eq_some_iff.mp h7
        have f10 : Fr v1 v2 S0 S23 := f3.tr (fr_pI e8 (by refine s1 _ _ ?_; unfold w1_lp_X11_sum_9; exact Or.inl (⟨rfl, rfl⟩)))
        obtain ⟨q26, e11, h12⟩ := Option.bind_eq_some_iff.mp h9
        have f13 : Fr v1 v2 S0 q26.2 := f10.tr (Fr.mo (fr_f_X11_term e11) (fun a k q => by refine s1 _ _ ?_; unfold w1_f_X11_term at q; unfold w1_lp_X11_sum_9; rcases q with q | q | q | q | q | q; exact Or.inl (q); exact Or.inr (Or.inl (q)); exact Or.inr (Or.inr (Or.inl (q))); exact Or.inr (Or.inr (Or.inr (Or.inl (q)))); exact Or.inr (Or.inr (Or.inr (Or.inr (Or.inl (q))))); exact Or.inr (Or.inr (Or.inr (Or.inr (Or.inr ((q))))))) (fun _ _ q => False.elim q))
        rcases fr_ite h12 with h14 | h14
        ·
          exact fr_e2 h14 f13
        ·
          obtain ⟨q30, e15, h16⟩ := Option.bind_eq_some_iff.mp h14
          have f17 : Fr v1 v2 S0 q30 := f13.tr (Fr.mo (fr_f_X11_puts e15) (fun a k q => by refine s1 _ _ ?_; unfold w1_f_X11_puts at q; unfold w1_lp_X11_sum_9; rcases q with q | q; exact Or.inr (Or.inr (Or.inr (Or.inr (Or.inl (q))))); exact Or.inr (Or.inr (Or.inr (Or.inr (Or.inr ((q))))))) (fun _ _ q => False.elim q))
          exact f17.tr (ih _ h16)
      ·
        obtain ⟨S13, e18, h19⟩ := Option.bind_eq_some_iff.mp h7
        have f20 : Fr v1 v2 S0 S13 := f3.tr (fr_pI e18 (by refine s1 _ _ ?_; unfold w1_lp_X11_sum_9; exact Or.inl (⟨rfl, rfl⟩)))
        obtain ⟨q16, e21, h22⟩ := Option.bind_eq_some_iff.mp h19
        have f23 : Fr v1 v2 S0 q16.2 := f20.tr (Fr.mo (fr_f_X11_term e21) (fun a k q => by refine s1 _ _ ?_; unfold w1_f_X11_term at q; unfold w1_lp_X11_sum_9; rcases q with q | q | q | q | q | q; exact Or.inl (q); exact Or.inr (Or.inl (q)); exact Or.inr (Or.inr (Or.inl (q))); exact Or.inr (Or.inr (Or.inr (Or.inl (q)))); exact Or.inr (Or.inr (Or.inr (Or.inr (Or.inl (q))))); exact Or.inr (Or.inr (Or.inr (Or.inr (Or.inr ((q))))))) (fun _ _ q => False.elim q))
        rcases fr_ite h22 with h24 | h24
        ·
          exact fr_e2 h24 f23
        ·
          obtain ⟨q20, e25, h26⟩ := Option.bind_eq_some_iff.mp h24
          have f27 : Fr v1 v2 S0 q20 := f23.tr (Fr.mo (fr_f_X11_puts e25) (fun a k q => by refine s1 _ _ ?_; unfold w1_f_X11_puts at q; unfold w1_lp_X11_sum_9; rcases q with q | q; exact Or.inr (Or.inr (Or.inr (Or.inr (Or.inl (q))))); exact Or.inr (Or.inr (Or.inr (Or.inr (Or.inr ((q))))))) (fun _ _ q => False.elim q))
          exact f27.tr (ih _ h26)
    ·
      obtain ⟨q33, e28, h29⟩ := Option.bind_eq_some_iff.mp h4
      have f30 : Fr v1 v2 S0 q33.2 := f3.tr (Fr.mo (fr_f_X11_see e28) (fun a k q => by refine s1 _ _ ?_; unfold w1_f_X11_see at q; unfold w1_lp_X11_sum_9; exact Or.inl (q)) (fun _ _ q => False.elim q))
      rcases fr_ite h29 with h31 | h31
      ·
        obtain ⟨a37, e32, h33⟩ := Option.bind_eq_some_iff.mp h31
        rcases fr_ite h33 with h34 | h34
        ·
          obtain ⟨S51, e35, h36⟩ := Option.bind_eq_some_iff.mp h34
          have f37 : Fr v1 v2 S0 S51 := f30.tr (fr_pI e35 (by refine s1 _ _ ?_; unfold w1_lp_X11_sum_9; exact Or.inl (⟨rfl, rfl⟩)))
          obtain ⟨q54, e38, h39⟩ := Option.bind_eq_some_iff.mp h36
          have f40 : Fr v1 v2 S0 q54.2 := f37.tr (Fr.mo (fr_f_X11_term e38) (fun a k q => by refine s1 _ _ ?_; unfold w1_f_X11_term at q; unfold w1_lp_X11_sum_9; rcases q with q | q | q | q | q | q; exact Or.inl (q); exact Or.inr (Or.inl (q)); exact Or.inr (Or.inr (Or.inl (q))); exact Or.inr (Or.inr (Or.inr (Or.inl (q)))); exact Or.inr (Or.inr (Or.inr (Or.inr (Or.inl (q))))); exact Or.inr (Or.inr (Or.inr (Or.inr (Or.inr ((q))))))) (fun _ _ q => False.elim q))
          rcases fr_ite h39 with h41 | h41
          ·
            exact fr_e2 h41 f40
          ·
            obtain ⟨q58, e42, h43⟩ := Option.bind_eq_some_iff.mp h41
            have f44 : Fr v1 v2 S0 q58 := f40.tr (Fr.mo (fr_f_X11_puts e42) (fun a k q => by refine s1 _ _ ?_; unfold w1_f_X11_puts at q; unfold w1_lp_X11_sum_9; rcases q with q | q; exact Or.inr (Or.inr (Or.inr (Or.inr (Or.inl (q))))); exact Or.inr (Or.inr (Or.inr (Or.inr (Or.inr ((q))))))) (fun _ _ q => False.elim q))
            exact f44.tr (ih _ h43)
        ·
          obtain ⟨S41, e45, h46⟩ := Option.bind_eq_some_iff.mp h34
          have f47 : Fr v1 v2 S0 S41 := f30.tr (fr_pI e45 (by refine s1 _ _ ?_; unfold w1_lp_X11_sum_9; exact Or.inl (⟨rfl, rfl⟩)))
          obtain ⟨q44, e48, h49⟩ := Option.bind_eq_some_iff.mp h46
          have f50 : Fr v1 v2 S0 q44.2 := f47.tr (Fr.mo (fr_f_X11_term e48) (fun a k q => by refine s1 _ _ ?_; unfold w1_f_X11_term at q; unfold w1_lp_X11_sum_9; rcases q with q | q | q | q | q | q; exact Or.inl (q); exact Or.inr (Or.inl (q)); exact Or.inr (Or.inr (Or.inl (q))); exact Or.inr (Or.inr (Or.inr (Or.inl (q)))); exact Or.inr (Or.inr (Or.inr (Or.inr (Or.inl (q))))); exact Or.inr (Or.inr (Or.inr (Or.inr (Or.inr ((q))))))) (fun _ _ q => False.elim q))
          rcases fr_ite h49 with h51 | h51
          ·
            exact fr_e2 h51 f50
          ·
            obtain ⟨q48, e52, h53⟩ := Option.bind_eq_some_iff.mp h51
            have f54 : Fr v1 v2 S0 q48 := f50.tr (Fr.mo (fr_f_X11_puts e52) (fun a k q => by refine s1 _ _ ?_; unfold w1_f_X11_puts at q; unfold w1_lp_X11_sum_9; rcases q with q | q; exact Or.inr (Or.inr (Or.inr (Or.inr (Or.inl (q))))); exact Or.inr (Or.inr (Or.inr (Or.inr (Or.inr ((q))))))) (fun _ _ q => False.elim q))
            exact f54.tr (ih _ h53)
      ·
        exact f30.tr (hK _ h31)
def w1_f_X11_sum (a k : Nat) : Prop := (a = 145 ∧ k = 13) ∨ (a = 145 ∧ k = 14) ∨ (a = 145 ∧ k = 15) ∨ (a = 145 ∧ k = 17) ∨ a = 147 ∨ a = 148
def w2_f_X11_sum (a k : Nat) : Prop := False
theorem fr_f_X11_sum {S : fS} {r : Int32 × fS} (h : f_X11_sum S = some r) : Fr (w1_f_X11_sum) (w2_f_X11_sum) S r.2 := by
  unfold f_X11_sum at h
  obtain ⟨q1, e1, h2⟩ := Option.bind_eq_some_iff.mp h
  have f3 : Fr (w1_f_X11_sum) (w2_f_X11_sum) S q1.2 := (Fr.rf (S := S)).tr (Fr.mo (fr_f_X11_term e1) (fun a k q => by unfold w1_f_X11_term at q; unfold w1_f_X11_sum; rcases q with q | q | q | q | q | q; exact Or.inl (q); exact Or.inr (Or.inl (q)); exact Or.inr (Or.inr (Or.inl (q))); exact Or.inr (Or.inr (Or.inr (Or.inl (q)))); exact Or.inr (Or.inr (Or.inr (Or.inr (Or.inl (q))))); exact Or.inr (Or.inr (Or.inr (Or.inr (Or.inr ((q))))))) (fun _ _ q => False.elim q))
  rcases fr_ite h2 with h4 | h4
  ·
    exact fr_e2 h4 f3
  ·
    refine f3.tr (fr_lp_X11_sum_9 (v1 := w1_f_X11_sum) (v2 := w2_f_X11_sum) (fun a k q => by unfold w1_lp_X11_sum_9 at q; unfold w1_f_X11_sum; rcases q with q | q | q | q | q | q; exact Or.inl (q); exact Or.inr (Or.inl (q)); exact Or.inr (Or.inr (Or.inl (q))); exact Or.inr (Or.inr (Or.inr (Or.inl (q)))); exact Or.inr (Or.inr (Or.inr (Or.inr (Or.inl (q))))); exact Or.inr (Or.inr (Or.inr (Or.inr (Or.inr ((q))))))) (fun _ _ q => False.elim q) (fun S61 h5 => ?_) _ _ h4)
    exact fr_e2 h5 (Fr.rf (S := S61))
def w1_j_X11_compare_152 (a k : Nat) : Prop := (a = 145 ∧ k = 13) ∨ (a = 145 ∧ k = 14) ∨ (a = 145 ∧ k = 15) ∨ (a = 145 ∧ k = 17) ∨ a = 147 ∨ a = 148
def w2_j_X11_compare_152 (a k : Nat) : Prop := False
theorem fr_j_X11_compare_152 {s0 : Int32} {S : fS} {r : Int32 × fS} (h : j_X11_compare_152 s0 S = some r) : Fr (w1_j_X11_compare_152) (w2_j_X11_compare_152) S r.2 := by
  unfold j_X11_compare_152 at h
  obtain ⟨q21, e1, h2⟩ := Option.bind_eq_some_iff.mp h
  have f3 : Fr (w1_j_X11_compare_152) (w2_j_X11_compare_152) S q21.2 := (Fr.rf (S := S)).tr (Fr.mo (fr_f_X11_sum e1) (fun a k q => by unfold w1_f_X11_sum at q; unfold w1_j_X11_compare_152; rcases q with q | q | q | q | q | q; exact Or.inl (q); exact Or.inr (Or.inl (q)); exact Or.inr (Or.inr (Or.inl (q))); exact Or.inr (Or.inr (Or.inr (Or.inl (q)))); exact Or.inr (Or.inr (Or.inr (Or.inr (Or.inl (q))))); exact Or.inr (Or.inr (Or.inr (Or.inr (Or.inr ((q))))))) (fun _ _ q => False.elim q))
  rcases fr_ite h2 with h4 | h4
  ·
    exact fr_e2 h4 f3
  ·
    obtain ⟨q25, e5, h6⟩ := Option.bind_eq_some_iff.mp h4
    have f7 : Fr (w1_j_X11_compare_152) (w2_j_X11_compare_152) S q25 := f3.tr (Fr.mo (fr_f_X11_puts e5) (fun a k q => by unfold w1_f_X11_puts at q; unfold w1_j_X11_compare_152; rcases q with q | q; exact Or.inr (Or.inr (Or.inr (Or.inr (Or.inl (q))))); exact Or.inr (Or.inr (Or.inr (Or.inr (Or.inr ((q))))))) (fun _ _ q => False.elim q))
    exact fr_e2 h6 f7
def w1_j_X11_compare_105 (a k : Nat) : Prop := (a = 145 ∧ k = 13) ∨ (a = 145 ∧ k = 14) ∨ (a = 145 ∧ k = 15) ∨ (a = 145 ∧ k = 17) ∨ a = 147 ∨ a = 148
def w2_j_X11_compare_105 (a k : Nat) : Prop := False
theorem fr_j_X11_compare_105 {p1 : Int32} {p2 : Int32} {p3 : Int32} {S : fS} {r : Int32 × fS} (h : j_X11_compare_105 p1 p2 p3 S = some r) : Fr (w1_j_X11_compare_105) (w2_j_X11_compare_105) S r.2 := by
  unfold j_X11_compare_105 at h
  obtain ⟨q14, e1, h2⟩ := Option.bind_eq_some_iff.mp h
  have f3 : Fr (w1_j_X11_compare_105) (w2_j_X11_compare_105) S q14.2 := (Fr.rf (S := S)).tr (Fr.mo (fr_f_X11_makes e1) (fun a k q => by unfold w1_f_X11_makes at q; unfold w1_j_X11_compare_105; rcases q with q | q; exact Or.inr (Or.inl (q)); exact Or.inr (Or.inr (Or.inr (Or.inl (q))))) (fun _ _ q => False.elim q))
  rcases fr_ite h2 with h4 | h4
  ·
    exact fr_e2 h4 f3
  ·
    rcases fr_ite h4 with h5 | h5
    ·
      rcases fr_ite h5 with h6 | h6
      ·
        exact f3.tr (Fr.mo (fr_j_X11_compare_152 h6) (fun a k q => by unfold w1_j_X11_compare_152 at q; unfold w1_j_X11_compare_105; rcases q with q | q | q | q | q | q; exact Or.inl (q); exact Or.inr (Or.inl (q)); exact Or.inr (Or.inr (Or.inl (q))); exact Or.inr (Or.inr (Or.inr (Or.inl (q)))); exact Or.inr (Or.inr (Or.inr (Or.inr (Or.inl (q))))); exact Or.inr (Or.inr (Or.inr (Or.inr (Or.inr ((q))))))) (fun _ _ q => False.elim q))
      ·
        exact f3.tr (Fr.mo (fr_j_X11_compare_152 h6) (fun a k q => by unfold w1_j_X11_compare_152 at q; unfold w1_j_X11_compare_105; rcases q with q | q | q | q | q | q; exact Or.inl (q); exact Or.inr (Or.inl (q)); exact Or.inr (Or.inr (Or.inl (q))); exact Or.inr (Or.inr (Or.inr (Or.inl (q)))); exact Or.inr (Or.inr (Or.inr (Or.inr (Or.inl (q))))); exact Or.inr (Or.inr (Or.inr (Or.inr (Or.inr ((q))))))) (fun _ _ q => False.elim q))
    ·
      rcases fr_ite h5 with h7 | h7
      ·
        exact f3.tr (Fr.mo (fr_j_X11_compare_152 h7) (fun a k q => by unfold w1_j_X11_compare_152 at q; unfold w1_j_X11_compare_105; rcases q with q | q | q | q | q | q; exact Or.inl (q); exact Or.inr (Or.inl (q)); exact Or.inr (Or.inr (Or.inl (q))); exact Or.inr (Or.inr (Or.inr (Or.inl (q)))); exact Or.inr (Or.inr (Or.inr (Or.inr (Or.inl (q))))); exact Or.inr (Or.inr (Or.inr (Or.inr (Or.inr ((q))))))) (fun _ _ q => False.elim q))
      ·
        rcases fr_ite h7 with h8 | h8
        ·
          exact f3.tr (Fr.mo (fr_j_X11_compare_152 h8) (fun a k q => by unfold w1_j_X11_compare_152 at q; unfold w1_j_X11_compare_105; rcases q with q | q | q | q | q | q; exact Or.inl (q); exact Or.inr (Or.inl (q)); exact Or.inr (Or.inr (Or.inl (q))); exact Or.inr (Or.inr (Or.inr (Or.inl (q)))); exact Or.inr (Or.inr (Or.inr (Or.inr (Or.inl (q))))); exact Or.inr (Or.inr (Or.inr (Or.inr (Or.inr ((q))))))) (fun _ _ q => False.elim q))
        ·
          exact f3.tr (Fr.mo (fr_j_X11_compare_152 h8) (fun a k q => by unfold w1_j_X11_compare_152 at q; unfold w1_j_X11_compare_105; rcases q with q | q | q | q | q | q; exact Or.inl (q); exact Or.inr (Or.inl (q)); exact Or.inr (Or.inr (Or.inl (q))); exact Or.inr (Or.inr (Or.inr (Or.inl (q)))); exact Or.inr (Or.inr (Or.inr (Or.inr (Or.inl (q))))); exact Or.inr (Or.inr (Or.inr (Or.inr (Or.inr ((q))))))) (fun _ _ q => False.elim q))
def w1_j_X11_compare_90 (a k : Nat) : Prop := (a = 145 ∧ k = 13) ∨ (a = 145 ∧ k = 14) ∨ (a = 145 ∧ k = 15) ∨ (a = 145 ∧ k = 17) ∨ a = 147 ∨ a = 148
def w2_j_X11_compare_90 (a k : Nat) : Prop := False
theorem fr_j_X11_compare_90 {p1 : Int32} {p2 : Int32} {s0 : Int32} {S : fS} {r : Int32 × fS} (h : j_X11_compare_90 p1 p2 s0 S = some r) : Fr (w1_j_X11_compare_90) (w2_j_X11_compare_90) S r.2 := by
  unfold j_X11_compare_90 at h
  rcases fr_ite h with h1 | h1
  ·
    exact (Fr.rf (S := S)).tr (Fr.mo (fr_j_X11_compare_105 h1) (fun a k q => by unfold w1_j_X11_compare_105 at q; unfold w1_j_X11_compare_90; rcases q with q | q | q | q | q | q; exact Or.inl (q); exact Or.inr (Or.inl (q)); exact Or.inr (Or.inr (Or.inl (q))); exact Or.inr (Or.inr (Or.inr (Or.inl (q)))); exact Or.inr (Or.inr (Or.inr (Or.inr (Or.inl (q))))); exact Or.inr (Or.inr (Or.inr (Or.inr (Or.inr ((q))))))) (fun _ _ q => False.elim q))
  ·
    obtain ⟨S29, e2, h3⟩ := Option.bind_eq_some_iff.mp h1
    have f4 : Fr (w1_j_X11_compare_90) (w2_j_X11_compare_90) S S29 := (Fr.rf (S := S)).tr (fr_pI e2 (by unfold w1_j_X11_compare_90; exact Or.inl (⟨rfl, rfl⟩)))
    exact f4.tr (Fr.mo (fr_j_X11_compare_105 h3) (fun a k q => by unfold w1_j_X11_compare_105 at q; unfold w1_j_X11_compare_90; rcases q with q | q | q | q | q | q; exact Or.inl (q); exact Or.inr (Or.inl (q)); exact Or.inr (Or.inr (Or.inl (q))); exact Or.inr (Or.inr (Or.inr (Or.inl (q)))); exact Or.inr (Or.inr (Or.inr (Or.inr (Or.inl (q))))); exact Or.inr (Or.inr (Or.inr (Or.inr (Or.inr ((q))))))) (fun _ _ q => False.elim q))
def w1_j_X11_compare_89 (a k : Nat) : Prop := (a = 145 ∧ k = 13) ∨ (a = 145 ∧ k = 14) ∨ (a = 145 ∧ k = 15) ∨ (a = 145 ∧ k = 17) ∨ a = 147 ∨ a = 148
def w2_j_X11_compare_89 (a k : Nat) : Prop := False
theorem fr_j_X11_compare_89 {p1 : Int32} {p2 : Int32} {S : fS} {r : Int32 × fS} (h : j_X11_compare_89 p1 p2 S = some r) : Fr (w1_j_X11_compare_89) (w2_j_X11_compare_89) S r.2 := by
  unfold j_X11_compare_89 at h
  exact (Fr.rf (S := S)).tr (Fr.mo (fr_j_X11_compare_90 h) (fun a k q => by unfold w1_j_X11_compare_90 at q; unfold w1_j_X11_compare_89; rcases q with q | q | q | q | q | q; exact Or.inl (q); exact Or.inr (Or.inl (q)); exact Or.inr (Or.inr (Or.inl (q))); exact Or.inr (Or.inr (Or.inr (Or.inl (q)))); exact Or.inr (Or.inr (Or.inr (Or.inr (Or.inl (q))))); exact Or.inr (Or.inr (Or.inr (Or.inr (Or.inr ((q))))))) (fun _ _ q => False.elim q))
def w1_j_X11_compare_44 (a k : Nat) : Prop := (a = 145 ∧ k = 13) ∨ (a = 145 ∧ k = 14) ∨ (a = 145 ∧ k = 15) ∨ (a = 145 ∧ k = 17) ∨ a = 147 ∨ a = 148
def w2_j_X11_compare_44 (a k : Nat) : Prop := False
theorem fr_j_X11_compare_44 {p1 : Int32} {p2 : Int32} {S : fS} {r : Int32 × fS} (h : j_X11_compare_44 p1 p2 S = some r) : Fr (w1_j_X11_compare_44) (w2_j_X11_compare_44) S r.2 := by
  unfold j_X11_compare_44 at h
  obtain ⟨S9, e1, h2⟩ := Option.bind_eq_some_iff.mp h
  have f3 : Fr (w1_j_X11_compare_44) (w2_j_X11_compare_44) S S9 := (Fr.rf (S := S)).tr (fr_pI e1 (by unfold w1_j_X11_compare_44; exact Or.inl (⟨rfl, rfl⟩)))
  rcases fr_ite h2 with h4 | h4
  ·
    exact f3.tr (Fr.mo (fr_j_X11_compare_89 h4) (fun a k q => by unfold w1_j_X11_compare_89 at q; unfold w1_j_X11_compare_44; rcases q with q | q | q | q | q | q; exact Or.inl (q); exact Or.inr (Or.inl (q)); exact Or.inr (Or.inr (Or.inl (q))); exact Or.inr (Or.inr (Or.inr (Or.inl (q)))); exact Or.inr (Or.inr (Or.inr (Or.inr (Or.inl (q))))); exact Or.inr (Or.inr (Or.inr (Or.inr (Or.inr ((q))))))) (fun _ _ q => False.elim q))
  ·
    rcases fr_ite h4 with h5 | h5
    ·
      exact f3.tr (Fr.mo (fr_j_X11_compare_89 h5) (fun a k q => by unfold w1_j_X11_compare_89 at q; unfold w1_j_X11_compare_44; rcases q with q | q | q | q | q | q; exact Or.inl (q); exact Or.inr (Or.inl (q)); exact Or.inr (Or.inr (Or.inl (q))); exact Or.inr (Or.inr (Or.inr (Or.inl (q)))); exact Or.inr (Or.inr (Or.inr (Or.inr (Or.inl (q))))); exact Or.inr (Or.inr (Or.inr (Or.inr (Or.inr ((q))))))) (fun _ _ q => False.elim q))
    ·
      obtain ⟨a33, e6, h7⟩ := Option.bind_eq_some_iff.mp h5
      rcases fr_ite h7 with h8 | h8
      ·
        exact f3.tr (Fr.mo (fr_j_X11_compare_90 h8) (fun a k q => by unfold w1_j_X11_compare_90 at q; unfold w1_j_X11_compare_44; rcases q with q | q | q | q | q | q; exact Or.inl (q); exact Or.inr (Or.inl (q)); exact Or.inr (Or.inr (Or.inl (q))); exact Or.inr (Or.inr (Or.inr (Or.inl (q)))); exact Or.inr (Or.inr (Or.inr (Or.inr (Or.inl (q))))); exact Or.inr (Or.inr (Or.inr (Or.inr (Or.inr ((q))))))) (fun _ _ q => False.elim q))
      ·
        exact f3.tr (Fr.mo (fr_j_X11_compare_89 h8) (fun a k q => by unfold w1_j_X11_compare_89 at q; unfold w1_j_X11_compare_44; rcases q with q | q | q | q | q | q; exact Or.inl (q); exact Or.inr (Or.inl (q)); exact Or.inr (Or.inr (Or.inl (q))); exact Or.inr (Or.inr (Or.inr (Or.inl (q)))); exact Or.inr (Or.inr (Or.inr (Or.inr (Or.inl (q))))); exact Or.inr (Or.inr (Or.inr (Or.inr (Or.inr ((q))))))) (fun _ _ q => False.elim q))
def w1_f_X11_compare (a k : Nat) : Prop := (a = 145 ∧ k = 13) ∨ (a = 145 ∧ k = 14) ∨ (a = 145 ∧ k = 15) ∨ (a = 145 ∧ k = 17) ∨ a = 147 ∨ a = 148
def w2_f_X11_compare (a k : Nat) : Prop := False
theorem fr_f_X11_compare {S : fS} {r : Int32 × fS} (h : f_X11_compare S = some r) : Fr (w1_f_X11_compare) (w2_f_X11_compare) S r.2 := by
  unfold f_X11_compare at h
  obtain ⟨q1, e1, h2⟩ := Option.bind_eq_some_iff.mp h
  have f3 : Fr (w1_f_X11_compare) (w2_f_X11_compare) S q1.2 := (Fr.rf (S := S)).tr (Fr.mo (fr_f_X11_sum e1) (fun a k q => by unfold w1_f_X11_sum at q; unfold w1_f_X11_compare; rcases q with q | q | q | q | q | q; exact Or.inl (q); exact Or.inr (Or.inl (q)); exact Or.inr (Or.inr (Or.inl (q))); exact Or.inr (Or.inr (Or.inr (Or.inl (q)))); exact Or.inr (Or.inr (Or.inr (Or.inr (Or.inl (q))))); exact Or.inr (Or.inr (Or.inr (Or.inr (Or.inr ((q))))))) (fun _ _ q => False.elim q))
  rcases fr_ite h2 with h4 | h4
  ·
    exact fr_e2 h4 f3
  ·
    obtain ⟨q5, e5, h6⟩ := Option.bind_eq_some_iff.mp h4
    have f7 : Fr (w1_f_X11_compare) (w2_f_X11_compare) S q5.2 := f3.tr (Fr.mo (fr_f_X11_see e5) (fun a k q => by unfold w1_f_X11_see at q; unfold w1_f_X11_compare; exact Or.inl (q)) (fun _ _ q => False.elim q))
    rcases fr_ite h6 with h8 | h8
    ·
      exact f7.tr (Fr.mo (fr_j_X11_compare_44 h8) (fun a k q => by unfold w1_j_X11_compare_44 at q; unfold w1_f_X11_compare; rcases q with q | q | q | q | q | q; exact Or.inl (q); exact Or.inr (Or.inl (q)); exact Or.inr (Or.inr (Or.inl (q))); exact Or.inr (Or.inr (Or.inr (Or.inl (q)))); exact Or.inr (Or.inr (Or.inr (Or.inr (Or.inl (q))))); exact Or.inr (Or.inr (Or.inr (Or.inr (Or.inr ((q))))))) (fun _ _ q => False.elim q))
    ·
      rcases fr_ite h8 with h9 | h9
      ·
        exact f7.tr (Fr.mo (fr_j_X11_compare_44 h9) (fun a k q => by unfold w1_j_X11_compare_44 at q; unfold w1_f_X11_compare; rcases q with q | q | q | q | q | q; exact Or.inl (q); exact Or.inr (Or.inl (q)); exact Or.inr (Or.inr (Or.inl (q))); exact Or.inr (Or.inr (Or.inr (Or.inl (q)))); exact Or.inr (Or.inr (Or.inr (Or.inr (Or.inl (q))))); exact Or.inr (Or.inr (Or.inr (Or.inr (Or.inr ((q))))))) (fun _ _ q => False.elim q))
      ·
        rcases fr_ite h9 with h10 | h10
        ·
          exact f7.tr (Fr.mo (fr_j_X11_compare_44 h10) (fun a k q => by unfold w1_j_X11_compare_44 at q; unfold w1_f_X11_compare; rcases q with q | q | q | q | q | q; exact Or.inl (q); exact Or.inr (Or.inl (q)); exact Or.inr (Or.inr (Or.inl (q))); exact Or.inr (Or.inr (Or.inr (Or.inl (q)))); exact Or.inr (Or.inr (Or.inr (Or.inr (Or.inl (q))))); exact Or.inr (Or.inr (Or.inr (Or.inr (Or.inr ((q))))))) (fun _ _ q => False.elim q))
        ·
          obtain ⟨q39, e11, h12⟩ := Option.bind_eq_some_iff.mp h10
          have f13 : Fr (w1_f_X11_compare) (w2_f_X11_compare) S q39.2 := f7.tr (Fr.mo (fr_f_X11_fails e11) (fun a k q => by unfold w1_f_X11_fails at q; unfold w1_f_X11_compare; exact Or.inr (Or.inl (q))) (fun _ _ q => False.elim q))
          obtain ⟨z42, e14, h15⟩ := Option.bind_eq_some_iff.mp h12
          exact fr_e2 h15 f13
def w1_lp_X11_fact_2 (a k : Nat) : Prop := (a = 145 ∧ k = 13) ∨ (a = 145 ∧ k = 14) ∨ (a = 145 ∧ k = 18) ∨ (a = 145 ∧ k = 21) ∨ a = 154
def w2_lp_X11_fact_2 (a k : Nat) : Prop := False
theorem fr_lp_X11_fact_2 {K : fS → Option (Int32 × fS)} {r : Int32 × fS} {v1 v2 : Nat → Nat → Prop} (s1 : ∀ a k, w1_lp_X11_fact_2 a k → v1 a k) (s2 : ∀ a k, w2_lp_X11_fact_2 a k → v2 a k) (hK : ∀ (x0 : fS), K x0 = some r → Fr v1 v2 x0 r.2) : ∀ (n : Nat) (p1 : Int32) (S0 : fS), lp_X11_fact_2 K n p1 S0 = some r → Fr v1 v2 S0 r.2 := by
  intro n
  induction n with
  | zero => intro p1 S0 h; exact mm_no h
  | succ n ih =>
    intro p1 S0 h
    rw [lp_X11_fact_2.eq_2] at h
    rcases fr_ite h with h1 | h1
    ·
      exact (Fr.rf (S := S0)).tr (hK _ h1)
    ·
      obtain ⟨q2, e2, h3⟩ := Option.bind_eq_some_iff.mp h1
      have f4 : Fr v1 v2 S0 q2.2 := (Fr.rf (S := S0)).tr (Fr.mo (fr_f_X11_see e2) (fun a k q => by refine s1 _ _ ?_; unfold w1_f_X11_see at q; unfold w1_lp_X11_fact_2; exact Or.inl (q)) (fun _ _ q => False.elim q))
      obtain ⟨q5, e5, h6⟩ := Option.bind_eq_some_iff.mp h3
      have f7 : Fr v1 v2 S0 q5.2 := f4.tr (Fr.mo (fr_f_X11_isWord e5) (fun a k q => by refine s1 _ _ ?_; unfold w1_f_X11_isWord at q; unfold w1_lp_X11_fact_2; exact Or.inl (q)) (fun _ _ q => False.elim q))
      rcases fr_ite h6 with h8 | h8
      ·
        rcases fr_ite h8 with h9 | h9
        ·
          obtain ⟨q10, e10, h11⟩ := Option.bind_eq_some_iff.mp h9
          have f12 : Fr v1 v2 S0 q10.2 := f7.tr (Fr.mo (fr_f_X11_opens e10) (fun a k q => by refine s1 _ _ ?_; unfold w1_f_X11_opens at q; unfold w1_lp_X11_fact_2; rcases q with q | q | q | q; exact Or.inr (Or.inl (q)); exact Or.inr (Or.inr (Or.inl (q))); exact Or.inr (Or.inr (Or.inr (Or.inl (q)))); exact Or.inr (Or.inr (Or.inr (Or.inr ((q)))))) (fun _ _ q => False.elim q))
          rcases fr_ite h11 with h13 | h13
          ·
            exact fr_e2 h13 f12
          ·
            obtain ⟨S14, e14, h15⟩ := Option.bind_eq_some_iff.mp h13
            have f16 : Fr v1 v2 S0 S14 := f12.tr (fr_pI e14 (by refine s1 _ _ ?_; unfold w1_lp_X11_fact_2; exact Or.inl (⟨rfl, rfl⟩)))
            exact f16.tr (ih _ _ h15)
        ·
          exact f7.tr (ih _ _ h9)
      ·
        obtain ⟨q17, e17, h18⟩ := Option.bind_eq_some_iff.mp h8
        have f19 : Fr v1 v2 S0 q17.2 := f7.tr (Fr.mo (fr_f_X11_opens e17) (fun a k q => by refine s1 _ _ ?_; unfold w1_f_X11_opens at q; unfold w1_lp_X11_fact_2; rcases q with q | q | q | q; exact Or.inr (Or.inl (q)); exact Or.inr (Or.inr (Or.inl (q))); exact Or.inr (Or.inr (Or.inr (Or.inl (q)))); exact Or.inr (Or.inr (Or.inr (Or.inr ((q)))))) (fun _ _ q => False.elim q))
        rcases fr_ite h18 with h20 | h20
        ·
          exact fr_e2 h20 f19
        ·
          obtain ⟨q21, e21, h22⟩ := Option.bind_eq_some_iff.mp h20
          have f23 : Fr v1 v2 S0 q21 := f19.tr (Fr.mo (fr_f_X11_passWord e21) (fun a k q => by refine s1 _ _ ?_; unfold w1_f_X11_passWord at q; unfold w1_lp_X11_fact_2; exact Or.inl (q)) (fun _ _ q => False.elim q))
          exact f23.tr (ih _ _ h22)
def w1_f_X11_fact (a k : Nat) : Prop := (a = 145 ∧ k = 13) ∨ (a = 145 ∧ k = 14) ∨ (a = 145 ∧ k = 15) ∨ (a = 145 ∧ k = 17) ∨ (a = 145 ∧ k = 18) ∨ (a = 145 ∧ k = 21) ∨ a = 147 ∨ a = 148 ∨ a = 154
def w2_f_X11_fact (a k : Nat) : Prop := False
theorem fr_f_X11_fact {S : fS} {r : Int32 × fS} (h : f_X11_fact S = some r) : Fr (w1_f_X11_fact) (w2_f_X11_fact) S r.2 := by
  unfold f_X11_fact at h
  refine (Fr.rf (S := S)).tr (fr_lp_X11_fact_2 (v1 := w1_f_X11_fact) (v2 := w2_f_X11_fact) (fun a k q => by unfold w1_lp_X11_fact_2 at q; unfold w1_f_X11_fact; rcases q with q | q | q | q | q; exact Or.inl (q); exact Or.inr (Or.inl (q)); exact Or.inr (Or.inr (Or.inr (Or.inr (Or.inl (q))))); exact Or.inr (Or.inr (Or.inr (Or.inr (Or.inr (Or.inl (q)))))); exact Or.inr (Or.inr (Or.inr (Or.inr (Or.inr (Or.inr (Or.inr (Or.inr ((q)))))))))) (fun _ _ q => False.elim q) (fun S24 h1 => ?_) _ _ _ h)
  obtain ⟨q26, e2, h3⟩ := Option.bind_eq_some_iff.mp h1
  have f4 : Fr (w1_f_X11_fact) (w2_f_X11_fact) S24 q26.2 := (Fr.rf (S := S24)).tr (Fr.mo (fr_f_X11_compare e2) (fun a k q => by unfold w1_f_X11_compare at q; unfold w1_f_X11_fact; rcases q with q | q | q | q | q | q; exact Or.inl (q); exact Or.inr (Or.inl (q)); exact Or.inr (Or.inr (Or.inl (q))); exact Or.inr (Or.inr (Or.inr (Or.inl (q)))); exact Or.inr (Or.inr (Or.inr (Or.inr (Or.inr (Or.inr (Or.inl (q))))))); exact Or.inr (Or.inr (Or.inr (Or.inr (Or.inr (Or.inr (Or.inr (Or.inl (q))))))))) (fun _ _ q => False.elim q))
  obtain ⟨z29, e5, h6⟩ := Option.bind_eq_some_iff.mp h3
  exact fr_e2 h6 f4
def w1_lp_X11_settles_0 (a k : Nat) : Prop := (a = 145 ∧ k = 18) ∨ (a = 145 ∧ k = 21) ∨ a = 147 ∨ a = 148
def w2_lp_X11_settles_0 (a k : Nat) : Prop := False
theorem fr_lp_X11_settles_0 {p1 : Int32} {K : fS → Option (fS)} {r : fS} {v1 v2 : Nat → Nat → Prop} (s1 : ∀ a k, w1_lp_X11_settles_0 a k → v1 a k) (s2 : ∀ a k, w2_lp_X11_settles_0 a k → v2 a k) (hK : ∀ (x0 : fS), K x0 = some r → Fr v1 v2 x0 r) : ∀ (n : Nat) (S0 : fS), lp_X11_settles_0 p1 K n S0 = some r → Fr v1 v2 S0 r := by
  intro n
  induction n with
  | zero => intro S0 h; exact mm_no h
  | succ n ih =>
    intro S0 h
    rw [lp_X11_settles_0.eq_2] at h
    rcases fr_ite h with h1 | h1
    ·
      exact (Fr.rf (S := S0)).tr (hK _ h1)
    ·
      obtain ⟨a2, e2, h3⟩ := Option.bind_eq_some_iff.mp h1
      obtain ⟨q5, e4, h5⟩ := Option.bind_eq_some_iff.mp h3
      rcases fr_ite h5 with h6 | h6
      ·
        exact (Fr.rf (S := S0)).tr (hK _ h6)
      ·
        obtain ⟨S9, e7, h8⟩ := Option.bind_eq_some_iff.mp h6
        have f9 : Fr v1 v2 S0 S9 := (Fr.rf (S := S0)).tr (fr_pI e7 (by refine s1 _ _ ?_; unfold w1_lp_X11_settles_0; exact Or.inr (Or.inl (⟨rfl, rfl⟩))))
        obtain ⟨a12, e10, h11⟩ := Option.bind_eq_some_iff.mp h8
        obtain ⟨q15, e12, h13⟩ := Option.bind_eq_some_iff.mp h11
        have f14 : Fr v1 v2 S0 q15 := f9.tr (Fr.mo (fr_f_X11_puts e12) (fun a k q => by refine s1 _ _ ?_; unfold w1_f_X11_puts at q; unfold w1_lp_X11_settles_0; rcases q with q | q; exact Or.inr (Or.inr (Or.inl (q))); exact Or.inr (Or.inr (Or.inr ((q))))) (fun _ _ q => False.elim q))
        obtain ⟨a18, e15, h16⟩ := Option.bind_eq_some_iff.mp h13
        rcases fr_ite h16 with h17 | h17
        ·
          obtain ⟨S22, e18, h19⟩ := Option.bind_eq_some_iff.mp h17
          have f20 : Fr v1 v2 S0 S22 := f14.tr (fr_pI e18 (by refine s1 _ _ ?_; unfold w1_lp_X11_settles_0; exact Or.inl (⟨rfl, rfl⟩)))
          exact f20.tr (ih _ h19)
        ·
          exact f14.tr (ih _ h17)
def w1_f_X11_settles (a k : Nat) : Prop := (a = 145 ∧ k = 18) ∨ (a = 145 ∧ k = 21) ∨ a = 147 ∨ a = 148
def w2_f_X11_settles (a k : Nat) : Prop := False
theorem fr_f_X11_settles {v1 : Int32} {S : fS} {r : fS} (h : f_X11_settles v1 S = some r) : Fr (w1_f_X11_settles) (w2_f_X11_settles) S r := by
  unfold f_X11_settles at h
  refine (Fr.rf (S := S)).tr (fr_lp_X11_settles_0 (v1 := w1_f_X11_settles) (v2 := w2_f_X11_settles) (fun a k q => by unfold w1_lp_X11_settles_0 at q; unfold w1_f_X11_settles; rcases q with q | q | q | q; exact Or.inl (q); exact Or.inr (Or.inl (q)); exact Or.inr (Or.inr (Or.inl (q))); exact Or.inr (Or.inr (Or.inr ((q))))) (fun _ _ q => False.elim q) (fun S25 h1 => ?_) _ _ h)
  exact fr_e1 h1 (Fr.rf (S := S25))
def w1_lp_X11_closes_5 (a k : Nat) : Prop := (a = 145 ∧ k = 13) ∨ (a = 145 ∧ k = 18) ∨ (a = 145 ∧ k = 21) ∨ a = 147 ∨ a = 148
def w2_lp_X11_closes_5 (a k : Nat) : Prop := False
theorem fr_lp_X11_closes_5 {K : fS → Option (fS)} {r : fS} {v1 v2 : Nat → Nat → Prop} (s1 : ∀ a k, w1_lp_X11_closes_5 a k → v1 a k) (s2 : ∀ a k, w2_lp_X11_closes_5 a k → v2 a k) (hK : ∀ (x0 : fS), K x0 = some r → Fr v1 v2 x0 r) : ∀ (n : Nat) (S0 : fS), lp_X11_closes_5 K n S0 = some r → Fr v1 v2 S0 r := by
  intro n
  induction n with
  | zero => intro S0 h; exact mm_no h
  | succ n ih =>
    intro S0 h
    rw [lp_X11_closes_5.eq_2] at h
    obtain ⟨q4, e1, h2⟩ := Option.bind_eq_some_iff.mp h
    have f3 : Fr v1 v2 S0 q4.2 := (Fr.rf (S := S0)).tr (Fr.mo (fr_f_X11_see e1) (fun a k q => by refine s1 _ _ ?_; unfold w1_f_X11_see at q; unfold w1_lp_X11_closes_5; exact Or.inl (q)) (fun _ _ q => False.elim q))
    rcases fr_ite h2 with h4 | h4
    ·
      obtain ⟨q8, e5, h6⟩ := Option.bind_eq_some_iff.mp h4
      rcases fr_ite h6 with h7 | h7
      ·
        exact f3.tr (hK _ h7)
      ·
        obtain ⟨q12, e8, h9⟩ := Option.bind_eq_some_iff.mp h7
        have f10 : Fr v1 v2 S0 q12 := f3.tr (Fr.mo (fr_f_X11_settles e8) (fun a k q => by refine s1 _ _ ?_; unfold w1_f_X11_settles at q; unfold w1_lp_X11_closes_5; rcases q with q | q | q | q; exact Or.inr (Or.inl (q)); exact Or.inr (Or.inr (Or.inl (q))); exact Or.inr (Or.inr (Or.inr (Or.inl (q)))); exact Or.inr (Or.inr (Or.inr (Or.inr ((q)))))) (fun _ _ q => False.elim q))
        obtain ⟨S15, e11, h12⟩ := Option.bind_eq_some_iff.mp h9
        have f13 : Fr v1 v2 S0 S15 := f10.tr (fr_pI e11 (by refine s1 _ _ ?_; unfold w1_lp_X11_closes_5; exact Or.inr (Or.inr (Or.inl (⟨rfl, rfl⟩)))))
        obtain ⟨S18, e14, h15⟩ := Option.bind_eq_some_iff.mp h12
        have f16 : Fr v1 v2 S0 S18 := f13.tr (fr_pI e14 (by refine s1 _ _ ?_; unfold w1_lp_X11_closes_5; exact Or.inr (Or.inl (⟨rfl, rfl⟩))))
        obtain ⟨S21, e17, h18⟩ := Option.bind_eq_some_iff.mp h15
        have f19 : Fr v1 v2 S0 S21 := f16.tr (fr_pI e17 (by refine s1 _ _ ?_; unfold w1_lp_X11_closes_5; exact Or.inl (⟨rfl, rfl⟩)))
        obtain ⟨q24, e20, h21⟩ := Option.bind_eq_some_iff.mp h18
        have f22 : Fr v1 v2 S0 q24 := f19.tr (Fr.mo (fr_f_X11_settles e20) (fun a k q => by refine s1 _ _ ?_; unfold w1_f_X11_settles at q; unfold w1_lp_X11_closes_5; rcases q with q | q | q | q; exact Or.inr (Or.inl (q)); exact Or.inr (Or.inr (Or.inl (q))); exact Or.inr (Or.inr (Or.inr (Or.inl (q)))); exact Or.inr (Or.inr (Or.inr (Or.inr ((q)))))) (fun _ _ q => False.elim q))
        exact f22.tr (ih _ h21)
    ·
      exact f3.tr (hK _ h4)
def w1_f_X11_closes (a k : Nat) : Prop := (a = 145 ∧ k = 13) ∨ (a = 145 ∧ k = 18) ∨ (a = 145 ∧ k = 21) ∨ a = 147 ∨ a = 148
def w2_f_X11_closes (a k : Nat) : Prop := False
theorem fr_f_X11_closes {S : fS} {r : fS} (h : f_X11_closes S = some r) : Fr (w1_f_X11_closes) (w2_f_X11_closes) S r := by
  unfold f_X11_closes at h
  obtain ⟨q1, e1, h2⟩ := Option.bind_eq_some_iff.mp h
  have f3 : Fr (w1_f_X11_closes) (w2_f_X11_closes) S q1 := (Fr.rf (S := S)).tr (Fr.mo (fr_f_X11_settles e1) (fun a k q => by unfold w1_f_X11_settles at q; unfold w1_f_X11_closes; rcases q with q | q | q | q; exact Or.inr (Or.inl (q)); exact Or.inr (Or.inr (Or.inl (q))); exact Or.inr (Or.inr (Or.inr (Or.inl (q)))); exact Or.inr (Or.inr (Or.inr (Or.inr ((q)))))) (fun _ _ q => False.elim q))
  refine f3.tr (fr_lp_X11_closes_5 (v1 := w1_f_X11_closes) (v2 := w2_f_X11_closes) (fun a k q => by unfold w1_lp_X11_closes_5 at q; unfold w1_f_X11_closes; rcases q with q | q | q | q | q; exact Or.inl (q); exact Or.inr (Or.inl (q)); exact Or.inr (Or.inr (Or.inl (q))); exact Or.inr (Or.inr (Or.inr (Or.inl (q)))); exact Or.inr (Or.inr (Or.inr (Or.inr ((q)))))) (fun _ _ q => False.elim q) (fun S27 h4 => ?_) _ _ h2)
  exact fr_e1 h4 (Fr.rf (S := S27))
def w1_lp_X11_tested_12 (a k : Nat) : Prop := (a = 145 ∧ k = 13) ∨ (a = 145 ∧ k = 14) ∨ (a = 145 ∧ k = 15) ∨ (a = 145 ∧ k = 17) ∨ (a = 145 ∧ k = 18) ∨ (a = 145 ∧ k = 21) ∨ a = 147 ∨ a = 148 ∨ a = 154
def w2_lp_X11_tested_12 (a k : Nat) : Prop := False
theorem fr_lp_X11_tested_12 {K : fS → Option (Int32 × fS)} {r : Int32 × fS} {v1 v2 : Nat → Nat → Prop} (s1 : ∀ a k, w1_lp_X11_tested_12 a k → v1 a k) (s2 : ∀ a k, w2_lp_X11_tested_12 a k → v2 a k) (hK : ∀ (x0 : fS), K x0 = some r → Fr v1 v2 x0 r.2) : ∀ (n : Nat) (p1 : Int32) (S0 : fS), lp_X11_tested_12 K n p1 S0 = some r → Fr v1 v2 S0 r.2 := by
  intro n
  induction n with
  | zero => intro p1 S0 h; exact mm_no h
  | succ n ih =>
    intro p1 S0 h
    rw [lp_X11_tested_12.eq_2] at h
    rcases fr_ite h with h1 | h1
    ·
      exact (Fr.rf (S := S0)).tr (hK _ h1)
    ·
      obtain ⟨q8, e2, h3⟩ := Option.bind_eq_some_iff.mp h1
      have f4 : Fr v1 v2 S0 q8.2 := (Fr.rf (S := S0)).tr (Fr.mo (fr_f_X11_fact e2) (fun a k q => by refine s1 _ _ ?_; unfold w1_f_X11_fact at q; unfold w1_lp_X11_tested_12; rcases q with q | q | q | q | q | q | q | q | q; exact Or.inl (q); exact Or.inr (Or.inl (q)); exact Or.inr (Or.inr (Or.inl (q))); exact Or.inr (Or.inr (Or.inr (Or.inl (q)))); exact Or.inr (Or.inr (Or.inr (Or.inr (Or.inl (q))))); exact Or.inr (Or.inr (Or.inr (Or.inr (Or.inr (Or.inl (q)))))); exact Or.inr (Or.inr (Or.inr (Or.inr (Or.inr (Or.inr (Or.inl (q))))))); exact Or.inr (Or.inr (Or.inr (Or.inr (Or.inr (Or.inr (Or.inr (Or.inl (q)))))))); exact Or.inr (Or.inr (Or.inr (Or.inr (Or.inr (Or.inr (Or.inr (Or.inr ((q)))))))))) (fun _ _ q => False.elim q))
      rcases fr_ite h3 with h5 | h5
      ·
        exact fr_e2 h5 f4
      ·
        obtain ⟨q12, e6, h7⟩ := Option.bind_eq_some_iff.mp h5
        have f8 : Fr v1 v2 S0 q12 := f4.tr (Fr.mo (fr_f_X11_closes e6) (fun a k q => by refine s1 _ _ ?_; unfold w1_f_X11_closes at q; unfold w1_lp_X11_tested_12; rcases q with q | q | q | q | q; exact Or.inl (q); exact Or.inr (Or.inr (Or.inr (Or.inr (Or.inl (q))))); exact Or.inr (Or.inr (Or.inr (Or.inr (Or.inr (Or.inl (q)))))); exact Or.inr (Or.inr (Or.inr (Or.inr (Or.inr (Or.inr (Or.inl (q))))))); exact Or.inr (Or.inr (Or.inr (Or.inr (Or.inr (Or.inr (Or.inr (Or.inl (q))))))))) (fun _ _ q => False.elim q))
        obtain ⟨q15, e9, h10⟩ := Option.bind_eq_some_iff.mp h7
        have f11 : Fr v1 v2 S0 q15.2 := f8.tr (Fr.mo (fr_f_X11_isWord e9) (fun a k q => by refine s1 _ _ ?_; unfold w1_f_X11_isWord at q; unfold w1_lp_X11_tested_12; exact Or.inl (q)) (fun _ _ q => False.elim q))
        rcases fr_ite h10 with h12 | h12
        ·
          obtain ⟨q54, e13, h14⟩ := Option.bind_eq_some_iff.mp h12
          have f15 : Fr v1 v2 S0 q54.2 := f11.tr (Fr.mo (fr_f_X11_isWord e13) (fun a k q => by refine s1 _ _ ?_; unfold w1_f_X11_isWord at q; unfold w1_lp_X11_tested_12; exact Or.inl (q)) (fun _ _ q => False.elim q))
          rcases fr_ite h14 with h16 | h16
          ·
            rcases fr_ite h16 with h17 | h17
            ·
              exact f15.tr (ih _ _ h17)
            ·
              obtain ⟨q59, e18, h19⟩ := Option.bind_eq_some_iff.mp h17
              have f20 : Fr v1 v2 S0 q59.2 := f15.tr (Fr.mo (fr_f_X11_isWord e18) (fun a k q => by refine s1 _ _ ?_; unfold w1_f_X11_isWord at q; unfold w1_lp_X11_tested_12; exact Or.inl (q)) (fun _ _ q => False.elim q))
              rcases fr_ite h19 with h21 | h21
              ·
                obtain ⟨q63, e22, h23⟩ := Option.bind_eq_some_iff.mp h21
                have f24 : Fr v1 v2 S0 q63 := f20.tr (Fr.mo (fr_f_X11_passWord e22) (fun a k q => by refine s1 _ _ ?_; unfold w1_f_X11_passWord at q; unfold w1_lp_X11_tested_12; exact Or.inl (q)) (fun _ _ q => False.elim q))
                obtain ⟨q66, e25, h26⟩ := Option.bind_eq_some_iff.mp h23
                obtain ⟨q69, e27, h28⟩ := Option.bind_eq_some_iff.mp h26
                have f29 : Fr v1 v2 S0 q69 := f24.tr (Fr.mo (fr_f_X11_settles e27) (fun a k q => by refine s1 _ _ ?_; unfold w1_f_X11_settles at q; unfold w1_lp_X11_tested_12; rcases q with q | q | q | q; exact Or.inr (Or.inr (Or.inr (Or.inr (Or.inl (q))))); exact Or.inr (Or.inr (Or.inr (Or.inr (Or.inr (Or.inl (q)))))); exact Or.inr (Or.inr (Or.inr (Or.inr (Or.inr (Or.inr (Or.inl (q))))))); exact Or.inr (Or.inr (Or.inr (Or.inr (Or.inr (Or.inr (Or.inr (Or.inl (q))))))))) (fun _ _ q => False.elim q))
                obtain ⟨S72, e30, h31⟩ := Option.bind_eq_some_iff.mp h28
                have f32 : Fr v1 v2 S0 S72 := f29.tr (fr_sI e30 (fun k => by refine s1 _ _ ?_; unfold w1_lp_X11_tested_12; exact Or.inr (Or.inr (Or.inr (Or.inr (Or.inr (Or.inr (Or.inr (Or.inr ((rfl)))))))))))
                obtain ⟨S75, e33, h34⟩ := Option.bind_eq_some_iff.mp h31
                have f35 : Fr v1 v2 S0 S75 := f32.tr (fr_pI e33 (by refine s1 _ _ ?_; unfold w1_lp_X11_tested_12; exact Or.inr (Or.inr (Or.inr (Or.inr (Or.inr (Or.inl (⟨rfl, rfl⟩))))))))
                exact f35.tr (ih _ _ h34)
              ·
                obtain ⟨q78, e36, h37⟩ := Option.bind_eq_some_iff.mp h21
                have f38 : Fr v1 v2 S0 q78 := f20.tr (Fr.mo (fr_f_X11_passWord e36) (fun a k q => by refine s1 _ _ ?_; unfold w1_f_X11_passWord at q; unfold w1_lp_X11_tested_12; exact Or.inl (q)) (fun _ _ q => False.elim q))
                obtain ⟨q81, e39, h40⟩ := Option.bind_eq_some_iff.mp h37
                obtain ⟨q84, e41, h42⟩ := Option.bind_eq_some_iff.mp h40
                have f43 : Fr v1 v2 S0 q84 := f38.tr (Fr.mo (fr_f_X11_settles e41) (fun a k q => by refine s1 _ _ ?_; unfold w1_f_X11_settles at q; unfold w1_lp_X11_tested_12; rcases q with q | q | q | q; exact Or.inr (Or.inr (Or.inr (Or.inr (Or.inl (q))))); exact Or.inr (Or.inr (Or.inr (Or.inr (Or.inr (Or.inl (q)))))); exact Or.inr (Or.inr (Or.inr (Or.inr (Or.inr (Or.inr (Or.inl (q))))))); exact Or.inr (Or.inr (Or.inr (Or.inr (Or.inr (Or.inr (Or.inr (Or.inl (q))))))))) (fun _ _ q => False.elim q))
                obtain ⟨S87, e44, h45⟩ := Option.bind_eq_some_iff.mp h42
                have f46 : Fr v1 v2 S0 S87 := f43.tr (fr_sI e44 (fun k => by refine s1 _ _ ?_; unfold w1_lp_X11_tested_12; exact Or.inr (Or.inr (Or.inr (Or.inr (Or.inr (Or.inr (Or.inr (Or.inr ((rfl)))))))))))
                obtain ⟨S90, e47, h48⟩ := Option.bind_eq_some_iff.mp h45
                have f49 : Fr v1 v2 S0 S90 := f46.tr (fr_pI e47 (by refine s1 _ _ ?_; unfold w1_lp_X11_tested_12; exact Or.inr (Or.inr (Or.inr (Or.inr (Or.inr (Or.inl (⟨rfl, rfl⟩))))))))
                exact f49.tr (ih _ _ h48)
          ·
            rcases fr_ite h16 with h50 | h50
            ·
              exact f15.tr (ih _ _ h50)
            ·
              obtain ⟨q94, e51, h52⟩ := Option.bind_eq_some_iff.mp h50
              have f53 : Fr v1 v2 S0 q94.2 := f15.tr (Fr.mo (fr_f_X11_isWord e51) (fun a k q => by refine s1 _ _ ?_; unfold w1_f_X11_isWord at q; unfold w1_lp_X11_tested_12; exact Or.inl (q)) (fun _ _ q => False.elim q))
              rcases fr_ite h52 with h54 | h54
              ·
                obtain ⟨q98, e55, h56⟩ := Option.bind_eq_some_iff.mp h54
                have f57 : Fr v1 v2 S0 q98 := f53.tr (Fr.mo (fr_f_X11_passWord e55) (fun a k q => by refine s1 _ _ ?_; unfold w1_f_X11_passWord at q; unfold w1_lp_X11_tested_12; exact Or.inl (q)) (fun _ _ q => False.elim q))
                obtain ⟨q101, e58, h59⟩ := Option.bind_eq_some_iff.mp h56
                obtain ⟨q104, e60, h61⟩ := Option.bind_eq_some_iff.mp h59
                have f62 : Fr v1 v2 S0 q104 := f57.tr (Fr.mo (fr_f_X11_settles e60) (fun a k q => by refine s1 _ _ ?_; unfold w1_f_X11_settles at q; unfold w1_lp_X11_tested_12; rcases q with q | q | q | q; exact Or.inr (Or.inr (Or.inr (Or.inr (Or.inl (q))))); exact Or.inr (Or.inr (Or.inr (Or.inr (Or.inr (Or.inl (q)))))); exact Or.inr (Or.inr (Or.inr (Or.inr (Or.inr (Or.inr (Or.inl (q))))))); exact Or.inr (Or.inr (Or.inr (Or.inr (Or.inr (Or.inr (Or.inr (Or.inl (q))))))))) (fun _ _ q => False.elim q))
                obtain ⟨S107, e63, h64⟩ := Option.bind_eq_some_iff.mp h61
                have f65 : Fr v1 v2 S0 S107 := f62.tr (fr_sI e63 (fun k => by refine s1 _ _ ?_; unfold w1_lp_X11_tested_12; exact Or.inr (Or.inr (Or.inr (Or.inr (Or.inr (Or.inr (Or.inr (Or.inr ((rfl)))))))))))
                obtain ⟨S110, e66, h67⟩ := Option.bind_eq_some_iff.mp h64
                have f68 : Fr v1 v2 S0 S110 := f65.tr (fr_pI e66 (by refine s1 _ _ ?_; unfold w1_lp_X11_tested_12; exact Or.inr (Or.inr (Or.inr (Or.inr (Or.inr (Or.inl (⟨rfl, rfl⟩))))))))
                exact f68.tr (ih _ _ h67)
              ·
                obtain ⟨q113, e69, h70⟩ := Option.bind_eq_some_iff.mp h54
                have f71 : Fr v1 v2 S0 q113 := f53.tr (Fr.mo (fr_f_X11_passWord e69) (fun a k q => by refine s1 _ _ ?_; unfold w1_f_X11_passWord at q; unfold w1_lp_X11_tested_12; exact Or.inl (q)) (fun _ _ q => False.elim q))
                obtain ⟨q116, e72, h73⟩ := Option.bind_eq_some_iff.mp h70
                obtain ⟨q119, e74, h75⟩ := Option.bind_eq_some_iff.mp h73
                have f76 : Fr v1 v2 S0 q119 := f71.tr (Fr.mo (fr_f_X11_settles e74) (fun a k q => by refine s1 _ _ ?_; unfold w1_f_X11_settles at q; unfold w1_lp_X11_tested_12; rcases q with q | q | q | q; exact Or.inr (Or.inr (Or.inr (Or.inr (Or.inl (q))))); exact Or.inr (Or.inr (Or.inr (Or.inr (Or.inr (Or.inl (q)))))); exact Or.inr (Or.inr (Or.inr (Or.inr (Or.inr (Or.inr (Or.inl (q))))))); exact Or.inr (Or.inr (Or.inr (Or.inr (Or.inr (Or.inr (Or.inr (Or.inl (q))))))))) (fun _ _ q => False.elim q))
                obtain ⟨S122, e77, h78⟩ := Option.bind_eq_some_iff.mp h75
                have f79 : Fr v1 v2 S0 S122 := f76.tr (fr_sI e77 (fun k => by refine s1 _ _ ?_; unfold w1_lp_X11_tested_12; exact Or.inr (Or.inr (Or.inr (Or.inr (Or.inr (Or.inr (Or.inr (Or.inr ((rfl)))))))))))
                obtain ⟨S125, e80, h81⟩ := Option.bind_eq_some_iff.mp h78
                have f82 : Fr v1 v2 S0 S125 := f79.tr (fr_pI e80 (by refine s1 _ _ ?_; unfold w1_lp_X11_tested_12; exact Or.inr (Or.inr (Or.inr (Or.inr (Or.inr (Or.inl (⟨rfl, rfl⟩))))))))
                exact f82.tr (ih _ _ h81)
        ·
          rcases fr_ite h12 with h83 | h83
          ·
            exact f11.tr (ih _ _ h83)
          ·
            obtain ⟨q20, e84, h85⟩ := Option.bind_eq_some_iff.mp h83
            have f86 : Fr v1 v2 S0 q20.2 := f11.tr (Fr.mo (fr_f_X11_isWord e84) (fun a k q => by refine s1 _ _ ?_; unfold w1_f_X11_isWord at q; unfold w1_lp_X11_tested_12; exact Or.inl (q)) (fun _ _ q => False.elim q))
            rcases fr_ite h85 with h87 | h87
            ·
              obtain ⟨q24, e88, h89⟩ := Option.bind_eq_some_iff.mp h87
              have f90 : Fr v1 v2 S0 q24 := f86.tr (Fr.mo (fr_f_X11_passWord e88) (fun a k q => by refine s1 _ _ ?_; unfold w1_f_X11_passWord at q; unfold w1_lp_X11_tested_12; exact Or.inl (q)) (fun _ _ q => False.elim q))
              obtain ⟨q27, e91, h92⟩ := Option.bind_eq_some_iff.mp h89
              obtain ⟨q30, e93, h94⟩ := Option.bind_eq_some_iff.mp h92
              have f95 : Fr v1 v2 S0 q30 := f90.tr (Fr.mo (fr_f_X11_settles e93) (fun a k q => by refine s1 _ _ ?_; unfold w1_f_X11_settles at q; unfold w1_lp_X11_tested_12; rcases q with q | q | q | q; exact Or.inr (Or.inr (Or.inr (Or.inr (Or.inl (q))))); exact Or.inr (Or.inr (Or.inr (Or.inr (Or.inr (Or.inl (q)))))); exact Or.inr (Or.inr (Or.inr (Or.inr (Or.inr (Or.inr (Or.inl (q))))))); exact Or.inr (Or.inr (Or.inr (Or.inr (Or.inr (Or.inr (Or.inr (Or.inl (q))))))))) (fun _ _ q => False.elim q))
              obtain ⟨S33, e96, h97⟩ := Option.bind_eq_some_iff.mp h94
              have f98 : Fr v1 v2 S0 S33 := f95.tr (fr_sI e96 (fun k => by refine s1 _ _ ?_; unfold w1_lp_X11_tested_12; exact Or.inr (Or.inr (Or.inr (Or.inr (Or.inr (Or.inr (Or.inr (Or.inr ((rfl)))))))))))
              obtain ⟨S36, e99, h100⟩ := Option.bind_eq_some_iff.mp h97
              have f101 : Fr v1 v2 S0 S36 := f98.tr (fr_pI e99 (by refine s1 _ _ ?_; unfold w1_lp_X11_tested_12; exact Or.inr (Or.inr (Or.inr (Or.inr (Or.inr (Or.inl (⟨rfl, rfl⟩))))))))
              exact f101.tr (ih _ _ h100)
            ·
              obtain ⟨q39, e102, h103⟩ := Option.bind_eq_some_iff.mp h87
              have f104 : Fr v1 v2 S0 q39 := f86.tr (Fr.mo (fr_f_X11_passWord e102) (fun a k q => by refine s1 _ _ ?_; unfold w1_f_X11_passWord at q; unfold w1_lp_X11_tested_12; exact Or.inl (q)) (fun _ _ q => False.elim q))
              obtain ⟨q42, e105, h106⟩ := Option.bind_eq_some_iff.mp h103
              obtain ⟨q45, e107, h108⟩ := Option.bind_eq_some_iff.mp h106
              have f109 : Fr v1 v2 S0 q45 := f104.tr (Fr.mo (fr_f_X11_settles e107) (fun a k q => by refine s1 _ _ ?_; unfold w1_f_X11_settles at q; unfold w1_lp_X11_tested_12; rcases q with q | q | q | q; exact Or.inr (Or.inr (Or.inr (Or.inr (Or.inl (q))))); exact Or.inr (Or.inr (Or.inr (Or.inr (Or.inr (Or.inl (q)))))); exact Or.inr (Or.inr (Or.inr (Or.inr (Or.inr (Or.inr (Or.inl (q))))))); exact Or.inr (Or.inr (Or.inr (Or.inr (Or.inr (Or.inr (Or.inr (Or.inl (q))))))))) (fun _ _ q => False.elim q))
              obtain ⟨S48, e110, h111⟩ := Option.bind_eq_some_iff.mp h108
              have f112 : Fr v1 v2 S0 S48 := f109.tr (fr_sI e110 (fun k => by refine s1 _ _ ?_; unfold w1_lp_X11_tested_12; exact Or.inr (Or.inr (Or.inr (Or.inr (Or.inr (Or.inr (Or.inr (Or.inr ((rfl)))))))))))
              obtain ⟨S51, e113, h114⟩ := Option.bind_eq_some_iff.mp h111
              have f115 : Fr v1 v2 S0 S51 := f112.tr (fr_pI e113 (by refine s1 _ _ ?_; unfold w1_lp_X11_tested_12; exact Or.inr (Or.inr (Or.inr (Or.inr (Or.inr (Or.inl (⟨rfl, rfl⟩))))))))
              exact f115.tr (ih _ _ h114)
def w1_f_X11_tested (a k : Nat) : Prop := (a = 145 ∧ k = 13) ∨ (a = 145 ∧ k = 14) ∨ (a = 145 ∧ k = 15) ∨ (a = 145 ∧ k = 17) ∨ (a = 145 ∧ k = 18) ∨ (a = 145 ∧ k = 21) ∨ a = 147 ∨ a = 148 ∨ a = 154
def w2_f_X11_tested (a k : Nat) : Prop := False
theorem fr_f_X11_tested {S : fS} {r : Int32 × fS} (h : f_X11_tested S = some r) : Fr (w1_f_X11_tested) (w2_f_X11_tested) S r.2 := by
  unfold f_X11_tested at h
  obtain ⟨S1, e1, h2⟩ := Option.bind_eq_some_iff.mp h
  have f3 : Fr (w1_f_X11_tested) (w2_f_X11_tested) S S1 := (Fr.rf (S := S)).tr (fr_pI e1 (by unfold w1_f_X11_tested; exact Or.inr (Or.inr (Or.inr (Or.inr (Or.inr (Or.inl (⟨rfl, rfl⟩))))))))
  obtain ⟨S4, e4, h5⟩ := Option.bind_eq_some_iff.mp h2
  have f6 : Fr (w1_f_X11_tested) (w2_f_X11_tested) S S4 := f3.tr (fr_pI e4 (by unfold w1_f_X11_tested; exact Or.inr (Or.inr (Or.inr (Or.inr (Or.inl (⟨rfl, rfl⟩)))))))
  refine f6.tr (fr_lp_X11_tested_12 (v1 := w1_f_X11_tested) (v2 := w2_f_X11_tested) (fun a k q => by unfold w1_lp_X11_tested_12 at q; unfold w1_f_X11_tested; rcases q with q | q | q | q | q | q | q | q | q; exact Or.inl (q); exact Or.inr (Or.inl (q)); exact Or.inr (Or.inr (Or.inl (q))); exact Or.inr (Or.inr (Or.inr (Or.inl (q)))); exact Or.inr (Or.inr (Or.inr (Or.inr (Or.inl (q))))); exact Or.inr (Or.inr (Or.inr (Or.inr (Or.inr (Or.inl (q)))))); exact Or.inr (Or.inr (Or.inr (Or.inr (Or.inr (Or.inr (Or.inl (q))))))); exact Or.inr (Or.inr (Or.inr (Or.inr (Or.inr (Or.inr (Or.inr (Or.inl (q)))))))); exact Or.inr (Or.inr (Or.inr (Or.inr (Or.inr (Or.inr (Or.inr (Or.inr ((q)))))))))) (fun _ _ q => False.elim q) (fun S128 h7 => ?_) _ _ _ h5)
  obtain ⟨q130, e8, h9⟩ := Option.bind_eq_some_iff.mp h7
  rcases fr_ite h9 with h10 | h10
  ·
    obtain ⟨q134, e11, h12⟩ := Option.bind_eq_some_iff.mp h10
    have f13 : Fr (w1_f_X11_tested) (w2_f_X11_tested) S128 q134 := (Fr.rf (S := S128)).tr (Fr.mo (fr_f_X11_settles e11) (fun a k q => by unfold w1_f_X11_settles at q; unfold w1_f_X11_tested; rcases q with q | q | q | q; exact Or.inr (Or.inr (Or.inr (Or.inr (Or.inl (q))))); exact Or.inr (Or.inr (Or.inr (Or.inr (Or.inr (Or.inl (q)))))); exact Or.inr (Or.inr (Or.inr (Or.inr (Or.inr (Or.inr (Or.inl (q))))))); exact Or.inr (Or.inr (Or.inr (Or.inr (Or.inr (Or.inr (Or.inr (Or.inl (q))))))))) (fun _ _ q => False.elim q))
    exact fr_e2 h12 f13
  ·
    obtain ⟨q137, e14, h15⟩ := Option.bind_eq_some_iff.mp h10
    have f16 : Fr (w1_f_X11_tested) (w2_f_X11_tested) S128 q137.2 := (Fr.rf (S := S128)).tr (Fr.mo (fr_f_X11_see e14) (fun a k q => by unfold w1_f_X11_see at q; unfold w1_f_X11_tested; exact Or.inl (q)) (fun _ _ q => False.elim q))
    obtain ⟨q140, e17, h18⟩ := Option.bind_eq_some_iff.mp h15
    have f19 : Fr (w1_f_X11_tested) (w2_f_X11_tested) S128 q140.2 := f16.tr (Fr.mo (fr_f_X11_fails e17) (fun a k q => by unfold w1_f_X11_fails at q; unfold w1_f_X11_tested; exact Or.inr (Or.inl (q))) (fun _ _ q => False.elim q))
    obtain ⟨z143, e20, h21⟩ := Option.bind_eq_some_iff.mp h18
    exact fr_e2 h21 f19
def w1_f_X11_isToHere (a k : Nat) : Prop := (a = 145 ∧ k = 13) ∨ (a = 145 ∧ k = 14) ∨ (a = 145 ∧ k = 15) ∨ (a = 145 ∧ k = 17) ∨ (a = 145 ∧ k = 18) ∨ (a = 145 ∧ k = 21) ∨ a = 147 ∨ a = 148 ∨ a = 149 ∨ a = 150 ∨ a = 154
def w2_f_X11_isToHere (a k : Nat) : Prop := False
theorem fr_f_X11_isToHere {S : fS} {r : Int32 × fS} (h : f_X11_isToHere S = some r) : Fr (w1_f_X11_isToHere) (w2_f_X11_isToHere) S r.2 := by
  unfold f_X11_isToHere at h
  obtain ⟨q1, e1, h2⟩ := Option.bind_eq_some_iff.mp h
  have f3 : Fr (w1_f_X11_isToHere) (w2_f_X11_isToHere) S q1 := (Fr.rf (S := S)).tr (Fr.mo (fr_f_X11_passWord e1) (fun a k q => by unfold w1_f_X11_passWord at q; unfold w1_f_X11_isToHere; exact Or.inl (q)) (fun _ _ q => False.elim q))
  obtain ⟨q4, e4, h5⟩ := Option.bind_eq_some_iff.mp h2
  have f6 : Fr (w1_f_X11_isToHere) (w2_f_X11_isToHere) S q4.2 := f3.tr (Fr.mo (fr_f_X11_numberHere e4) (fun a k q => by unfold w1_f_X11_numberHere at q; unfold w1_f_X11_isToHere; rcases q with q | q | q; exact Or.inl (q); exact Or.inr (Or.inl (q)); exact Or.inr (Or.inr (Or.inl (q)))) (fun _ _ q => False.elim q))
  rcases fr_ite h5 with h7 | h7
  ·
    exact fr_e2 h7 f6
  ·
    obtain ⟨a8, e8, h9⟩ := Option.bind_eq_some_iff.mp h7
    obtain ⟨S11, e10, h11⟩ := Option.bind_eq_some_iff.mp h9
    have f12 : Fr (w1_f_X11_isToHere) (w2_f_X11_isToHere) S S11 := f6.tr (fr_sI e10 (fun k => by unfold w1_f_X11_isToHere; exact Or.inr (Or.inr (Or.inr (Or.inr (Or.inr (Or.inr (Or.inr (Or.inr (Or.inl (rfl)))))))))))
    obtain ⟨S14, e13, h14⟩ := Option.bind_eq_some_iff.mp h11
    have f15 : Fr (w1_f_X11_isToHere) (w2_f_X11_isToHere) S S14 := f12.tr (fr_sI e13 (fun k => by unfold w1_f_X11_isToHere; exact Or.inr (Or.inr (Or.inr (Or.inr (Or.inr (Or.inr (Or.inr (Or.inr (Or.inl (rfl)))))))))))
    obtain ⟨q17, e16, h17⟩ := Option.bind_eq_some_iff.mp h14
    have f18 : Fr (w1_f_X11_isToHere) (w2_f_X11_isToHere) S q17.2 := f15.tr (Fr.mo (fr_f_X11_takesWord e16) (fun a k q => by unfold w1_f_X11_takesWord at q; unfold w1_f_X11_isToHere; exact Or.inl (q)) (fun _ _ q => False.elim q))
    rcases fr_ite h17 with h19 | h19
    ·
      obtain ⟨a21, e20, h21⟩ := Option.bind_eq_some_iff.mp h19
      obtain ⟨S24, e22, h23⟩ := Option.bind_eq_some_iff.mp h21
      have f24 : Fr (w1_f_X11_isToHere) (w2_f_X11_isToHere) S S24 := f18.tr (fr_sI e22 (fun k => by unfold w1_f_X11_isToHere; exact Or.inr (Or.inr (Or.inr (Or.inr (Or.inr (Or.inr (Or.inr (Or.inr (Or.inl (rfl)))))))))))
      obtain ⟨a27, e25, h26⟩ := Option.bind_eq_some_iff.mp h23
      obtain ⟨S30, e27, h28⟩ := Option.bind_eq_some_iff.mp h26
      have f29 : Fr (w1_f_X11_isToHere) (w2_f_X11_isToHere) S S30 := f24.tr (fr_sI e27 (fun k => by unfold w1_f_X11_isToHere; exact Or.inr (Or.inr (Or.inr (Or.inr (Or.inr (Or.inr (Or.inr (Or.inr (Or.inr (Or.inl (rfl))))))))))))
      exact fr_e2 h28 f29
    ·
      obtain ⟨a33, e30, h31⟩ := Option.bind_eq_some_iff.mp h19
      obtain ⟨S36, e32, h33⟩ := Option.bind_eq_some_iff.mp h31
      have f34 : Fr (w1_f_X11_isToHere) (w2_f_X11_isToHere) S S36 := f18.tr (fr_sI e32 (fun k => by unfold w1_f_X11_isToHere; exact Or.inr (Or.inr (Or.inr (Or.inr (Or.inr (Or.inr (Or.inr (Or.inr (Or.inl (rfl)))))))))))
      obtain ⟨q39, e35, h36⟩ := Option.bind_eq_some_iff.mp h33
      have f37 : Fr (w1_f_X11_isToHere) (w2_f_X11_isToHere) S q39.2 := f34.tr (Fr.mo (fr_f_X11_tested e35) (fun a k q => by unfold w1_f_X11_tested at q; unfold w1_f_X11_isToHere; rcases q with q | q | q | q | q | q | q | q | q; exact Or.inl (q); exact Or.inr (Or.inl (q)); exact Or.inr (Or.inr (Or.inl (q))); exact Or.inr (Or.inr (Or.inr (Or.inl (q)))); exact Or.inr (Or.inr (Or.inr (Or.inr (Or.inl (q))))); exact Or.inr (Or.inr (Or.inr (Or.inr (Or.inr (Or.inl (q)))))); exact Or.inr (Or.inr (Or.inr (Or.inr (Or.inr (Or.inr (Or.inl (q))))))); exact Or.inr (Or.inr (Or.inr (Or.inr (Or.inr (Or.inr (Or.inr (Or.inl (q)))))))); exact Or.inr (Or.inr (Or.inr (Or.inr (Or.inr (Or.inr (Or.inr (Or.inr (Or.inr (Or.inr ((q)))))))))))) (fun _ _ q => False.elim q))
      rcases fr_ite h36 with h38 | h38
      ·
        exact fr_e2 h38 f37
      ·
        obtain ⟨a43, e39, h40⟩ := Option.bind_eq_some_iff.mp h38
        obtain ⟨S46, e41, h42⟩ := Option.bind_eq_some_iff.mp h40
        have f43 : Fr (w1_f_X11_isToHere) (w2_f_X11_isToHere) S S46 := f37.tr (fr_sI e41 (fun k => by unfold w1_f_X11_isToHere; exact Or.inr (Or.inr (Or.inr (Or.inr (Or.inr (Or.inr (Or.inr (Or.inr (Or.inl (rfl)))))))))))
        obtain ⟨a49, e44, h45⟩ := Option.bind_eq_some_iff.mp h42
        obtain ⟨S52, e46, h47⟩ := Option.bind_eq_some_iff.mp h45
        have f48 : Fr (w1_f_X11_isToHere) (w2_f_X11_isToHere) S S52 := f43.tr (fr_sI e46 (fun k => by unfold w1_f_X11_isToHere; exact Or.inr (Or.inr (Or.inr (Or.inr (Or.inr (Or.inr (Or.inr (Or.inr (Or.inr (Or.inl (rfl))))))))))))
        exact fr_e2 h47 f48
def w1_lp_X11_isFloorHere_22 (a k : Nat) : Prop := (a = 145 ∧ k = 13) ∨ (a = 145 ∧ k = 14) ∨ (a = 145 ∧ k = 15) ∨ a = 151
def w2_lp_X11_isFloorHere_22 (a k : Nat) : Prop := False
theorem fr_lp_X11_isFloorHere_22 {K : fS → Option (Int32 × fS)} {r : Int32 × fS} {v1 v2 : Nat → Nat → Prop} (s1 : ∀ a k, w1_lp_X11_isFloorHere_22 a k → v1 a k) (s2 : ∀ a k, w2_lp_X11_isFloorHere_22 a k → v2 a k) (hK : ∀ (x0 : fS), K x0 = some r → Fr v1 v2 x0 r.2) : ∀ (n : Nat) (p2 : Int32) (S0 : fS), lp_X11_isFloorHere_22 K n p2 S0 = some r → Fr v1 v2 S0 r.2 := by
  intro n
  induction n with
  | zero => intro p2 S0 h; exact mm_no h
  | succ n ih =>
    intro p2 S0 h
    rw [lp_X11_isFloorHere_22.eq_2] at h
    rcases fr_ite h with h1 | h1
    ·
      exact (Fr.rf (S := S0)).tr (hK _ h1)
    ·
      obtain ⟨q6, e2, h3⟩ := Option.bind_eq_some_iff.mp h1
      have f4 : Fr v1 v2 S0 q6.2 := (Fr.rf (S := S0)).tr (Fr.mo (fr_f_X11_numberHere e2) (fun a k q => by refine s1 _ _ ?_; unfold w1_f_X11_numberHere at q; unfold w1_lp_X11_isFloorHere_22; rcases q with q | q | q; exact Or.inl (q); exact Or.inr (Or.inl (q)); exact Or.inr (Or.inr (Or.inl (q)))) (fun _ _ q => False.elim q))
      rcases fr_ite h3 with h5 | h5
      ·
        exact fr_e2 h5 f4
      ·
        obtain ⟨S10, e6, h7⟩ := Option.bind_eq_some_iff.mp h5
        have f8 : Fr v1 v2 S0 S10 := f4.tr (fr_sI e6 (fun k => by refine s1 _ _ ?_; unfold w1_lp_X11_isFloorHere_22; exact Or.inr (Or.inr (Or.inr ((rfl))))))
        exact f8.tr (ih _ _ h7)
def w1_f_X11_isFloorHere (a k : Nat) : Prop := (a = 145 ∧ k = 7) ∨ (a = 145 ∧ k = 13) ∨ (a = 145 ∧ k = 14) ∨ (a = 145 ∧ k = 15) ∨ a = 151
def w2_f_X11_isFloorHere (a k : Nat) : Prop := False
theorem fr_f_X11_isFloorHere {v1 : Int32} {S : fS} {r : Int32 × fS} (h : f_X11_isFloorHere v1 S = some r) : Fr (w1_f_X11_isFloorHere) (w2_f_X11_isFloorHere) S r.2 := by
  unfold f_X11_isFloorHere at h
  rcases fr_ite h with h1 | h1
  ·
    obtain ⟨q18, e2, h3⟩ := Option.bind_eq_some_iff.mp h1
    have f4 : Fr (w1_f_X11_isFloorHere) (w2_f_X11_isFloorHere) S q18.2 := (Fr.rf (S := S)).tr (Fr.mo (fr_f_X11_fails e2) (fun a k q => by unfold w1_f_X11_fails at q; unfold w1_f_X11_isFloorHere; exact Or.inr (Or.inr (Or.inl (q)))) (fun _ _ q => False.elim q))
    obtain ⟨z21, e5, h6⟩ := Option.bind_eq_some_iff.mp h3
    exact fr_e2 h6 f4
  ·
    obtain ⟨q2, e7, h8⟩ := Option.bind_eq_some_iff.mp h1
    have f9 : Fr (w1_f_X11_isFloorHere) (w2_f_X11_isFloorHere) S q2 := (Fr.rf (S := S)).tr (Fr.mo (fr_f_X11_passWord e7) (fun a k q => by unfold w1_f_X11_passWord at q; unfold w1_f_X11_isFloorHere; exact Or.inr (Or.inl (q))) (fun _ _ q => False.elim q))
    refine f9.tr (fr_lp_X11_isFloorHere_22 (v1 := w1_f_X11_isFloorHere) (v2 := w2_f_X11_isFloorHere) (fun a k q => by unfold w1_lp_X11_isFloorHere_22 at q; unfold w1_f_X11_isFloorHere; rcases q with q | q | q | q; exact Or.inr (Or.inl (q)); exact Or.inr (Or.inr (Or.inl (q))); exact Or.inr (Or.inr (Or.inr (Or.inl (q)))); exact Or.inr (Or.inr (Or.inr (Or.inr ((q)))))) (fun _ _ q => False.elim q) (fun S13 h10 => ?_) _ _ _ h8)
    obtain ⟨S15, e11, h12⟩ := Option.bind_eq_some_iff.mp h10
    have f13 : Fr (w1_f_X11_isFloorHere) (w2_f_X11_isFloorHere) S13 S15 := (Fr.rf (S := S13)).tr (fr_pI e11 (by unfold w1_f_X11_isFloorHere; exact Or.inl (⟨rfl, rfl⟩)))
    exact fr_e2 h12 f13
def w1_lp_X11_isStairHere_114 (a k : Nat) : Prop := (a = 145 ∧ k = 13) ∨ (a = 145 ∧ k = 14) ∨ (a = 145 ∧ k = 15) ∨ a = 152
def w2_lp_X11_isStairHere_114 (a k : Nat) : Prop := False
theorem fr_lp_X11_isStairHere_114 {p2 : Int32} {K : fS → Option (Int32 × fS)} {r : Int32 × fS} {v1 v2 : Nat → Nat → Prop} (s1 : ∀ a k, w1_lp_X11_isStairHere_114 a k → v1 a k) (s2 : ∀ a k, w2_lp_X11_isStairHere_114 a k → v2 a k) (hK : ∀ (x0 : fS), K x0 = some r → Fr v1 v2 x0 r.2) : ∀ (n : Nat) (p4 : Int32) (S0 : fS), lp_X11_isStairHere_114 p2 K n p4 S0 = some r → Fr v1 v2 S0 r.2 := by
  intro n
  induction n with
  | zero => intro p4 S0 h; exact mm_no h
  | succ n ih =>
    intro p4 S0 h
    rw [lp_X11_isStairHere_114.eq_2] at h
    rcases fr_ite h with h1 | h1
    ·
      exact (Fr.rf (S := S0)).tr (hK _ h1)
    ·
      rcases fr_ite h1 with h2 | h2
      ·
        obtain ⟨q35, e3, h4⟩ := Option.bind_eq_some_iff.mp h2
        have f5 : Fr v1 v2 S0 q35.2 := (Fr.rf (S := S0)).tr (Fr.mo (fr_f_X11_numberHere e3) (fun a k q => by refine s1 _ _ ?_; unfold w1_f_X11_numberHere at q; unfold w1_lp_X11_isStairHere_114; rcases q with q | q | q; exact Or.inl (q); exact Or.inr (Or.inl (q)); exact Or.inr (Or.inr (Or.inl (q)))) (fun _ _ q => False.elim q))
        rcases fr_ite h4 with h6 | h6
        ·
          exact fr_e2 h6 f5
        ·
          obtain ⟨S39, e7, h8⟩ := Option.bind_eq_some_iff.mp h6
          have f9 : Fr v1 v2 S0 S39 := f5.tr (fr_sI e7 (fun k => by refine s1 _ _ ?_; unfold w1_lp_X11_isStairHere_114; exact Or.inr (Or.inr (Or.inr ((rfl))))))
          exact f9.tr (ih _ _ h8)
      ·
        obtain ⟨q28, e10, h11⟩ := Option.bind_eq_some_iff.mp h2
        have f12 : Fr v1 v2 S0 q28.2 := (Fr.rf (S := S0)).tr (Fr.mo (fr_f_X11_numberHere e10) (fun a k q => by refine s1 _ _ ?_; unfold w1_f_X11_numberHere at q; unfold w1_lp_X11_isStairHere_114; rcases q with q | q | q; exact Or.inl (q); exact Or.inr (Or.inl (q)); exact Or.inr (Or.inr (Or.inl (q)))) (fun _ _ q => False.elim q))
        rcases fr_ite h11 with h13 | h13
        ·
          exact fr_e2 h13 f12
        ·
          obtain ⟨S32, e14, h15⟩ := Option.bind_eq_some_iff.mp h13
          have f16 : Fr v1 v2 S0 S32 := f12.tr (fr_sI e14 (fun k => by refine s1 _ _ ?_; unfold w1_lp_X11_isStairHere_114; exact Or.inr (Or.inr (Or.inr ((rfl))))))
          exact f16.tr (ih _ _ h15)
def w1_f_X11_isStairHere (a k : Nat) : Prop := (a = 145 ∧ k = 8) ∨ (a = 145 ∧ k = 13) ∨ (a = 145 ∧ k = 14) ∨ (a = 145 ∧ k = 15) ∨ a = 152
def w2_f_X11_isStairHere (a k : Nat) : Prop := False
theorem fr_f_X11_isStairHere {v1 : Int32} {S : fS} {r : Int32 × fS} (h : f_X11_isStairHere v1 S = some r) : Fr (w1_f_X11_isStairHere) (w2_f_X11_isStairHere) S r.2 := by
  unfold f_X11_isStairHere at h
  rcases fr_ite h with h1 | h1
  ·
    obtain ⟨q55, e2, h3⟩ := Option.bind_eq_some_iff.mp h1
    have f4 : Fr (w1_f_X11_isStairHere) (w2_f_X11_isStairHere) S q55.2 := (Fr.rf (S := S)).tr (Fr.mo (fr_f_X11_fails e2) (fun a k q => by unfold w1_f_X11_fails at q; unfold w1_f_X11_isStairHere; exact Or.inr (Or.inr (Or.inl (q)))) (fun _ _ q => False.elim q))
    obtain ⟨z58, e5, h6⟩ := Option.bind_eq_some_iff.mp h3
    exact fr_e2 h6 f4
  ·
    obtain ⟨q2, e7, h8⟩ := Option.bind_eq_some_iff.mp h1
    have f9 : Fr (w1_f_X11_isStairHere) (w2_f_X11_isStairHere) S q2 := (Fr.rf (S := S)).tr (Fr.mo (fr_f_X11_passWord e7) (fun a k q => by unfold w1_f_X11_passWord at q; unfold w1_f_X11_isStairHere; exact Or.inr (Or.inl (q))) (fun _ _ q => False.elim q))
    obtain ⟨q5, e10, h11⟩ := Option.bind_eq_some_iff.mp h8
    have f12 : Fr (w1_f_X11_isStairHere) (w2_f_X11_isStairHere) S q5.2 := f9.tr (Fr.mo (fr_f_X11_numberHere e10) (fun a k q => by unfold w1_f_X11_numberHere at q; unfold w1_f_X11_isStairHere; rcases q with q | q | q; exact Or.inr (Or.inl (q)); exact Or.inr (Or.inr (Or.inl (q))); exact Or.inr (Or.inr (Or.inr (Or.inl (q))))) (fun _ _ q => False.elim q))
    rcases fr_ite h11 with h13 | h13
    ·
      exact fr_e2 h13 f12
    ·
      obtain ⟨S9, e14, h15⟩ := Option.bind_eq_some_iff.mp h13
      have f16 : Fr (w1_f_X11_isStairHere) (w2_f_X11_isStairHere) S S9 := f12.tr (fr_sI e14 (fun k => by unfold w1_f_X11_isStairHere; exact Or.inr (Or.inr (Or.inr (Or.inr ((rfl)))))))
      obtain ⟨q12, e17, h18⟩ := Option.bind_eq_some_iff.mp h15
      have f19 : Fr (w1_f_X11_isStairHere) (w2_f_X11_isStairHere) S q12.2 := f16.tr (Fr.mo (fr_f_X11_see e17) (fun a k q => by unfold w1_f_X11_see at q; unfold w1_f_X11_isStairHere; exact Or.inr (Or.inl (q))) (fun _ _ q => False.elim q))
      obtain ⟨q15, e20, h21⟩ := Option.bind_eq_some_iff.mp h18
      have f22 : Fr (w1_f_X11_isStairHere) (w2_f_X11_isStairHere) S q15.2 := f19.tr (Fr.mo (fr_f_X11_numberHere e20) (fun a k q => by unfold w1_f_X11_numberHere at q; unfold w1_f_X11_isStairHere; rcases q with q | q | q; exact Or.inr (Or.inl (q)); exact Or.inr (Or.inr (Or.inl (q))); exact Or.inr (Or.inr (Or.inr (Or.inl (q))))) (fun _ _ q => False.elim q))
      rcases fr_ite h21 with h23 | h23
      ·
        exact fr_e2 h23 f22
      ·
        obtain ⟨a19, e24, h25⟩ := Option.bind_eq_some_iff.mp h23
        rcases fr_ite h25 with h26 | h26
        ·
          obtain ⟨q47, e27, h28⟩ := Option.bind_eq_some_iff.mp h26
          have f29 : Fr (w1_f_X11_isStairHere) (w2_f_X11_isStairHere) S q47.2 := f22.tr (Fr.mo (fr_f_X11_fails e27) (fun a k q => by unfold w1_f_X11_fails at q; unfold w1_f_X11_isStairHere; exact Or.inr (Or.inr (Or.inl (q)))) (fun _ _ q => False.elim q))
          obtain ⟨z50, e30, h31⟩ := Option.bind_eq_some_iff.mp h28
          exact fr_e2 h31 f29
        ·
          obtain ⟨S23, e32, h33⟩ := Option.bind_eq_some_iff.mp h26
          have f34 : Fr (w1_f_X11_isStairHere) (w2_f_X11_isStairHere) S S23 := f22.tr (fr_sI e32 (fun k => by unfold w1_f_X11_isStairHere; exact Or.inr (Or.inr (Or.inr (Or.inr ((rfl)))))))
          refine f34.tr (fr_lp_X11_isStairHere_114 (v1 := w1_f_X11_isStairHere) (v2 := w2_f_X11_isStairHere) (fun a k q => by unfold w1_lp_X11_isStairHere_114 at q; unfold w1_f_X11_isStairHere; rcases q with q | q | q | q; exact Or.inr (Or.inl (q)); exact Or.inr (Or.inr (Or.inl (q))); exact Or.inr (Or.inr (Or.inr (Or.inl (q)))); exact Or.inr (Or.inr (Or.inr (Or.inr ((q)))))) (fun _ _ q => False.elim q) (fun S42 h35 => ?_) _ _ _ h33)
          obtain ⟨S44, e36, h37⟩ := Option.bind_eq_some_iff.mp h35
          have f38 : Fr (w1_f_X11_isStairHere) (w2_f_X11_isStairHere) S42 S44 := (Fr.rf (S := S42)).tr (fr_pI e36 (by unfold w1_f_X11_isStairHere; exact Or.inl (⟨rfl, rfl⟩)))
          exact fr_e2 h37 f38
def w1_f_X11_isThingHere (a k : Nat) : Prop := (a = 145 ∧ k = 9) ∨ (a = 145 ∧ k = 13) ∨ (a = 145 ∧ k = 14) ∨ (a = 145 ∧ k = 15) ∨ a = 153
def w2_f_X11_isThingHere (a k : Nat) : Prop := False
theorem fr_f_X11_isThingHere {v1 : Int32} {S : fS} {r : Int32 × fS} (h : f_X11_isThingHere v1 S = some r) : Fr (w1_f_X11_isThingHere) (w2_f_X11_isThingHere) S r.2 := by
  unfold f_X11_isThingHere at h
  rcases fr_ite h with h1 | h1
  ·
    obtain ⟨q15, e2, h3⟩ := Option.bind_eq_some_iff.mp h1
    have f4 : Fr (w1_f_X11_isThingHere) (w2_f_X11_isThingHere) S q15.2 := (Fr.rf (S := S)).tr (Fr.mo (fr_f_X11_fails e2) (fun a k q => by unfold w1_f_X11_fails at q; unfold w1_f_X11_isThingHere; exact Or.inr (Or.inr (Or.inl (q)))) (fun _ _ q => False.elim q))
    obtain ⟨z18, e5, h6⟩ := Option.bind_eq_some_iff.mp h3
    exact fr_e2 h6 f4
  ·
    obtain ⟨q2, e7, h8⟩ := Option.bind_eq_some_iff.mp h1
    have f9 : Fr (w1_f_X11_isThingHere) (w2_f_X11_isThingHere) S q2 := (Fr.rf (S := S)).tr (Fr.mo (fr_f_X11_passWord e7) (fun a k q => by unfold w1_f_X11_passWord at q; unfold w1_f_X11_isThingHere; exact Or.inr (Or.inl (q))) (fun _ _ q => False.elim q))
    obtain ⟨q5, e10, h11⟩ := Option.bind_eq_some_iff.mp h8
    have f12 : Fr (w1_f_X11_isThingHere) (w2_f_X11_isThingHere) S q5.2 := f9.tr (Fr.mo (fr_f_X11_numberHere e10) (fun a k q => by unfold w1_f_X11_numberHere at q; unfold w1_f_X11_isThingHere; rcases q with q | q | q; exact Or.inr (Or.inl (q)); exact Or.inr (Or.inr (Or.inl (q))); exact Or.inr (Or.inr (Or.inr (Or.inl (q))))) (fun _ _ q => False.elim q))
    rcases fr_ite h11 with h13 | h13
    ·
      exact fr_e2 h13 f12
    ·
      obtain ⟨S9, e14, h15⟩ := Option.bind_eq_some_iff.mp h13
      have f16 : Fr (w1_f_X11_isThingHere) (w2_f_X11_isThingHere) S S9 := f12.tr (fr_sI e14 (fun k => by unfold w1_f_X11_isThingHere; exact Or.inr (Or.inr (Or.inr (Or.inr ((rfl)))))))
      obtain ⟨S12, e17, h18⟩ := Option.bind_eq_some_iff.mp h15
      have f19 : Fr (w1_f_X11_isThingHere) (w2_f_X11_isThingHere) S S12 := f16.tr (fr_pI e17 (by unfold w1_f_X11_isThingHere; exact Or.inl (⟨rfl, rfl⟩)))
      exact fr_e2 h18 f19
def w1_j_X11_clauseHere_171 (a k : Nat) : Prop := False
def w2_j_X11_clauseHere_171 (a k : Nat) : Prop := False
theorem fr_j_X11_clauseHere_171 {s0 : Int32} {S : fS} {r : Int32 × fS} (h : j_X11_clauseHere_171 s0 S = some r) : Fr (w1_j_X11_clauseHere_171) (w2_j_X11_clauseHere_171) S r.2 := by
  unfold j_X11_clauseHere_171 at h
  obtain ⟨z27, e1, h2⟩ := Option.bind_eq_some_iff.mp h
  exact fr_e2 h2 (Fr.rf (S := S))
def w1_j_X11_clauseHere_101 (a k : Nat) : Prop := (a = 145 ∧ k = 7) ∨ (a = 145 ∧ k = 8) ∨ (a = 145 ∧ k = 9) ∨ (a = 145 ∧ k = 13) ∨ (a = 145 ∧ k = 14) ∨ (a = 145 ∧ k = 15) ∨ (a = 145 ∧ k = 17) ∨ (a = 145 ∧ k = 18) ∨ (a = 145 ∧ k = 19) ∨ (a = 145 ∧ k = 21) ∨ a = 147 ∨ a = 148 ∨ a = 149 ∨ a = 150 ∨ a = 151 ∨ a = 152 ∨ a = 153 ∨ a = 154
def w2_j_X11_clauseHere_101 (a k : Nat) : Prop := False
theorem fr_j_X11_clauseHere_101 {p1 : Int32} {p2 : Int32} {s0 : Int32} {s1 : Int32} {S : fS} {r : Int32 × fS} (h : j_X11_clauseHere_101 p1 p2 s0 s1 S = some r) : Fr (w1_j_X11_clauseHere_101) (w2_j_X11_clauseHere_101) S r.2 := by
  unfold j_X11_clauseHere_101 at h
  rcases fr_ite h with h1 | h1
  ·
    obtain ⟨q46, e2, h3⟩ := Option.bind_eq_some_iff.mp h1
    have f4 : Fr (w1_j_X11_clauseHere_101) (w2_j_X11_clauseHere_101) S q46.2 := (Fr.rf (S := S)).tr (Fr.mo (fr_f_X11_fails e2) (fun a k q => by unfold w1_f_X11_fails at q; unfold w1_j_X11_clauseHere_101; exact Or.inr (Or.inr (Or.inr (Or.inr (Or.inl (q)))))) (fun _ _ q => False.elim q))
    obtain ⟨z49, e5, h6⟩ := Option.bind_eq_some_iff.mp h3
    exact fr_e2 h6 f4
  ·
    obtain ⟨S12, e7, h8⟩ := Option.bind_eq_some_iff.mp h1
    have f9 : Fr (w1_j_X11_clauseHere_101) (w2_j_X11_clauseHere_101) S S12 := (Fr.rf (S := S)).tr (fr_pI e7 (by unfold w1_j_X11_clauseHere_101; exact Or.inr (Or.inr (Or.inr (Or.inr (Or.inr (Or.inr (Or.inr (Or.inr (Or.inl (⟨rfl, rfl⟩)))))))))))
    rcases fr_ite h8 with h10 | h10
    ·
      obtain ⟨q38, e11, h12⟩ := Option.bind_eq_some_iff.mp h10
      have f13 : Fr (w1_j_X11_clauseHere_101) (w2_j_X11_clauseHere_101) S q38.2 := f9.tr (Fr.mo (fr_f_X11_isToHere e11) (fun a k q => by unfold w1_f_X11_isToHere at q; unfold w1_j_X11_clauseHere_101; rcases q with q | q | q | q | q | q | q | q | q | q | q; exact Or.inr (Or.inr (Or.inr (Or.inl (q)))); exact Or.inr (Or.inr (Or.inr (Or.inr (Or.inl (q))))); exact Or.inr (Or.inr (Or.inr (Or.inr (Or.inr (Or.inl (q)))))); exact Or.inr (Or.inr (Or.inr (Or.inr (Or.inr (Or.inr (Or.inl (q))))))); exact Or.inr (Or.inr (Or.inr (Or.inr (Or.inr (Or.inr (Or.inr (Or.inl (q)))))))); exact Or.inr (Or.inr (Or.inr (Or.inr (Or.inr (Or.inr (Or.inr (Or.inr (Or.inr (Or.inl (q)))))))))); exact Or.inr (Or.inr (Or.inr (Or.inr (Or.inr (Or.inr (Or.inr (Or.inr (Or.inr (Or.inr (Or.inl (q))))))))))); exact Or.inr (Or.inr (Or.inr (Or.inr (Or.inr (Or.inr (Or.inr (Or.inr (Or.inr (Or.inr (Or.inr (Or.inl (q)))))))))))); exact Or.inr (Or.inr (Or.inr (Or.inr (Or.inr (Or.inr (Or.inr (Or.inr (Or.inr (Or.inr (Or.inr (Or.inr (Or.inl (q))))))))))))); exact Or.inr (Or.inr (Or.inr (Or.inr (Or.inr (Or.inr (Or.inr (Or.inr (Or.inr (Or.inr (Or.inr (Or.inr (Or.inr (Or.inl (q)))))))))))))); exact Or.inr (Or.inr (Or.inr (Or.inr (Or.inr (Or.inr (Or.inr (Or.inr (Or.inr (Or.inr (Or.inr (Or.inr (Or.inr (Or.inr (Or.inr (Or.inr (Or.inr ((q))))))))))))))))))) (fun _ _ q => False.elim q))
      obtain ⟨z41, e14, h15⟩ := Option.bind_eq_some_iff.mp h12
      exact fr_e2 h15 f13
    ·
      obtain ⟨q16, e16, h17⟩ := Option.bind_eq_some_iff.mp h10
      have f18 : Fr (w1_j_X11_clauseHere_101) (w2_j_X11_clauseHere_101) S q16.2 := f9.tr (Fr.mo (fr_f_X11_isWord e16) (fun a k q => by unfold w1_f_X11_isWord at q; unfold w1_j_X11_clauseHere_101; exact Or.inr (Or.inr (Or.inr (Or.inl (q))))) (fun _ _ q => False.elim q))
      rcases fr_ite h17 with h19 | h19
      ·
        obtain ⟨q20, e20, h21⟩ := Option.bind_eq_some_iff.mp h19
        have f22 : Fr (w1_j_X11_clauseHere_101) (w2_j_X11_clauseHere_101) S q20.2 := f18.tr (Fr.mo (fr_f_X11_isWord e20) (fun a k q => by unfold w1_f_X11_isWord at q; unfold w1_j_X11_clauseHere_101; exact Or.inr (Or.inr (Or.inr (Or.inl (q))))) (fun _ _ q => False.elim q))
        rcases fr_ite h21 with h23 | h23
        ·
          obtain ⟨q24, e24, h25⟩ := Option.bind_eq_some_iff.mp h23
          have f26 : Fr (w1_j_X11_clauseHere_101) (w2_j_X11_clauseHere_101) S q24.2 := f22.tr (Fr.mo (fr_f_X11_isThingHere e24) (fun a k q => by unfold w1_f_X11_isThingHere at q; unfold w1_j_X11_clauseHere_101; rcases q with q | q | q | q | q; exact Or.inr (Or.inr (Or.inl (q))); exact Or.inr (Or.inr (Or.inr (Or.inl (q)))); exact Or.inr (Or.inr (Or.inr (Or.inr (Or.inl (q))))); exact Or.inr (Or.inr (Or.inr (Or.inr (Or.inr (Or.inl (q)))))); exact Or.inr (Or.inr (Or.inr (Or.inr (Or.inr (Or.inr (Or.inr (Or.inr (Or.inr (Or.inr (Or.inr (Or.inr (Or.inr (Or.inr (Or.inr (Or.inr (Or.inl (q)))))))))))))))))) (fun _ _ q => False.elim q))
          exact f26.tr (Fr.mo (fr_j_X11_clauseHere_171 h25) (fun _ _ q => False.elim q) (fun _ _ q => False.elim q))
        ·
          obtain ⟨q32, e27, h28⟩ := Option.bind_eq_some_iff.mp h23
          have f29 : Fr (w1_j_X11_clauseHere_101) (w2_j_X11_clauseHere_101) S q32.2 := f22.tr (Fr.mo (fr_f_X11_isStairHere e27) (fun a k q => by unfold w1_f_X11_isStairHere at q; unfold w1_j_X11_clauseHere_101; rcases q with q | q | q | q | q; exact Or.inr (Or.inl (q)); exact Or.inr (Or.inr (Or.inr (Or.inl (q)))); exact Or.inr (Or.inr (Or.inr (Or.inr (Or.inl (q))))); exact Or.inr (Or.inr (Or.inr (Or.inr (Or.inr (Or.inl (q)))))); exact Or.inr (Or.inr (Or.inr (Or.inr (Or.inr (Or.inr (Or.inr (Or.inr (Or.inr (Or.inr (Or.inr (Or.inr (Or.inr (Or.inr (Or.inr (Or.inl (q))))))))))))))))) (fun _ _ q => False.elim q))
          exact f29.tr (Fr.mo (fr_j_X11_clauseHere_171 h28) (fun _ _ q => False.elim q) (fun _ _ q => False.elim q))
      ·
        obtain ⟨q35, e30, h31⟩ := Option.bind_eq_some_iff.mp h19
        have f32 : Fr (w1_j_X11_clauseHere_101) (w2_j_X11_clauseHere_101) S q35.2 := f18.tr (Fr.mo (fr_f_X11_isFloorHere e30) (fun a k q => by unfold w1_f_X11_isFloorHere at q; unfold w1_j_X11_clauseHere_101; rcases q with q | q | q | q | q; exact Or.inl (q); exact Or.inr (Or.inr (Or.inr (Or.inl (q)))); exact Or.inr (Or.inr (Or.inr (Or.inr (Or.inl (q))))); exact Or.inr (Or.inr (Or.inr (Or.inr (Or.inr (Or.inl (q)))))); exact Or.inr (Or.inr (Or.inr (Or.inr (Or.inr (Or.inr (Or.inr (Or.inr (Or.inr (Or.inr (Or.inr (Or.inr (Or.inr (Or.inr (Or.inl (q)))))))))))))))) (fun _ _ q => False.elim q))
        exact f32.tr (Fr.mo (fr_j_X11_clauseHere_171 h31) (fun _ _ q => False.elim q) (fun _ _ q => False.elim q))
def w1_j_X11_clauseHere_74 (a k : Nat) : Prop := (a = 145 ∧ k = 7) ∨ (a = 145 ∧ k = 8) ∨ (a = 145 ∧ k = 9) ∨ (a = 145 ∧ k = 13) ∨ (a = 145 ∧ k = 14) ∨ (a = 145 ∧ k = 15) ∨ (a = 145 ∧ k = 17) ∨ (a = 145 ∧ k = 18) ∨ (a = 145 ∧ k = 19) ∨ (a = 145 ∧ k = 21) ∨ a = 147 ∨ a = 148 ∨ a = 149 ∨ a = 150 ∨ a = 151 ∨ a = 152 ∨ a = 153 ∨ a = 154
def w2_j_X11_clauseHere_74 (a k : Nat) : Prop := False
theorem fr_j_X11_clauseHere_74 {p1 : Int32} {p2 : Int32} {s0 : Int32} {S : fS} {r : Int32 × fS} (h : j_X11_clauseHere_74 p1 p2 s0 S = some r) : Fr (w1_j_X11_clauseHere_74) (w2_j_X11_clauseHere_74) S r.2 := by
  unfold j_X11_clauseHere_74 at h
  rcases fr_ite h with h1 | h1
  ·
    obtain ⟨q54, e2, h3⟩ := Option.bind_eq_some_iff.mp h1
    have f4 : Fr (w1_j_X11_clauseHere_74) (w2_j_X11_clauseHere_74) S q54.2 := (Fr.rf (S := S)).tr (Fr.mo (fr_f_X11_fails e2) (fun a k q => by unfold w1_f_X11_fails at q; unfold w1_j_X11_clauseHere_74; exact Or.inr (Or.inr (Or.inr (Or.inr (Or.inl (q)))))) (fun _ _ q => False.elim q))
    obtain ⟨z57, e5, h6⟩ := Option.bind_eq_some_iff.mp h3
    exact fr_e2 h6 f4
  ·
    rcases fr_ite h1 with h7 | h7
    ·
      exact (Fr.rf (S := S)).tr (Fr.mo (fr_j_X11_clauseHere_101 h7) (fun a k q => by unfold w1_j_X11_clauseHere_101 at q; unfold w1_j_X11_clauseHere_74; rcases q with q | q | q | q | q | q | q | q | q | q | q | q | q | q | q | q | q | q; exact Or.inl (q); exact Or.inr (Or.inl (q)); exact Or.inr (Or.inr (Or.inl (q))); exact Or.inr (Or.inr (Or.inr (Or.inl (q)))); exact Or.inr (Or.inr (Or.inr (Or.inr (Or.inl (q))))); exact Or.inr (Or.inr (Or.inr (Or.inr (Or.inr (Or.inl (q)))))); exact Or.inr (Or.inr (Or.inr (Or.inr (Or.inr (Or.inr (Or.inl (q))))))); exact Or.inr (Or.inr (Or.inr (Or.inr (Or.inr (Or.inr (Or.inr (Or.inl (q)))))))); exact Or.inr (Or.inr (Or.inr (Or.inr (Or.inr (Or.inr (Or.inr (Or.inr (Or.inl (q))))))))); exact Or.inr (Or.inr (Or.inr (Or.inr (Or.inr (Or.inr (Or.inr (Or.inr (Or.inr (Or.inl (q)))))))))); exact Or.inr (Or.inr (Or.inr (Or.inr (Or.inr (Or.inr (Or.inr (Or.inr (Or.inr (Or.inr (Or.inl (q))))))))))); exact Or.inr (Or.inr (Or.inr (Or.inr (Or.inr (Or.inr (Or.inr (Or.inr (Or.inr (Or.inr (Or.inr (Or.inl (q)))))))))))); exact Or.inr (Or.inr (Or.inr (Or.inr (Or.inr (Or.inr (Or.inr (Or.inr (Or.inr (Or.inr (Or.inr (Or.inr (Or.inl (q))))))))))))); exact Or.inr (Or.inr (Or.inr (Or.inr (Or.inr (Or.inr (Or.inr (Or.inr (Or.inr (Or.inr (Or.inr (Or.inr (Or.inr (Or.inl (q)))))))))))))); exact Or.inr (Or.inr (Or.inr (Or.inr (Or.inr (Or.inr (Or.inr (Or.inr (Or.inr (Or.inr (Or.inr (Or.inr (Or.inr (Or.inr (Or.inl (q))))))))))))))); exact Or.inr (Or.inr (Or.inr (Or.inr (Or.inr (Or.inr (Or.inr (Or.inr (Or.inr (Or.inr (Or.inr (Or.inr (Or.inr (Or.inr (Or.inr (Or.inl (q)))))))))))))))); exact Or.inr (Or.inr (Or.inr (Or.inr (Or.inr (Or.inr (Or.inr (Or.inr (Or.inr (Or.inr (Or.inr (Or.inr (Or.inr (Or.inr (Or.inr (Or.inr (Or.inl (q))))))))))))))))); exact Or.inr (Or.inr (Or.inr (Or.inr (Or.inr (Or.inr (Or.inr (Or.inr (Or.inr (Or.inr (Or.inr (Or.inr (Or.inr (Or.inr (Or.inr (Or.inr (Or.inr ((q))))))))))))))))))) (fun _ _ q => False.elim q))
    ·
      exact (Fr.rf (S := S)).tr (Fr.mo (fr_j_X11_clauseHere_101 h7) (fun a k q => by unfold w1_j_X11_clauseHere_101 at q; unfold w1_j_X11_clauseHere_74; rcases q with q | q | q | q | q | q | q | q | q | q | q | q | q | q | q | q | q | q; exact Or.inl (q); exact Or.inr (Or.inl (q)); exact Or.inr (Or.inr (Or.inl (q))); exact Or.inr (Or.inr (Or.inr (Or.inl (q)))); exact Or.inr (Or.inr (Or.inr (Or.inr (Or.inl (q))))); exact Or.inr (Or.inr (Or.inr (Or.inr (Or.inr (Or.inl (q)))))); exact Or.inr (Or.inr (Or.inr (Or.inr (Or.inr (Or.inr (Or.inl (q))))))); exact Or.inr (Or.inr (Or.inr (Or.inr (Or.inr (Or.inr (Or.inr (Or.inl (q)))))))); exact Or.inr (Or.inr (Or.inr (Or.inr (Or.inr (Or.inr (Or.inr (Or.inr (Or.inl (q))))))))); exact Or.inr (Or.inr (Or.inr (Or.inr (Or.inr (Or.inr (Or.inr (Or.inr (Or.inr (Or.inl (q)))))))))); exact Or.inr (Or.inr (Or.inr (Or.inr (Or.inr (Or.inr (Or.inr (Or.inr (Or.inr (Or.inr (Or.inl (q))))))))))); exact Or.inr (Or.inr (Or.inr (Or.inr (Or.inr (Or.inr (Or.inr (Or.inr (Or.inr (Or.inr (Or.inr (Or.inl (q)))))))))))); exact Or.inr (Or.inr (Or.inr (Or.inr (Or.inr (Or.inr (Or.inr (Or.inr (Or.inr (Or.inr (Or.inr (Or.inr (Or.inl (q))))))))))))); exact Or.inr (Or.inr (Or.inr (Or.inr (Or.inr (Or.inr (Or.inr (Or.inr (Or.inr (Or.inr (Or.inr (Or.inr (Or.inr (Or.inl (q)))))))))))))); exact Or.inr (Or.inr (Or.inr (Or.inr (Or.inr (Or.inr (Or.inr (Or.inr (Or.inr (Or.inr (Or.inr (Or.inr (Or.inr (Or.inr (Or.inl (q))))))))))))))); exact Or.inr (Or.inr (Or.inr (Or.inr (Or.inr (Or.inr (Or.inr (Or.inr (Or.inr (Or.inr (Or.inr (Or.inr (Or.inr (Or.inr (Or.inr (Or.inl (q)))))))))))))))); exact Or.inr (Or.inr (Or.inr (Or.inr (Or.inr (Or.inr (Or.inr (Or.inr (Or.inr (Or.inr (Or.inr (Or.inr (Or.inr (Or.inr (Or.inr (Or.inr (Or.inl (q))))))))))))))))); exact Or.inr (Or.inr (Or.inr (Or.inr (Or.inr (Or.inr (Or.inr (Or.inr (Or.inr (Or.inr (Or.inr (Or.inr (Or.inr (Or.inr (Or.inr (Or.inr (Or.inr ((q))))))))))))))))))) (fun _ _ q => False.elim q))
def w1_j_X11_clauseHere_59 (a k : Nat) : Prop := (a = 145 ∧ k = 7) ∨ (a = 145 ∧ k = 8) ∨ (a = 145 ∧ k = 9) ∨ (a = 145 ∧ k = 13) ∨ (a = 145 ∧ k = 14) ∨ (a = 145 ∧ k = 15) ∨ (a = 145 ∧ k = 17) ∨ (a = 145 ∧ k = 18) ∨ (a = 145 ∧ k = 19) ∨ (a = 145 ∧ k = 21) ∨ a = 147 ∨ a = 148 ∨ a = 149 ∨ a = 150 ∨ a = 151 ∨ a = 152 ∨ a = 153 ∨ a = 154
def w2_j_X11_clauseHere_59 (a k : Nat) : Prop := False
theorem fr_j_X11_clauseHere_59 {p1 : Int32} {p2 : Int32} {S : fS} {r : Int32 × fS} (h : j_X11_clauseHere_59 p1 p2 S = some r) : Fr (w1_j_X11_clauseHere_59) (w2_j_X11_clauseHere_59) S r.2 := by
  unfold j_X11_clauseHere_59 at h
  exact (Fr.rf (S := S)).tr (Fr.mo (fr_j_X11_clauseHere_74 h) (fun a k q => by unfold w1_j_X11_clauseHere_74 at q; unfold w1_j_X11_clauseHere_59; rcases q with q | q | q | q | q | q | q | q | q | q | q | q | q | q | q | q | q | q; exact Or.inl (q); exact Or.inr (Or.inl (q)); exact Or.inr (Or.inr (Or.inl (q))); exact Or.inr (Or.inr (Or.inr (Or.inl (q)))); exact Or.inr (Or.inr (Or.inr (Or.inr (Or.inl (q))))); exact Or.inr (Or.inr (Or.inr (Or.inr (Or.inr (Or.inl (q)))))); exact Or.inr (Or.inr (Or.inr (Or.inr (Or.inr (Or.inr (Or.inl (q))))))); exact Or.inr (Or.inr (Or.inr (Or.inr (Or.inr (Or.inr (Or.inr (Or.inl (q)))))))); exact Or.inr (Or.inr (Or.inr (Or.inr (Or.inr (Or.inr (Or.inr (Or.inr (Or.inl (q))))))))); exact Or.inr (Or.inr (Or.inr (Or.inr (Or.inr (Or.inr (Or.inr (Or.inr (Or.inr (Or.inl (q)))))))))); exact Or.inr (Or.inr (Or.inr (Or.inr (Or.inr (Or.inr (Or.inr (Or.inr (Or.inr (Or.inr (Or.inl (q))))))))))); exact Or.inr (Or.inr (Or.inr (Or.inr (Or.inr (Or.inr (Or.inr (Or.inr (Or.inr (Or.inr (Or.inr (Or.inl (q)))))))))))); exact Or.inr (Or.inr (Or.inr (Or.inr (Or.inr (Or.inr (Or.inr (Or.inr (Or.inr (Or.inr (Or.inr (Or.inr (Or.inl (q))))))))))))); exact Or.inr (Or.inr (Or.inr (Or.inr (Or.inr (Or.inr (Or.inr (Or.inr (Or.inr (Or.inr (Or.inr (Or.inr (Or.inr (Or.inl (q)))))))))))))); exact Or.inr (Or.inr (Or.inr (Or.inr (Or.inr (Or.inr (Or.inr (Or.inr (Or.inr (Or.inr (Or.inr (Or.inr (Or.inr (Or.inr (Or.inl (q))))))))))))))); exact Or.inr (Or.inr (Or.inr (Or.inr (Or.inr (Or.inr (Or.inr (Or.inr (Or.inr (Or.inr (Or.inr (Or.inr (Or.inr (Or.inr (Or.inr (Or.inl (q)))))))))))))))); exact Or.inr (Or.inr (Or.inr (Or.inr (Or.inr (Or.inr (Or.inr (Or.inr (Or.inr (Or.inr (Or.inr (Or.inr (Or.inr (Or.inr (Or.inr (Or.inr (Or.inl (q))))))))))))))))); exact Or.inr (Or.inr (Or.inr (Or.inr (Or.inr (Or.inr (Or.inr (Or.inr (Or.inr (Or.inr (Or.inr (Or.inr (Or.inr (Or.inr (Or.inr (Or.inr (Or.inr ((q))))))))))))))))))) (fun _ _ q => False.elim q))
def w1_j_X11_clauseHere_24 (a k : Nat) : Prop := (a = 145 ∧ k = 7) ∨ (a = 145 ∧ k = 8) ∨ (a = 145 ∧ k = 9) ∨ (a = 145 ∧ k = 13) ∨ (a = 145 ∧ k = 14) ∨ (a = 145 ∧ k = 15) ∨ (a = 145 ∧ k = 17) ∨ (a = 145 ∧ k = 18) ∨ (a = 145 ∧ k = 19) ∨ (a = 145 ∧ k = 21) ∨ a = 147 ∨ a = 148 ∨ a = 149 ∨ a = 150 ∨ a = 151 ∨ a = 152 ∨ a = 153 ∨ a = 154
def w2_j_X11_clauseHere_24 (a k : Nat) : Prop := False
theorem fr_j_X11_clauseHere_24 {p1 : Int32} {s0 : Int32} {S : fS} {r : Int32 × fS} (h : j_X11_clauseHere_24 p1 s0 S = some r) : Fr (w1_j_X11_clauseHere_24) (w2_j_X11_clauseHere_24) S r.2 := by
  unfold j_X11_clauseHere_24 at h
  rcases fr_ite h with h1 | h1
  ·
    obtain ⟨q6, e2, h3⟩ := Option.bind_eq_some_iff.mp h1
    have f4 : Fr (w1_j_X11_clauseHere_24) (w2_j_X11_clauseHere_24) S q6.2 := (Fr.rf (S := S)).tr (Fr.mo (fr_f_X11_isWord e2) (fun a k q => by unfold w1_f_X11_isWord at q; unfold w1_j_X11_clauseHere_24; exact Or.inr (Or.inr (Or.inr (Or.inl (q))))) (fun _ _ q => False.elim q))
    exact f4.tr (Fr.mo (fr_j_X11_clauseHere_74 h3) (fun a k q => by unfold w1_j_X11_clauseHere_74 at q; unfold w1_j_X11_clauseHere_24; rcases q with q | q | q | q | q | q | q | q | q | q | q | q | q | q | q | q | q | q; exact Or.inl (q); exact Or.inr (Or.inl (q)); exact Or.inr (Or.inr (Or.inl (q))); exact Or.inr (Or.inr (Or.inr (Or.inl (q)))); exact Or.inr (Or.inr (Or.inr (Or.inr (Or.inl (q))))); exact Or.inr (Or.inr (Or.inr (Or.inr (Or.inr (Or.inl (q)))))); exact Or.inr (Or.inr (Or.inr (Or.inr (Or.inr (Or.inr (Or.inl (q))))))); exact Or.inr (Or.inr (Or.inr (Or.inr (Or.inr (Or.inr (Or.inr (Or.inl (q)))))))); exact Or.inr (Or.inr (Or.inr (Or.inr (Or.inr (Or.inr (Or.inr (Or.inr (Or.inl (q))))))))); exact Or.inr (Or.inr (Or.inr (Or.inr (Or.inr (Or.inr (Or.inr (Or.inr (Or.inr (Or.inl (q)))))))))); exact Or.inr (Or.inr (Or.inr (Or.inr (Or.inr (Or.inr (Or.inr (Or.inr (Or.inr (Or.inr (Or.inl (q))))))))))); exact Or.inr (Or.inr (Or.inr (Or.inr (Or.inr (Or.inr (Or.inr (Or.inr (Or.inr (Or.inr (Or.inr (Or.inl (q)))))))))))); exact Or.inr (Or.inr (Or.inr (Or.inr (Or.inr (Or.inr (Or.inr (Or.inr (Or.inr (Or.inr (Or.inr (Or.inr (Or.inl (q))))))))))))); exact Or.inr (Or.inr (Or.inr (Or.inr (Or.inr (Or.inr (Or.inr (Or.inr (Or.inr (Or.inr (Or.inr (Or.inr (Or.inr (Or.inl (q)))))))))))))); exact Or.inr (Or.inr (Or.inr (Or.inr (Or.inr (Or.inr (Or.inr (Or.inr (Or.inr (Or.inr (Or.inr (Or.inr (Or.inr (Or.inr (Or.inl (q))))))))))))))); exact Or.inr (Or.inr (Or.inr (Or.inr (Or.inr (Or.inr (Or.inr (Or.inr (Or.inr (Or.inr (Or.inr (Or.inr (Or.inr (Or.inr (Or.inr (Or.inl (q)))))))))))))))); exact Or.inr (Or.inr (Or.inr (Or.inr (Or.inr (Or.inr (Or.inr (Or.inr (Or.inr (Or.inr (Or.inr (Or.inr (Or.inr (Or.inr (Or.inr (Or.inr (Or.inl (q))))))))))))))))); exact Or.inr (Or.inr (Or.inr (Or.inr (Or.inr (Or.inr (Or.inr (Or.inr (Or.inr (Or.inr (Or.inr (Or.inr (Or.inr (Or.inr (Or.inr (Or.inr (Or.inr ((q))))))))))))))))))) (fun _ _ q => False.elim q))
  ·
    obtain ⟨q62, e5, h6⟩ := Option.bind_eq_some_iff.mp h1
    have f7 : Fr (w1_j_X11_clauseHere_24) (w2_j_X11_clauseHere_24) S q62.2 := (Fr.rf (S := S)).tr (Fr.mo (fr_f_X11_isWord e5) (fun a k q => by unfold w1_f_X11_isWord at q; unfold w1_j_X11_clauseHere_24; exact Or.inr (Or.inr (Or.inr (Or.inl (q))))) (fun _ _ q => False.elim q))
    rcases fr_ite h6 with h8 | h8
    ·
      obtain ⟨q66, e9, h10⟩ := Option.bind_eq_some_iff.mp h8
      have f11 : Fr (w1_j_X11_clauseHere_24) (w2_j_X11_clauseHere_24) S q66.2 := f7.tr (Fr.mo (fr_f_X11_isWord e9) (fun a k q => by unfold w1_f_X11_isWord at q; unfold w1_j_X11_clauseHere_24; exact Or.inr (Or.inr (Or.inr (Or.inl (q))))) (fun _ _ q => False.elim q))
      rcases fr_ite h10 with h12 | h12
      ·
        obtain ⟨q70, e13, h14⟩ := Option.bind_eq_some_iff.mp h12
        have f15 : Fr (w1_j_X11_clauseHere_24) (w2_j_X11_clauseHere_24) S q70.2 := f11.tr (Fr.mo (fr_f_X11_isWord e13) (fun a k q => by unfold w1_f_X11_isWord at q; unfold w1_j_X11_clauseHere_24; exact Or.inr (Or.inr (Or.inr (Or.inl (q))))) (fun _ _ q => False.elim q))
        rcases fr_ite h14 with h16 | h16
        ·
          exact f15.tr (Fr.mo (fr_j_X11_clauseHere_74 h16) (fun a k q => by unfold w1_j_X11_clauseHere_74 at q; unfold w1_j_X11_clauseHere_24; rcases q with q | q | q | q | q | q | q | q | q | q | q | q | q | q | q | q | q | q; exact Or.inl (q); exact Or.inr (Or.inl (q)); exact Or.inr (Or.inr (Or.inl (q))); exact Or.inr (Or.inr (Or.inr (Or.inl (q)))); exact Or.inr (Or.inr (Or.inr (Or.inr (Or.inl (q))))); exact Or.inr (Or.inr (Or.inr (Or.inr (Or.inr (Or.inl (q)))))); exact Or.inr (Or.inr (Or.inr (Or.inr (Or.inr (Or.inr (Or.inl (q))))))); exact Or.inr (Or.inr (Or.inr (Or.inr (Or.inr (Or.inr (Or.inr (Or.inl (q)))))))); exact Or.inr (Or.inr (Or.inr (Or.inr (Or.inr (Or.inr (Or.inr (Or.inr (Or.inl (q))))))))); exact Or.inr (Or.inr (Or.inr (Or.inr (Or.inr (Or.inr (Or.inr (Or.inr (Or.inr (Or.inl (q)))))))))); exact Or.inr (Or.inr (Or.inr (Or.inr (Or.inr (Or.inr (Or.inr (Or.inr (Or.inr (Or.inr (Or.inl (q))))))))))); exact Or.inr (Or.inr (Or.inr (Or.inr (Or.inr (Or.inr (Or.inr (Or.inr (Or.inr (Or.inr (Or.inr (Or.inl (q)))))))))))); exact Or.inr (Or.inr (Or.inr (Or.inr (Or.inr (Or.inr (Or.inr (Or.inr (Or.inr (Or.inr (Or.inr (Or.inr (Or.inl (q))))))))))))); exact Or.inr (Or.inr (Or.inr (Or.inr (Or.inr (Or.inr (Or.inr (Or.inr (Or.inr (Or.inr (Or.inr (Or.inr (Or.inr (Or.inl (q)))))))))))))); exact Or.inr (Or.inr (Or.inr (Or.inr (Or.inr (Or.inr (Or.inr (Or.inr (Or.inr (Or.inr (Or.inr (Or.inr (Or.inr (Or.inr (Or.inl (q))))))))))))))); exact Or.inr (Or.inr (Or.inr (Or.inr (Or.inr (Or.inr (Or.inr (Or.inr (Or.inr (Or.inr (Or.inr (Or.inr (Or.inr (Or.inr (Or.inr (Or.inl (q)))))))))))))))); exact Or.inr (Or.inr (Or.inr (Or.inr (Or.inr (Or.inr (Or.inr (Or.inr (Or.inr (Or.inr (Or.inr (Or.inr (Or.inr (Or.inr (Or.inr (Or.inr (Or.inl (q))))))))))))))))); exact Or.inr (Or.inr (Or.inr (Or.inr (Or.inr (Or.inr (Or.inr (Or.inr (Or.inr (Or.inr (Or.inr (Or.inr (Or.inr (Or.inr (Or.inr (Or.inr (Or.inr ((q))))))))))))))))))) (fun _ _ q => False.elim q))
        ·
          exact f15.tr (Fr.mo (fr_j_X11_clauseHere_59 h16) (fun a k q => by unfold w1_j_X11_clauseHere_59 at q; unfold w1_j_X11_clauseHere_24; rcases q with q | q | q | q | q | q | q | q | q | q | q | q | q | q | q | q | q | q; exact Or.inl (q); exact Or.inr (Or.inl (q)); exact Or.inr (Or.inr (Or.inl (q))); exact Or.inr (Or.inr (Or.inr (Or.inl (q)))); exact Or.inr (Or.inr (Or.inr (Or.inr (Or.inl (q))))); exact Or.inr (Or.inr (Or.inr (Or.inr (Or.inr (Or.inl (q)))))); exact Or.inr (Or.inr (Or.inr (Or.inr (Or.inr (Or.inr (Or.inl (q))))))); exact Or.inr (Or.inr (Or.inr (Or.inr (Or.inr (Or.inr (Or.inr (Or.inl (q)))))))); exact Or.inr (Or.inr (Or.inr (Or.inr (Or.inr (Or.inr (Or.inr (Or.inr (Or.inl (q))))))))); exact Or.inr (Or.inr (Or.inr (Or.inr (Or.inr (Or.inr (Or.inr (Or.inr (Or.inr (Or.inl (q)))))))))); exact Or.inr (Or.inr (Or.inr (Or.inr (Or.inr (Or.inr (Or.inr (Or.inr (Or.inr (Or.inr (Or.inl (q))))))))))); exact Or.inr (Or.inr (Or.inr (Or.inr (Or.inr (Or.inr (Or.inr (Or.inr (Or.inr (Or.inr (Or.inr (Or.inl (q)))))))))))); exact Or.inr (Or.inr (Or.inr (Or.inr (Or.inr (Or.inr (Or.inr (Or.inr (Or.inr (Or.inr (Or.inr (Or.inr (Or.inl (q))))))))))))); exact Or.inr (Or.inr (Or.inr (Or.inr (Or.inr (Or.inr (Or.inr (Or.inr (Or.inr (Or.inr (Or.inr (Or.inr (Or.inr (Or.inl (q)))))))))))))); exact Or.inr (Or.inr (Or.inr (Or.inr (Or.inr (Or.inr (Or.inr (Or.inr (Or.inr (Or.inr (Or.inr (Or.inr (Or.inr (Or.inr (Or.inl (q))))))))))))))); exact Or.inr (Or.inr (Or.inr (Or.inr (Or.inr (Or.inr (Or.inr (Or.inr (Or.inr (Or.inr (Or.inr (Or.inr (Or.inr (Or.inr (Or.inr (Or.inl (q)))))))))))))))); exact Or.inr (Or.inr (Or.inr (Or.inr (Or.inr (Or.inr (Or.inr (Or.inr (Or.inr (Or.inr (Or.inr (Or.inr (Or.inr (Or.inr (Or.inr (Or.inr (Or.inl (q))))))))))))))))); exact Or.inr (Or.inr (Or.inr (Or.inr (Or.inr (Or.inr (Or.inr (Or.inr (Or.inr (Or.inr (Or.inr (Or.inr (Or.inr (Or.inr (Or.inr (Or.inr (Or.inr ((q))))))))))))))))))) (fun _ _ q => False.elim q))
      ·
        exact f11.tr (Fr.mo (fr_j_X11_clauseHere_59 h12) (fun a k q => by unfold w1_j_X11_clauseHere_59 at q; unfold w1_j_X11_clauseHere_24; rcases q with q | q | q | q | q | q | q | q | q | q | q | q | q | q | q | q | q | q; exact Or.inl (q); exact Or.inr (Or.inl (q)); exact Or.inr (Or.inr (Or.inl (q))); exact Or.inr (Or.inr (Or.inr (Or.inl (q)))); exact Or.inr (Or.inr (Or.inr (Or.inr (Or.inl (q))))); exact Or.inr (Or.inr (Or.inr (Or.inr (Or.inr (Or.inl (q)))))); exact Or.inr (Or.inr (Or.inr (Or.inr (Or.inr (Or.inr (Or.inl (q))))))); exact Or.inr (Or.inr (Or.inr (Or.inr (Or.inr (Or.inr (Or.inr (Or.inl (q)))))))); exact Or.inr (Or.inr (Or.inr (Or.inr (Or.inr (Or.inr (Or.inr (Or.inr (Or.inl (q))))))))); exact Or.inr (Or.inr (Or.inr (Or.inr (Or.inr (Or.inr (Or.inr (Or.inr (Or.inr (Or.inl (q)))))))))); exact Or.inr (Or.inr (Or.inr (Or.inr (Or.inr (Or.inr (Or.inr (Or.inr (Or.inr (Or.inr (Or.inl (q))))))))))); exact Or.inr (Or.inr (Or.inr (Or.inr (Or.inr (Or.inr (Or.inr (Or.inr (Or.inr (Or.inr (Or.inr (Or.inl (q)))))))))))); exact Or.inr (Or.inr (Or.inr (Or.inr (Or.inr (Or.inr (Or.inr (Or.inr (Or.inr (Or.inr (Or.inr (Or.inr (Or.inl (q))))))))))))); exact Or.inr (Or.inr (Or.inr (Or.inr (Or.inr (Or.inr (Or.inr (Or.inr (Or.inr (Or.inr (Or.inr (Or.inr (Or.inr (Or.inl (q)))))))))))))); exact Or.inr (Or.inr (Or.inr (Or.inr (Or.inr (Or.inr (Or.inr (Or.inr (Or.inr (Or.inr (Or.inr (Or.inr (Or.inr (Or.inr (Or.inl (q))))))))))))))); exact Or.inr (Or.inr (Or.inr (Or.inr (Or.inr (Or.inr (Or.inr (Or.inr (Or.inr (Or.inr (Or.inr (Or.inr (Or.inr (Or.inr (Or.inr (Or.inl (q)))))))))))))))); exact Or.inr (Or.inr (Or.inr (Or.inr (Or.inr (Or.inr (Or.inr (Or.inr (Or.inr (Or.inr (Or.inr (Or.inr (Or.inr (Or.inr (Or.inr (Or.inr (Or.inl (q))))))))))))))))); exact Or.inr (Or.inr (Or.inr (Or.inr (Or.inr (Or.inr (Or.inr (Or.inr (Or.inr (Or.inr (Or.inr (Or.inr (Or.inr (Or.inr (Or.inr (Or.inr (Or.inr ((q))))))))))))))))))) (fun _ _ q => False.elim q))
    ·
      exact f7.tr (Fr.mo (fr_j_X11_clauseHere_59 h8) (fun a k q => by unfold w1_j_X11_clauseHere_59 at q; unfold w1_j_X11_clauseHere_24; rcases q with q | q | q | q | q | q | q | q | q | q | q | q | q | q | q | q | q | q; exact Or.inl (q); exact Or.inr (Or.inl (q)); exact Or.inr (Or.inr (Or.inl (q))); exact Or.inr (Or.inr (Or.inr (Or.inl (q)))); exact Or.inr (Or.inr (Or.inr (Or.inr (Or.inl (q))))); exact Or.inr (Or.inr (Or.inr (Or.inr (Or.inr (Or.inl (q)))))); exact Or.inr (Or.inr (Or.inr (Or.inr (Or.inr (Or.inr (Or.inl (q))))))); exact Or.inr (Or.inr (Or.inr (Or.inr (Or.inr (Or.inr (Or.inr (Or.inl (q)))))))); exact Or.inr (Or.inr (Or.inr (Or.inr (Or.inr (Or.inr (Or.inr (Or.inr (Or.inl (q))))))))); exact Or.inr (Or.inr (Or.inr (Or.inr (Or.inr (Or.inr (Or.inr (Or.inr (Or.inr (Or.inl (q)))))))))); exact Or.inr (Or.inr (Or.inr (Or.inr (Or.inr (Or.inr (Or.inr (Or.inr (Or.inr (Or.inr (Or.inl (q))))))))))); exact Or.inr (Or.inr (Or.inr (Or.inr (Or.inr (Or.inr (Or.inr (Or.inr (Or.inr (Or.inr (Or.inr (Or.inl (q)))))))))))); exact Or.inr (Or.inr (Or.inr (Or.inr (Or.inr (Or.inr (Or.inr (Or.inr (Or.inr (Or.inr (Or.inr (Or.inr (Or.inl (q))))))))))))); exact Or.inr (Or.inr (Or.inr (Or.inr (Or.inr (Or.inr (Or.inr (Or.inr (Or.inr (Or.inr (Or.inr (Or.inr (Or.inr (Or.inl (q)))))))))))))); exact Or.inr (Or.inr (Or.inr (Or.inr (Or.inr (Or.inr (Or.inr (Or.inr (Or.inr (Or.inr (Or.inr (Or.inr (Or.inr (Or.inr (Or.inl (q))))))))))))))); exact Or.inr (Or.inr (Or.inr (Or.inr (Or.inr (Or.inr (Or.inr (Or.inr (Or.inr (Or.inr (Or.inr (Or.inr (Or.inr (Or.inr (Or.inr (Or.inl (q)))))))))))))))); exact Or.inr (Or.inr (Or.inr (Or.inr (Or.inr (Or.inr (Or.inr (Or.inr (Or.inr (Or.inr (Or.inr (Or.inr (Or.inr (Or.inr (Or.inr (Or.inr (Or.inl (q))))))))))))))))); exact Or.inr (Or.inr (Or.inr (Or.inr (Or.inr (Or.inr (Or.inr (Or.inr (Or.inr (Or.inr (Or.inr (Or.inr (Or.inr (Or.inr (Or.inr (Or.inr (Or.inr ((q))))))))))))))))))) (fun _ _ q => False.elim q))
def w1_f_X11_clauseHere (a k : Nat) : Prop := (a = 145 ∧ k = 7) ∨ (a = 145 ∧ k = 8) ∨ (a = 145 ∧ k = 9) ∨ (a = 145 ∧ k = 13) ∨ (a = 145 ∧ k = 14) ∨ (a = 145 ∧ k = 15) ∨ (a = 145 ∧ k = 17) ∨ (a = 145 ∧ k = 18) ∨ (a = 145 ∧ k = 19) ∨ (a = 145 ∧ k = 21) ∨ a = 147 ∨ a = 148 ∨ a = 149 ∨ a = 150 ∨ a = 151 ∨ a = 152 ∨ a = 153 ∨ a = 154
def w2_f_X11_clauseHere (a k : Nat) : Prop := False
theorem fr_f_X11_clauseHere {S : fS} {r : Int32 × fS} (h : f_X11_clauseHere S = some r) : Fr (w1_f_X11_clauseHere) (w2_f_X11_clauseHere) S r.2 := by
  unfold f_X11_clauseHere at h
  obtain ⟨q1, e1, h2⟩ := Option.bind_eq_some_iff.mp h
  have f3 : Fr (w1_f_X11_clauseHere) (w2_f_X11_clauseHere) S q1.2 := (Fr.rf (S := S)).tr (Fr.mo (fr_f_X11_see e1) (fun a k q => by unfold w1_f_X11_see at q; unfold w1_f_X11_clauseHere; exact Or.inr (Or.inr (Or.inr (Or.inl (q))))) (fun _ _ q => False.elim q))
  rcases fr_ite h2 with h4 | h4
  ·
    exact f3.tr (Fr.mo (fr_j_X11_clauseHere_24 h4) (fun a k q => by unfold w1_j_X11_clauseHere_24 at q; unfold w1_f_X11_clauseHere; rcases q with q | q | q | q | q | q | q | q | q | q | q | q | q | q | q | q | q | q; exact Or.inl (q); exact Or.inr (Or.inl (q)); exact Or.inr (Or.inr (Or.inl (q))); exact Or.inr (Or.inr (Or.inr (Or.inl (q)))); exact Or.inr (Or.inr (Or.inr (Or.inr (Or.inl (q))))); exact Or.inr (Or.inr (Or.inr (Or.inr (Or.inr (Or.inl (q)))))); exact Or.inr (Or.inr (Or.inr (Or.inr (Or.inr (Or.inr (Or.inl (q))))))); exact Or.inr (Or.inr (Or.inr (Or.inr (Or.inr (Or.inr (Or.inr (Or.inl (q)))))))); exact Or.inr (Or.inr (Or.inr (Or.inr (Or.inr (Or.inr (Or.inr (Or.inr (Or.inl (q))))))))); exact Or.inr (Or.inr (Or.inr (Or.inr (Or.inr (Or.inr (Or.inr (Or.inr (Or.inr (Or.inl (q)))))))))); exact Or.inr (Or.inr (Or.inr (Or.inr (Or.inr (Or.inr (Or.inr (Or.inr (Or.inr (Or.inr (Or.inl (q))))))))))); exact Or.inr (Or.inr (Or.inr (Or.inr (Or.inr (Or.inr (Or.inr (Or.inr (Or.inr (Or.inr (Or.inr (Or.inl (q)))))))))))); exact Or.inr (Or.inr (Or.inr (Or.inr (Or.inr (Or.inr (Or.inr (Or.inr (Or.inr (Or.inr (Or.inr (Or.inr (Or.inl (q))))))))))))); exact Or.inr (Or.inr (Or.inr (Or.inr (Or.inr (Or.inr (Or.inr (Or.inr (Or.inr (Or.inr (Or.inr (Or.inr (Or.inr (Or.inl (q)))))))))))))); exact Or.inr (Or.inr (Or.inr (Or.inr (Or.inr (Or.inr (Or.inr (Or.inr (Or.inr (Or.inr (Or.inr (Or.inr (Or.inr (Or.inr (Or.inl (q))))))))))))))); exact Or.inr (Or.inr (Or.inr (Or.inr (Or.inr (Or.inr (Or.inr (Or.inr (Or.inr (Or.inr (Or.inr (Or.inr (Or.inr (Or.inr (Or.inr (Or.inl (q)))))))))))))))); exact Or.inr (Or.inr (Or.inr (Or.inr (Or.inr (Or.inr (Or.inr (Or.inr (Or.inr (Or.inr (Or.inr (Or.inr (Or.inr (Or.inr (Or.inr (Or.inr (Or.inl (q))))))))))))))))); exact Or.inr (Or.inr (Or.inr (Or.inr (Or.inr (Or.inr (Or.inr (Or.inr (Or.inr (Or.inr (Or.inr (Or.inr (Or.inr (Or.inr (Or.inr (Or.inr (Or.inr ((q))))))))))))))))))) (fun _ _ q => False.elim q))
  ·
    exact f3.tr (Fr.mo (fr_j_X11_clauseHere_24 h4) (fun a k q => by unfold w1_j_X11_clauseHere_24 at q; unfold w1_f_X11_clauseHere; rcases q with q | q | q | q | q | q | q | q | q | q | q | q | q | q | q | q | q | q; exact Or.inl (q); exact Or.inr (Or.inl (q)); exact Or.inr (Or.inr (Or.inl (q))); exact Or.inr (Or.inr (Or.inr (Or.inl (q)))); exact Or.inr (Or.inr (Or.inr (Or.inr (Or.inl (q))))); exact Or.inr (Or.inr (Or.inr (Or.inr (Or.inr (Or.inl (q)))))); exact Or.inr (Or.inr (Or.inr (Or.inr (Or.inr (Or.inr (Or.inl (q))))))); exact Or.inr (Or.inr (Or.inr (Or.inr (Or.inr (Or.inr (Or.inr (Or.inl (q)))))))); exact Or.inr (Or.inr (Or.inr (Or.inr (Or.inr (Or.inr (Or.inr (Or.inr (Or.inl (q))))))))); exact Or.inr (Or.inr (Or.inr (Or.inr (Or.inr (Or.inr (Or.inr (Or.inr (Or.inr (Or.inl (q)))))))))); exact Or.inr (Or.inr (Or.inr (Or.inr (Or.inr (Or.inr (Or.inr (Or.inr (Or.inr (Or.inr (Or.inl (q))))))))))); exact Or.inr (Or.inr (Or.inr (Or.inr (Or.inr (Or.inr (Or.inr (Or.inr (Or.inr (Or.inr (Or.inr (Or.inl (q)))))))))))); exact Or.inr (Or.inr (Or.inr (Or.inr (Or.inr (Or.inr (Or.inr (Or.inr (Or.inr (Or.inr (Or.inr (Or.inr (Or.inl (q))))))))))))); exact Or.inr (Or.inr (Or.inr (Or.inr (Or.inr (Or.inr (Or.inr (Or.inr (Or.inr (Or.inr (Or.inr (Or.inr (Or.inr (Or.inl (q)))))))))))))); exact Or.inr (Or.inr (Or.inr (Or.inr (Or.inr (Or.inr (Or.inr (Or.inr (Or.inr (Or.inr (Or.inr (Or.inr (Or.inr (Or.inr (Or.inl (q))))))))))))))); exact Or.inr (Or.inr (Or.inr (Or.inr (Or.inr (Or.inr (Or.inr (Or.inr (Or.inr (Or.inr (Or.inr (Or.inr (Or.inr (Or.inr (Or.inr (Or.inl (q)))))))))))))))); exact Or.inr (Or.inr (Or.inr (Or.inr (Or.inr (Or.inr (Or.inr (Or.inr (Or.inr (Or.inr (Or.inr (Or.inr (Or.inr (Or.inr (Or.inr (Or.inr (Or.inl (q))))))))))))))))); exact Or.inr (Or.inr (Or.inr (Or.inr (Or.inr (Or.inr (Or.inr (Or.inr (Or.inr (Or.inr (Or.inr (Or.inr (Or.inr (Or.inr (Or.inr (Or.inr (Or.inr ((q))))))))))))))))))) (fun _ _ q => False.elim q))
def w1_lp_X11_readsAll_35 (a k : Nat) : Prop := (a = 145 ∧ k = 7) ∨ (a = 145 ∧ k = 8) ∨ (a = 145 ∧ k = 9) ∨ (a = 145 ∧ k = 13) ∨ (a = 145 ∧ k = 14) ∨ (a = 145 ∧ k = 15) ∨ (a = 145 ∧ k = 17) ∨ (a = 145 ∧ k = 18) ∨ (a = 145 ∧ k = 19) ∨ (a = 145 ∧ k = 21) ∨ a = 147 ∨ a = 148 ∨ a = 149 ∨ a = 150 ∨ a = 151 ∨ a = 152 ∨ a = 153 ∨ a = 154
def w2_lp_X11_readsAll_35 (a k : Nat) : Prop := False
theorem fr_lp_X11_readsAll_35 {K : Int32 → fS → Option (Int32 × fS)} {r : Int32 × fS} {v1 v2 : Nat → Nat → Prop} (s1 : ∀ a k, w1_lp_X11_readsAll_35 a k → v1 a k) (s2 : ∀ a k, w2_lp_X11_readsAll_35 a k → v2 a k) (hK : ∀ (x0 : Int32) (x1 : fS), K x0 x1 = some r → Fr v1 v2 x1 r.2) : ∀ (n : Nat) (p1 : Int32) (S0 : fS), lp_X11_readsAll_35 K n p1 S0 = some r → Fr v1 v2 S0 r.2 := by
  intro n
  induction n with
  | zero => intro p1 S0 h; exact mm_no h
  | succ n ih =>
    intro p1 S0 h
    rw [lp_X11_readsAll_35.eq_2] at h
    rcases fr_ite h with h1 | h1
    ·
      exact (Fr.rf (S := S0)).tr (hK _ _ h1)
    ·
      obtain ⟨q20, e2, h3⟩ := Option.bind_eq_some_iff.mp h1
      have f4 : Fr v1 v2 S0 q20.2 := (Fr.rf (S := S0)).tr (Fr.mo (fr_f_X11_see e2) (fun a k q => by refine s1 _ _ ?_; unfold w1_f_X11_see at q; unfold w1_lp_X11_readsAll_35; exact Or.inr (Or.inr (Or.inr (Or.inl (q))))) (fun _ _ q => False.elim q))
      rcases fr_ite h3 with h5 | h5
      ·
        obtain ⟨S24, e6, h7⟩ := Option.bind_eq_some_iff.mp h5
        have f8 : Fr v1 v2 S0 S24 := f4.tr (fr_pI e6 (by refine s1 _ _ ?_; unfold w1_lp_X11_readsAll_35; exact Or.inr (Or.inr (Or.inr (Or.inl (⟨rfl, rfl⟩))))))
        obtain ⟨q27, e9, h10⟩ := Option.bind_eq_some_iff.mp h7
        have f11 : Fr v1 v2 S0 q27.2 := f8.tr (Fr.mo (fr_f_X11_clauseHere e9) (fun a k q => by refine s1 _ _ ?_; unfold w1_f_X11_clauseHere at q; unfold w1_lp_X11_readsAll_35; rcases q with q | q | q | q | q | q | q | q | q | q | q | q | q | q | q | q | q | q; exact Or.inl (q); exact Or.inr (Or.inl (q)); exact Or.inr (Or.inr (Or.inl (q))); exact Or.inr (Or.inr (Or.inr (Or.inl (q)))); exact Or.inr (Or.inr (Or.inr (Or.inr (Or.inl (q))))); exact Or.inr (Or.inr (Or.inr (Or.inr (Or.inr (Or.inl (q)))))); exact Or.inr (Or.inr (Or.inr (Or.inr (Or.inr (Or.inr (Or.inl (q))))))); exact Or.inr (Or.inr (Or.inr (Or.inr (Or.inr (Or.inr (Or.inr (Or.inl (q)))))))); exact Or.inr (Or.inr (Or.inr (Or.inr (Or.inr (Or.inr (Or.inr (Or.inr (Or.inl (q))))))))); exact Or.inr (Or.inr (Or.inr (Or.inr (Or.inr (Or.inr (Or.inr (Or.inr (Or.inr (Or.inl (q)))))))))); exact Or.inr (Or.inr (Or.inr (Or.inr (Or.inr (Or.inr (Or.inr (Or.inr (Or.inr (Or.inr (Or.inl (q))))))))))); exact Or.inr (Or.inr (Or.inr (Or.inr (Or.inr (Or.inr (Or.inr (Or.inr (Or.inr (Or.inr (Or.inr (Or.inl (q)))))))))))); exact Or.inr (Or.inr (Or.inr (Or.inr (Or.inr (Or.inr (Or.inr (Or.inr (Or.inr (Or.inr (Or.inr (Or.inr (Or.inl (q))))))))))))); exact Or.inr (Or.inr (Or.inr (Or.inr (Or.inr (Or.inr (Or.inr (Or.inr (Or.inr (Or.inr (Or.inr (Or.inr (Or.inr (Or.inl (q)))))))))))))); exact Or.inr (Or.inr (Or.inr (Or.inr (Or.inr (Or.inr (Or.inr (Or.inr (Or.inr (Or.inr (Or.inr (Or.inr (Or.inr (Or.inr (Or.inl (q))))))))))))))); exact Or.inr (Or.inr (Or.inr (Or.inr (Or.inr (Or.inr (Or.inr (Or.inr (Or.inr (Or.inr (Or.inr (Or.inr (Or.inr (Or.inr (Or.inr (Or.inl (q)))))))))))))))); exact Or.inr (Or.inr (Or.inr (Or.inr (Or.inr (Or.inr (Or.inr (Or.inr (Or.inr (Or.inr (Or.inr (Or.inr (Or.inr (Or.inr (Or.inr (Or.inr (Or.inl (q))))))))))))))))); exact Or.inr (Or.inr (Or.inr (Or.inr (Or.inr (Or.inr (Or.inr (Or.inr (Or.inr (Or.inr (Or.inr (Or.inr (Or.inr (Or.inr (Or.inr (Or.inr (Or.inr ((q))))))))))))))))))) (fun _ _ q => False.elim q))
        exact f11.tr (ih _ _ h10)
      ·
        exact f4.tr (hK _ _ h5)
def w1_f_X11_readsAll (a k : Nat) : Prop := (a = 145 ∧ k = 1) ∨ (a = 145 ∧ k = 7) ∨ (a = 145 ∧ k = 8) ∨ (a = 145 ∧ k = 9) ∨ (a = 145 ∧ k = 13) ∨ (a = 145 ∧ k = 14) ∨ (a = 145 ∧ k = 15) ∨ (a = 145 ∧ k = 17) ∨ (a = 145 ∧ k = 18) ∨ (a = 145 ∧ k = 19) ∨ (a = 145 ∧ k = 21) ∨ a = 147 ∨ a = 148 ∨ a = 149 ∨ a = 150 ∨ a = 151 ∨ a = 152 ∨ a = 153 ∨ a = 154
def w2_f_X11_readsAll (a k : Nat) : Prop := False
theorem fr_f_X11_readsAll {S : fS} {r : Int32 × fS} (h : f_X11_readsAll S = some r) : Fr (w1_f_X11_readsAll) (w2_f_X11_readsAll) S r.2 := by
  unfold f_X11_readsAll at h
  obtain ⟨S1, e1, h2⟩ := Option.bind_eq_some_iff.mp h
  have f3 : Fr (w1_f_X11_readsAll) (w2_f_X11_readsAll) S S1 := (Fr.rf (S := S)).tr (fr_sI e1 (fun k => by unfold w1_f_X11_readsAll; exact Or.inr (Or.inr (Or.inr (Or.inr (Or.inr (Or.inr (Or.inr (Or.inr (Or.inr (Or.inr (Or.inr (Or.inr (Or.inl (rfl)))))))))))))))
  obtain ⟨S4, e4, h5⟩ := Option.bind_eq_some_iff.mp h2
  have f6 : Fr (w1_f_X11_readsAll) (w2_f_X11_readsAll) S S4 := f3.tr (fr_pI e4 (by unfold w1_f_X11_readsAll; exact Or.inr (Or.inr (Or.inr (Or.inr (Or.inr (Or.inr (Or.inr (Or.inr (Or.inr (Or.inl (⟨rfl, rfl⟩))))))))))))
  obtain ⟨S7, e7, h8⟩ := Option.bind_eq_some_iff.mp h5
  have f9 : Fr (w1_f_X11_readsAll) (w2_f_X11_readsAll) S S7 := f6.tr (fr_pI e7 (by unfold w1_f_X11_readsAll; exact Or.inr (Or.inr (Or.inr (Or.inr (Or.inl (⟨rfl, rfl⟩)))))))
  obtain ⟨S10, e10, h11⟩ := Option.bind_eq_some_iff.mp h8
  have f12 : Fr (w1_f_X11_readsAll) (w2_f_X11_readsAll) S S10 := f9.tr (fr_pI e10 (by unfold w1_f_X11_readsAll; exact Or.inr (Or.inr (Or.inr (Or.inr (Or.inr (Or.inl (⟨rfl, rfl⟩))))))))
  obtain ⟨S13, e13, h14⟩ := Option.bind_eq_some_iff.mp h11
  have f15 : Fr (w1_f_X11_readsAll) (w2_f_X11_readsAll) S S13 := f12.tr (fr_pI e13 (by unfold w1_f_X11_readsAll; exact Or.inr (Or.inr (Or.inr (Or.inr (Or.inr (Or.inr (Or.inr (Or.inl (⟨rfl, rfl⟩))))))))))
  obtain ⟨q16, e16, h17⟩ := Option.bind_eq_some_iff.mp h14
  have f18 : Fr (w1_f_X11_readsAll) (w2_f_X11_readsAll) S q16.2 := f15.tr (Fr.mo (fr_f_X11_clauseHere e16) (fun a k q => by unfold w1_f_X11_clauseHere at q; unfold w1_f_X11_readsAll; rcases q with q | q | q | q | q | q | q | q | q | q | q | q | q | q | q | q | q | q; exact Or.inr (Or.inl (q)); exact Or.inr (Or.inr (Or.inl (q))); exact Or.inr (Or.inr (Or.inr (Or.inl (q)))); exact Or.inr (Or.inr (Or.inr (Or.inr (Or.inl (q))))); exact Or.inr (Or.inr (Or.inr (Or.inr (Or.inr (Or.inl (q)))))); exact Or.inr (Or.inr (Or.inr (Or.inr (Or.inr (Or.inr (Or.inl (q))))))); exact Or.inr (Or.inr (Or.inr (Or.inr (Or.inr (Or.inr (Or.inr (Or.inl (q)))))))); exact Or.inr (Or.inr (Or.inr (Or.inr (Or.inr (Or.inr (Or.inr (Or.inr (Or.inl (q))))))))); exact Or.inr (Or.inr (Or.inr (Or.inr (Or.inr (Or.inr (Or.inr (Or.inr (Or.inr (Or.inl (q)))))))))); exact Or.inr (Or.inr (Or.inr (Or.inr (Or.inr (Or.inr (Or.inr (Or.inr (Or.inr (Or.inr (Or.inl (q))))))))))); exact Or.inr (Or.inr (Or.inr (Or.inr (Or.inr (Or.inr (Or.inr (Or.inr (Or.inr (Or.inr (Or.inr (Or.inl (q)))))))))))); exact Or.inr (Or.inr (Or.inr (Or.inr (Or.inr (Or.inr (Or.inr (Or.inr (Or.inr (Or.inr (Or.inr (Or.inr (Or.inl (q))))))))))))); exact Or.inr (Or.inr (Or.inr (Or.inr (Or.inr (Or.inr (Or.inr (Or.inr (Or.inr (Or.inr (Or.inr (Or.inr (Or.inr (Or.inl (q)))))))))))))); exact Or.inr (Or.inr (Or.inr (Or.inr (Or.inr (Or.inr (Or.inr (Or.inr (Or.inr (Or.inr (Or.inr (Or.inr (Or.inr (Or.inr (Or.inl (q))))))))))))))); exact Or.inr (Or.inr (Or.inr (Or.inr (Or.inr (Or.inr (Or.inr (Or.inr (Or.inr (Or.inr (Or.inr (Or.inr (Or.inr (Or.inr (Or.inr (Or.inl (q)))))))))))))))); exact Or.inr (Or.inr (Or.inr (Or.inr (Or.inr (Or.inr (Or.inr (Or.inr (Or.inr (Or.inr (Or.inr (Or.inr (Or.inr (Or.inr (Or.inr (Or.inr (Or.inl (q))))))))))))))))); exact Or.inr (Or.inr (Or.inr (Or.inr (Or.inr (Or.inr (Or.inr (Or.inr (Or.inr (Or.inr (Or.inr (Or.inr (Or.inr (Or.inr (Or.inr (Or.inr (Or.inr (Or.inl (q)))))))))))))))))); exact Or.inr (Or.inr (Or.inr (Or.inr (Or.inr (Or.inr (Or.inr (Or.inr (Or.inr (Or.inr (Or.inr (Or.inr (Or.inr (Or.inr (Or.inr (Or.inr (Or.inr (Or.inr ((q)))))))))))))))))))) (fun _ _ q => False.elim q))
  refine f18.tr (fr_lp_X11_readsAll_35 (v1 := w1_f_X11_readsAll) (v2 := w2_f_X11_readsAll) (fun a k q => by unfold w1_lp_X11_readsAll_35 at q; unfold w1_f_X11_readsAll; rcases q with q | q | q | q | q | q | q | q | q | q | q | q | q | q | q | q | q | q; exact Or.inr (Or.inl (q)); exact Or.inr (Or.inr (Or.inl (q))); exact Or.inr (Or.inr (Or.inr (Or.inl (q)))); exact Or.inr (Or.inr (Or.inr (Or.inr (Or.inl (q))))); exact Or.inr (Or.inr (Or.inr (Or.inr (Or.inr (Or.inl (q)))))); exact Or.inr (Or.inr (Or.inr (Or.inr (Or.inr (Or.inr (Or.inl (q))))))); exact Or.inr (Or.inr (Or.inr (Or.inr (Or.inr (Or.inr (Or.inr (Or.inl (q)))))))); exact Or.inr (Or.inr (Or.inr (Or.inr (Or.inr (Or.inr (Or.inr (Or.inr (Or.inl (q))))))))); exact Or.inr (Or.inr (Or.inr (Or.inr (Or.inr (Or.inr (Or.inr (Or.inr (Or.inr (Or.inl (q)))))))))); exact Or.inr (Or.inr (Or.inr (Or.inr (Or.inr (Or.inr (Or.inr (Or.inr (Or.inr (Or.inr (Or.inl (q))))))))))); exact Or.inr (Or.inr (Or.inr (Or.inr (Or.inr (Or.inr (Or.inr (Or.inr (Or.inr (Or.inr (Or.inr (Or.inl (q)))))))))))); exact Or.inr (Or.inr (Or.inr (Or.inr (Or.inr (Or.inr (Or.inr (Or.inr (Or.inr (Or.inr (Or.inr (Or.inr (Or.inl (q))))))))))))); exact Or.inr (Or.inr (Or.inr (Or.inr (Or.inr (Or.inr (Or.inr (Or.inr (Or.inr (Or.inr (Or.inr (Or.inr (Or.inr (Or.inl (q)))))))))))))); exact Or.inr (Or.inr (Or.inr (Or.inr (Or.inr (Or.inr (Or.inr (Or.inr (Or.inr (Or.inr (Or.inr (Or.inr (Or.inr (Or.inr (Or.inl (q))))))))))))))); exact Or.inr (Or.inr (Or.inr (Or.inr (Or.inr (Or.inr (Or.inr (Or.inr (Or.inr (Or.inr (Or.inr (Or.inr (Or.inr (Or.inr (Or.inr (Or.inl (q)))))))))))))))); exact Or.inr (Or.inr (Or.inr (Or.inr (Or.inr (Or.inr (Or.inr (Or.inr (Or.inr (Or.inr (Or.inr (Or.inr (Or.inr (Or.inr (Or.inr (Or.inr (Or.inl (q))))))))))))))))); exact Or.inr (Or.inr (Or.inr (Or.inr (Or.inr (Or.inr (Or.inr (Or.inr (Or.inr (Or.inr (Or.inr (Or.inr (Or.inr (Or.inr (Or.inr (Or.inr (Or.inr (Or.inl (q)))))))))))))))))); exact Or.inr (Or.inr (Or.inr (Or.inr (Or.inr (Or.inr (Or.inr (Or.inr (Or.inr (Or.inr (Or.inr (Or.inr (Or.inr (Or.inr (Or.inr (Or.inr (Or.inr (Or.inr ((q)))))))))))))))))))) (fun _ _ q => False.elim q) (fun u30 S31 h19 => ?_) _ _ _ h17)
  rcases fr_ite h19 with h20 | h20
  ·
    rcases fr_ite h20 with h21 | h21
    ·
      obtain ⟨S35, e22, h23⟩ := Option.bind_eq_some_iff.mp h21
      have f24 : Fr (w1_f_X11_readsAll) (w2_f_X11_readsAll) S31 S35 := (Fr.rf (S := S31)).tr (fr_pI e22 (by unfold w1_f_X11_readsAll; exact Or.inl (⟨rfl, rfl⟩)))
      rcases fr_ite h23 with h25 | h25
      ·
        exact fr_e2 h25 f24
      ·
        exact fr_e2 h25 f24
    ·
      rcases fr_ite h21 with h26 | h26
      ·
        rcases fr_ite h26 with h27 | h27
        ·
          obtain ⟨q49, e28, h29⟩ := Option.bind_eq_some_iff.mp h27
          have f30 : Fr (w1_f_X11_readsAll) (w2_f_X11_readsAll) S31 q49.2 := (Fr.rf (S := S31)).tr (Fr.mo (fr_f_X11_fails e28) (fun a k q => by unfold w1_f_X11_fails at q; unfold w1_f_X11_readsAll; exact Or.inr (Or.inr (Or.inr (Or.inr (Or.inr (Or.inl (q))))))) (fun _ _ q => False.elim q))
          obtain ⟨S52, e31, h32⟩ := Option.bind_eq_some_iff.mp h29
          have f33 : Fr (w1_f_X11_readsAll) (w2_f_X11_readsAll) S31 S52 := f30.tr (fr_pI e31 (by unfold w1_f_X11_readsAll; exact Or.inl (⟨rfl, rfl⟩)))
          rcases fr_ite h32 with h34 | h34
          ·
            exact fr_e2 h34 f33
          ·
            exact fr_e2 h34 f33
        ·
          obtain ⟨S45, e35, h36⟩ := Option.bind_eq_some_iff.mp h27
          have f37 : Fr (w1_f_X11_readsAll) (w2_f_X11_readsAll) S31 S45 := (Fr.rf (S := S31)).tr (fr_pI e35 (by unfold w1_f_X11_readsAll; exact Or.inl (⟨rfl, rfl⟩)))
          rcases fr_ite h36 with h38 | h38
          ·
            exact fr_e2 h38 f37
          ·
            exact fr_e2 h38 f37
      ·
        obtain ⟨S40, e39, h40⟩ := Option.bind_eq_some_iff.mp h26
        have f41 : Fr (w1_f_X11_readsAll) (w2_f_X11_readsAll) S31 S40 := (Fr.rf (S := S31)).tr (fr_pI e39 (by unfold w1_f_X11_readsAll; exact Or.inl (⟨rfl, rfl⟩)))
        rcases fr_ite h40 with h42 | h42
        ·
          exact fr_e2 h42 f41
        ·
          exact fr_e2 h42 f41
  ·
    obtain ⟨q56, e43, h44⟩ := Option.bind_eq_some_iff.mp h20
    have f45 : Fr (w1_f_X11_readsAll) (w2_f_X11_readsAll) S31 q56.2 := (Fr.rf (S := S31)).tr (Fr.mo (fr_f_X11_see e43) (fun a k q => by unfold w1_f_X11_see at q; unfold w1_f_X11_readsAll; exact Or.inr (Or.inr (Or.inr (Or.inr (Or.inl (q)))))) (fun _ _ q => False.elim q))
    rcases fr_ite h44 with h46 | h46
    ·
      rcases fr_ite h46 with h47 | h47
      ·
        obtain ⟨S61, e48, h49⟩ := Option.bind_eq_some_iff.mp h47
        have f50 : Fr (w1_f_X11_readsAll) (w2_f_X11_readsAll) S31 S61 := f45.tr (fr_pI e48 (by unfold w1_f_X11_readsAll; exact Or.inl (⟨rfl, rfl⟩)))
        rcases fr_ite h49 with h51 | h51
        ·
          exact fr_e2 h51 f50
        ·
          exact fr_e2 h51 f50
      ·
        rcases fr_ite h47 with h52 | h52
        ·
          rcases fr_ite h52 with h53 | h53
          ·
            obtain ⟨q75, e54, h55⟩ := Option.bind_eq_some_iff.mp h53
            have f56 : Fr (w1_f_X11_readsAll) (w2_f_X11_readsAll) S31 q75.2 := f45.tr (Fr.mo (fr_f_X11_fails e54) (fun a k q => by unfold w1_f_X11_fails at q; unfold w1_f_X11_readsAll; exact Or.inr (Or.inr (Or.inr (Or.inr (Or.inr (Or.inl (q))))))) (fun _ _ q => False.elim q))
            obtain ⟨S78, e57, h58⟩ := Option.bind_eq_some_iff.mp h55
            have f59 : Fr (w1_f_X11_readsAll) (w2_f_X11_readsAll) S31 S78 := f56.tr (fr_pI e57 (by unfold w1_f_X11_readsAll; exact Or.inl (⟨rfl, rfl⟩)))
            rcases fr_ite h58 with h60 | h60
            ·
              exact fr_e2 h60 f59
            ·
              exact fr_e2 h60 f59
          ·
            obtain ⟨S71, e61, h62⟩ := Option.bind_eq_some_iff.mp h53
            have f63 : Fr (w1_f_X11_readsAll) (w2_f_X11_readsAll) S31 S71 := f45.tr (fr_pI e61 (by unfold w1_f_X11_readsAll; exact Or.inl (⟨rfl, rfl⟩)))
            rcases fr_ite h62 with h64 | h64
            ·
              exact fr_e2 h64 f63
            ·
              exact fr_e2 h64 f63
        ·
          obtain ⟨S66, e65, h66⟩ := Option.bind_eq_some_iff.mp h52
          have f67 : Fr (w1_f_X11_readsAll) (w2_f_X11_readsAll) S31 S66 := f45.tr (fr_pI e65 (by unfold w1_f_X11_readsAll; exact Or.inl (⟨rfl, rfl⟩)))
          rcases fr_ite h66 with h68 | h68
          ·
            exact fr_e2 h68 f67
          ·
            exact fr_e2 h68 f67
    ·
      obtain ⟨q82, e69, h70⟩ := Option.bind_eq_some_iff.mp h46
      have f71 : Fr (w1_f_X11_readsAll) (w2_f_X11_readsAll) S31 q82.2 := f45.tr (Fr.mo (fr_f_X11_fails e69) (fun a k q => by unfold w1_f_X11_fails at q; unfold w1_f_X11_readsAll; exact Or.inr (Or.inr (Or.inr (Or.inr (Or.inr (Or.inl (q))))))) (fun _ _ q => False.elim q))
      rcases fr_ite h70 with h72 | h72
      ·
        obtain ⟨S86, e73, h74⟩ := Option.bind_eq_some_iff.mp h72
        have f75 : Fr (w1_f_X11_readsAll) (w2_f_X11_readsAll) S31 S86 := f71.tr (fr_pI e73 (by unfold w1_f_X11_readsAll; exact Or.inl (⟨rfl, rfl⟩)))
        rcases fr_ite h74 with h76 | h76
        ·
          exact fr_e2 h76 f75
        ·
          exact fr_e2 h76 f75
      ·
        rcases fr_ite h72 with h77 | h77
        ·
          rcases fr_ite h77 with h78 | h78
          ·
            obtain ⟨q100, e79, h80⟩ := Option.bind_eq_some_iff.mp h78
            have f81 : Fr (w1_f_X11_readsAll) (w2_f_X11_readsAll) S31 q100.2 := f71.tr (Fr.mo (fr_f_X11_fails e79) (fun a k q => by unfold w1_f_X11_fails at q; unfold w1_f_X11_readsAll; exact Or.inr (Or.inr (Or.inr (Or.inr (Or.inr (Or.inl (q))))))) (fun _ _ q => False.elim q))
            obtain ⟨S103, e82, h83⟩ := Option.bind_eq_some_iff.mp h80
            have f84 : Fr (w1_f_X11_readsAll) (w2_f_X11_readsAll) S31 S103 := f81.tr (fr_pI e82 (by unfold w1_f_X11_readsAll; exact Or.inl (⟨rfl, rfl⟩)))
            rcases fr_ite h83 with h85 | h85
            ·
              exact fr_e2 h85 f84
            ·
              exact fr_e2 h85 f84
          ·
            obtain ⟨S96, e86, h87⟩ := Option.bind_eq_some_iff.mp h78
            have f88 : Fr (w1_f_X11_readsAll) (w2_f_X11_readsAll) S31 S96 := f71.tr (fr_pI e86 (by unfold w1_f_X11_readsAll; exact Or.inl (⟨rfl, rfl⟩)))
            rcases fr_ite h87 with h89 | h89
            ·
              exact fr_e2 h89 f88
            ·
              exact fr_e2 h89 f88
        ·
          obtain ⟨S91, e90, h91⟩ := Option.bind_eq_some_iff.mp h77
          have f92 : Fr (w1_f_X11_readsAll) (w2_f_X11_readsAll) S31 S91 := f71.tr (fr_pI e90 (by unfold w1_f_X11_readsAll; exact Or.inl (⟨rfl, rfl⟩)))
          rcases fr_ite h91 with h93 | h93
          ·
            exact fr_e2 h93 f92
          ·
            exact fr_e2 h93 f92
def w1_f_X11_rule (a k : Nat) : Prop := (a = 145 ∧ k = 1) ∨ (a = 145 ∧ k = 2) ∨ (a = 145 ∧ k = 7) ∨ (a = 145 ∧ k = 8) ∨ (a = 145 ∧ k = 9) ∨ (a = 145 ∧ k = 13) ∨ (a = 145 ∧ k = 14) ∨ (a = 145 ∧ k = 15) ∨ (a = 145 ∧ k = 16) ∨ (a = 145 ∧ k = 17) ∨ (a = 145 ∧ k = 18) ∨ (a = 145 ∧ k = 19) ∨ (a = 145 ∧ k = 21) ∨ a = 147 ∨ a = 148 ∨ a = 149 ∨ a = 150 ∨ a = 151 ∨ a = 152 ∨ a = 153 ∨ a = 154
def w2_f_X11_rule (a k : Nat) : Prop := False
theorem fr_f_X11_rule {S : fS} {r : Int32 × fS} (h : f_X11_rule S = some r) : Fr (w1_f_X11_rule) (w2_f_X11_rule) S r.2 := by
  unfold f_X11_rule at h
  rcases fr_ite h with h1 | h1
  ·
    exact fr_e2 h1 (Fr.rf (S := S))
  ·
    obtain ⟨S2, e2, h3⟩ := Option.bind_eq_some_iff.mp h1
    have f4 : Fr (w1_f_X11_rule) (w2_f_X11_rule) S S2 := (Fr.rf (S := S)).tr (fr_pI e2 (by unfold w1_f_X11_rule; exact Or.inr (Or.inr (Or.inr (Or.inr (Or.inr (Or.inr (Or.inr (Or.inr (Or.inl (⟨rfl, rfl⟩)))))))))))
    obtain ⟨S5, e5, h6⟩ := Option.bind_eq_some_iff.mp h3
    have f7 : Fr (w1_f_X11_rule) (w2_f_X11_rule) S S5 := f4.tr (fr_sI e5 (fun k => by unfold w1_f_X11_rule; exact Or.inr (Or.inr (Or.inr (Or.inr (Or.inr (Or.inr (Or.inr (Or.inr (Or.inr (Or.inr (Or.inr (Or.inr (Or.inr (Or.inr (Or.inr (Or.inr (Or.inl (rfl)))))))))))))))))))
    obtain ⟨q8, e8, h9⟩ := Option.bind_eq_some_iff.mp h6
    have f10 : Fr (w1_f_X11_rule) (w2_f_X11_rule) S q8.2 := f7.tr (Fr.mo (fr_f_X11_readsAll e8) (fun a k q => by unfold w1_f_X11_readsAll at q; unfold w1_f_X11_rule; rcases q with q | q | q | q | q | q | q | q | q | q | q | q | q | q | q | q | q | q | q; exact Or.inl (q); exact Or.inr (Or.inr (Or.inl (q))); exact Or.inr (Or.inr (Or.inr (Or.inl (q)))); exact Or.inr (Or.inr (Or.inr (Or.inr (Or.inl (q))))); exact Or.inr (Or.inr (Or.inr (Or.inr (Or.inr (Or.inl (q)))))); exact Or.inr (Or.inr (Or.inr (Or.inr (Or.inr (Or.inr (Or.inl (q))))))); exact Or.inr (Or.inr (Or.inr (Or.inr (Or.inr (Or.inr (Or.inr (Or.inl (q)))))))); exact Or.inr (Or.inr (Or.inr (Or.inr (Or.inr (Or.inr (Or.inr (Or.inr (Or.inr (Or.inl (q)))))))))); exact Or.inr (Or.inr (Or.inr (Or.inr (Or.inr (Or.inr (Or.inr (Or.inr (Or.inr (Or.inr (Or.inl (q))))))))))); exact Or.inr (Or.inr (Or.inr (Or.inr (Or.inr (Or.inr (Or.inr (Or.inr (Or.inr (Or.inr (Or.inr (Or.inl (q)))))))))))); exact Or.inr (Or.inr (Or.inr (Or.inr (Or.inr (Or.inr (Or.inr (Or.inr (Or.inr (Or.inr (Or.inr (Or.inr (Or.inl (q))))))))))))); exact Or.inr (Or.inr (Or.inr (Or.inr (Or.inr (Or.inr (Or.inr (Or.inr (Or.inr (Or.inr (Or.inr (Or.inr (Or.inr (Or.inl (q)))))))))))))); exact Or.inr (Or.inr (Or.inr (Or.inr (Or.inr (Or.inr (Or.inr (Or.inr (Or.inr (Or.inr (Or.inr (Or.inr (Or.inr (Or.inr (Or.inl (q))))))))))))))); exact Or.inr (Or.inr (Or.inr (Or.inr (Or.inr (Or.inr (Or.inr (Or.inr (Or.inr (Or.inr (Or.inr (Or.inr (Or.inr (Or.inr (Or.inr (Or.inl (q)))))))))))))))); exact Or.inr (Or.inr (Or.inr (Or.inr (Or.inr (Or.inr (Or.inr (Or.inr (Or.inr (Or.inr (Or.inr (Or.inr (Or.inr (Or.inr (Or.inr (Or.inr (Or.inl (q))))))))))))))))); exact Or.inr (Or.inr (Or.inr (Or.inr (Or.inr (Or.inr (Or.inr (Or.inr (Or.inr (Or.inr (Or.inr (Or.inr (Or.inr (Or.inr (Or.inr (Or.inr (Or.inr (Or.inl (q)))))))))))))))))); exact Or.inr (Or.inr (Or.inr (Or.inr (Or.inr (Or.inr (Or.inr (Or.inr (Or.inr (Or.inr (Or.inr (Or.inr (Or.inr (Or.inr (Or.inr (Or.inr (Or.inr (Or.inr (Or.inl (q))))))))))))))))))); exact Or.inr (Or.inr (Or.inr (Or.inr (Or.inr (Or.inr (Or.inr (Or.inr (Or.inr (Or.inr (Or.inr (Or.inr (Or.inr (Or.inr (Or.inr (Or.inr (Or.inr (Or.inr (Or.inr (Or.inl (q)))))))))))))))))))); exact Or.inr (Or.inr (Or.inr (Or.inr (Or.inr (Or.inr (Or.inr (Or.inr (Or.inr (Or.inr (Or.inr (Or.inr (Or.inr (Or.inr (Or.inr (Or.inr (Or.inr (Or.inr (Or.inr (Or.inr ((q)))))))))))))))))))))) (fun _ _ q => False.elim q))
    rcases fr_ite h9 with h11 | h11
    ·
      exact fr_e2 h11 f10
    ·
      obtain ⟨S12, e12, h13⟩ := Option.bind_eq_some_iff.mp h11
      have f14 : Fr (w1_f_X11_rule) (w2_f_X11_rule) S S12 := f10.tr (fr_pI e12 (by unfold w1_f_X11_rule; exact Or.inr (Or.inl (⟨rfl, rfl⟩))))
      exact fr_e2 h13 f14
def w1_f_X11_stands (a k : Nat) : Prop := a = 157
def w2_f_X11_stands (a k : Nat) : Prop := False
theorem fr_f_X11_stands {v1 : Int32} {v2 : Int32} {S : fS} {r : fS} (h : f_X11_stands v1 v2 S = some r) : Fr (w1_f_X11_stands) (w2_f_X11_stands) S r := by
  unfold f_X11_stands at h
  obtain ⟨S1, e1, h2⟩ := Option.bind_eq_some_iff.mp h
  have f3 : Fr (w1_f_X11_stands) (w2_f_X11_stands) S S1 := (Fr.rf (S := S)).tr (fr_sI e1 (fun k => by unfold w1_f_X11_stands; exact rfl))
  obtain ⟨S4, e4, h5⟩ := Option.bind_eq_some_iff.mp h2
  have f6 : Fr (w1_f_X11_stands) (w2_f_X11_stands) S S4 := f3.tr (fr_sI e4 (fun k => by unfold w1_f_X11_stands; exact rfl))
  obtain ⟨S7, e7, h8⟩ := Option.bind_eq_some_iff.mp h5
  have f9 : Fr (w1_f_X11_stands) (w2_f_X11_stands) S S7 := f6.tr (fr_sI e7 (fun k => by unfold w1_f_X11_stands; exact rfl))
  obtain ⟨S10, e10, h11⟩ := Option.bind_eq_some_iff.mp h8
  have f12 : Fr (w1_f_X11_stands) (w2_f_X11_stands) S S10 := f9.tr (fr_sI e10 (fun k => by unfold w1_f_X11_stands; exact rfl))
  exact fr_e1 h11 f12
def w1_lp_X11_spreads_10 (a k : Nat) : Prop := False
def w2_lp_X11_spreads_10 (a k : Nat) : Prop := a = 161
theorem fr_lp_X11_spreads_10 {p1 : Int32} {K : fS → Option (fS)} {r : fS} {v1 v2 : Nat → Nat → Prop} (s1 : ∀ a k, w1_lp_X11_spreads_10 a k → v1 a k) (s2 : ∀ a k, w2_lp_X11_spreads_10 a k → v2 a k) (hK : ∀ (x0 : fS), K x0 = some r → Fr v1 v2 x0 r) : ∀ (n : Nat) (p2 : Int32) (S0 : fS), lp_X11_spreads_10 p1 K n p2 S0 = some r → Fr v1 v2 S0 r := by
  intro n
  induction n with
  | zero => intro p2 S0 h; exact mm_no h
  | succ n ih =>
    intro p2 S0 h
    rw [lp_X11_spreads_10.eq_2] at h
    rcases fr_ite h with h1 | h1
    ·
      exact (Fr.rf (S := S0)).tr (hK _ h1)
    ·
      rcases fr_ite h1 with h2 | h2
      ·
        obtain ⟨S7, e3, h4⟩ := Option.bind_eq_some_iff.mp h2
        have f5 : Fr v1 v2 S0 S7 := (Fr.rf (S := S0)).tr (fr_sL e3 (fun k => by refine s2 _ _ ?_; unfold w2_lp_X11_spreads_10; exact rfl))
        exact f5.tr (ih _ _ h4)
      ·
        obtain ⟨S4, e6, h7⟩ := Option.bind_eq_some_iff.mp h2
        have f8 : Fr v1 v2 S0 S4 := (Fr.rf (S := S0)).tr (fr_sL e6 (fun k => by refine s2 _ _ ?_; unfold w2_lp_X11_spreads_10; exact rfl))
        exact f8.tr (ih _ _ h7)
def w1_lp_X11_spreads_2 (a k : Nat) : Prop := False
def w2_lp_X11_spreads_2 (a k : Nat) : Prop := a = 161
theorem fr_lp_X11_spreads_2 {K : fS → Option (fS)} {r : fS} {v1 v2 : Nat → Nat → Prop} (s1 : ∀ a k, w1_lp_X11_spreads_2 a k → v1 a k) (s2 : ∀ a k, w2_lp_X11_spreads_2 a k → v2 a k) (hK : ∀ (x0 : fS), K x0 = some r → Fr v1 v2 x0 r) : ∀ (n : Nat) (p1 : Int32) (S0 : fS), lp_X11_spreads_2 K n p1 S0 = some r → Fr v1 v2 S0 r := by
  intro n
  induction n with
  | zero => intro p1 S0 h; exact mm_no h
  | succ n ih =>
    intro p1 S0 h
    rw [lp_X11_spreads_2.eq_2] at h
    rcases fr_ite h with h1 | h1
    ·
      exact (Fr.rf (S := S0)).tr (hK _ h1)
    ·
      refine (Fr.rf (S := S0)).tr (fr_lp_X11_spreads_10 (v1 := v1) (v2 := v2) (fun _ _ q => False.elim q) (fun a k q => by refine s2 _ _ ?_; unfold w2_lp_X11_spreads_10 at q; unfold w2_lp_X11_spreads_2; exact q) (fun S10 h2 => ?_) _ _ _ h1)
      exact (Fr.rf (S := S10)).tr (ih _ _ h2)
def w1_lp_X11_spreads_53 (a k : Nat) : Prop := False
def w2_lp_X11_spreads_53 (a k : Nat) : Prop := a = 161
theorem fr_lp_X11_spreads_53 {K : fS → Option (fS)} {r : fS} {v1 v2 : Nat → Nat → Prop} (s1 : ∀ a k, w1_lp_X11_spreads_53 a k → v1 a k) (s2 : ∀ a k, w2_lp_X11_spreads_53 a k → v2 a k) (hK : ∀ (x0 : fS), K x0 = some r → Fr v1 v2 x0 r) : ∀ (n : Nat) (p1 : Int32) (S0 : fS), lp_X11_spreads_53 K n p1 S0 = some r → Fr v1 v2 S0 r := by
  intro n
  induction n with
  | zero => intro p1 S0 h; exact mm_no h
  | succ n ih =>
    intro p1 S0 h
    rw [lp_X11_spreads_53.eq_2] at h
    obtain ⟨a14, e1, h2⟩ := Option.bind_eq_some_iff.mp h
    rcases fr_ite h2 with h3 | h3
    ·
      exact (Fr.rf (S := S0)).tr (hK _ h3)
    ·
      obtain ⟨q18, e4, h5⟩ := Option.bind_eq_some_iff.mp h3
      obtain ⟨q21, e6, h7⟩ := Option.bind_eq_some_iff.mp h5
      obtain ⟨q24, e8, h9⟩ := Option.bind_eq_some_iff.mp h7
      obtain ⟨a27, e10, h11⟩ := Option.bind_eq_some_iff.mp h9
      rcases fr_ite h11 with h12 | h12
      ·
        obtain ⟨q31, e13, h14⟩ := Option.bind_eq_some_iff.mp h12
        obtain ⟨S34, e15, h16⟩ := Option.bind_eq_some_iff.mp h14
        have f17 : Fr v1 v2 S0 S34 := (Fr.rf (S := S0)).tr (fr_sL e15 (fun k => by refine s2 _ _ ?_; unfold w2_lp_X11_spreads_53; exact rfl))
        obtain ⟨q37, e18, h19⟩ := Option.bind_eq_some_iff.mp h16
        obtain ⟨S40, e20, h21⟩ := Option.bind_eq_some_iff.mp h19
        have f22 : Fr v1 v2 S0 S40 := f17.tr (fr_sL e20 (fun k => by refine s2 _ _ ?_; unfold w2_lp_X11_spreads_53; exact rfl))
        exact f22.tr (ih _ _ h21)
      ·
        exact (Fr.rf (S := S0)).tr (ih _ _ h12)
def w1_lp_X11_spreads_162 (a k : Nat) : Prop := False
def w2_lp_X11_spreads_162 (a k : Nat) : Prop := a = 161
theorem fr_lp_X11_spreads_162 {p1 : Int32} {p2 : Int32} {K : fS → Option (fS)} {r : fS} {v1 v2 : Nat → Nat → Prop} (s1 : ∀ a k, w1_lp_X11_spreads_162 a k → v1 a k) (s2 : ∀ a k, w2_lp_X11_spreads_162 a k → v2 a k) (hK : ∀ (x0 : fS), K x0 = some r → Fr v1 v2 x0 r) : ∀ (n : Nat) (p3 : Int32) (S0 : fS), lp_X11_spreads_162 p1 p2 K n p3 S0 = some r → Fr v1 v2 S0 r := by
  intro n
  induction n with
  | zero => intro p3 S0 h; exact mm_no h
  | succ n ih =>
    intro p3 S0 h
    rw [lp_X11_spreads_162.eq_2] at h
    rcases fr_ite h with h1 | h1
    ·
      exact (Fr.rf (S := S0)).tr (hK _ h1)
    ·
      obtain ⟨a48, e2, h3⟩ := Option.bind_eq_some_iff.mp h1
      obtain ⟨a51, e4, h5⟩ := Option.bind_eq_some_iff.mp h3
      obtain ⟨a54, e6, h7⟩ := Option.bind_eq_some_iff.mp h5
      rcases fr_ite h7 with h8 | h8
      ·
        exact (Fr.rf (S := S0)).tr (ih _ _ h8)
      ·
        obtain ⟨a58, e9, h10⟩ := Option.bind_eq_some_iff.mp h8
        obtain ⟨a61, e11, h12⟩ := Option.bind_eq_some_iff.mp h10
        obtain ⟨S64, e13, h14⟩ := Option.bind_eq_some_iff.mp h12
        have f15 : Fr v1 v2 S0 S64 := (Fr.rf (S := S0)).tr (fr_sL e13 (fun k => by refine s2 _ _ ?_; unfold w2_lp_X11_spreads_162; exact rfl))
        exact f15.tr (ih _ _ h14)
def w1_lp_X11_spreads_154 (a k : Nat) : Prop := False
def w2_lp_X11_spreads_154 (a k : Nat) : Prop := a = 161
theorem fr_lp_X11_spreads_154 {p1 : Int32} {K : fS → Option (fS)} {r : fS} {v1 v2 : Nat → Nat → Prop} (s1 : ∀ a k, w1_lp_X11_spreads_154 a k → v1 a k) (s2 : ∀ a k, w2_lp_X11_spreads_154 a k → v2 a k) (hK : ∀ (x0 : fS), K x0 = some r → Fr v1 v2 x0 r) : ∀ (n : Nat) (p2 : Int32) (S0 : fS), lp_X11_spreads_154 p1 K n p2 S0 = some r → Fr v1 v2 S0 r := by
  intro n
  induction n with
  | zero => intro p2 S0 h; exact mm_no h
  | succ n ih =>
    intro p2 S0 h
    rw [lp_X11_spreads_154.eq_2] at h
    rcases fr_ite h with h1 | h1
    ·
      exact (Fr.rf (S := S0)).tr (hK _ h1)
    ·
      refine (Fr.rf (S := S0)).tr (fr_lp_X11_spreads_162 (v1 := v1) (v2 := v2) (fun _ _ q => False.elim q) (fun a k q => by refine s2 _ _ ?_; unfold w2_lp_X11_spreads_162 at q; unfold w2_lp_X11_spreads_154; exact q) (fun S67 h2 => ?_) _ _ _ h1)
      exact (Fr.rf (S := S67)).tr (ih _ _ h2)
def w1_lp_X11_spreads_146 (a k : Nat) : Prop := False
def w2_lp_X11_spreads_146 (a k : Nat) : Prop := a = 161
theorem fr_lp_X11_spreads_146 {K : fS → Option (fS)} {r : fS} {v1 v2 : Nat → Nat → Prop} (s1 : ∀ a k, w1_lp_X11_spreads_146 a k → v1 a k) (s2 : ∀ a k, w2_lp_X11_spreads_146 a k → v2 a k) (hK : ∀ (x0 : fS), K x0 = some r → Fr v1 v2 x0 r) : ∀ (n : Nat) (p1 : Int32) (S0 : fS), lp_X11_spreads_146 K n p1 S0 = some r → Fr v1 v2 S0 r := by
  intro n
  induction n with
  | zero => intro p1 S0 h; exact mm_no h
  | succ n ih =>
    intro p1 S0 h
    rw [lp_X11_spreads_146.eq_2] at h
    rcases fr_ite h with h1 | h1
    ·
      exact (Fr.rf (S := S0)).tr (hK _ h1)
    ·
      refine (Fr.rf (S := S0)).tr (fr_lp_X11_spreads_154 (v1 := v1) (v2 := v2) (fun _ _ q => False.elim q) (fun a k q => by refine s2 _ _ ?_; unfold w2_lp_X11_spreads_154 at q; unfold w2_lp_X11_spreads_146; exact q) (fun S69 h2 => ?_) _ _ _ h1)
      exact (Fr.rf (S := S69)).tr (ih _ _ h2)
def w1_f_X11_spreads (a k : Nat) : Prop := False
def w2_f_X11_spreads (a k : Nat) : Prop := a = 161
theorem fr_f_X11_spreads {S : fS} {r : fS} (h : f_X11_spreads S = some r) : Fr (w1_f_X11_spreads) (w2_f_X11_spreads) S r := by
  unfold f_X11_spreads at h
  refine (Fr.rf (S := S)).tr (fr_lp_X11_spreads_2 (v1 := w1_f_X11_spreads) (v2 := w2_f_X11_spreads) (fun _ _ q => False.elim q) (fun a k q => by unfold w2_lp_X11_spreads_2 at q; unfold w2_f_X11_spreads; exact q) (fun S12 h1 => ?_) _ _ _ h)
  refine (Fr.rf (S := S12)).tr (fr_lp_X11_spreads_53 (v1 := w1_f_X11_spreads) (v2 := w2_f_X11_spreads) (fun _ _ q => False.elim q) (fun a k q => by unfold w2_lp_X11_spreads_53 at q; unfold w2_f_X11_spreads; exact q) (fun S43 h2 => ?_) _ _ _ h1)
  refine (Fr.rf (S := S43)).tr (fr_lp_X11_spreads_146 (v1 := w1_f_X11_spreads) (v2 := w2_f_X11_spreads) (fun _ _ q => False.elim q) (fun a k q => by unfold w2_lp_X11_spreads_146 at q; unfold w2_f_X11_spreads; exact q) (fun S71 h3 => ?_) _ _ _ h2)
  exact fr_e1 h3 (Fr.rf (S := S71))
def w1_lp_X11_tower_82 (a k : Nat) : Prop := a = 157
def w2_lp_X11_tower_82 (a k : Nat) : Prop := False
theorem fr_lp_X11_tower_82 {K : fS → Option (Int32 × fS)} {r : Int32 × fS} {v1 v2 : Nat → Nat → Prop} (s1 : ∀ a k, w1_lp_X11_tower_82 a k → v1 a k) (s2 : ∀ a k, w2_lp_X11_tower_82 a k → v2 a k) (hK : ∀ (x0 : fS), K x0 = some r → Fr v1 v2 x0 r.2) : ∀ (n : Nat) (p1 : Int32) (S0 : fS), lp_X11_tower_82 K n p1 S0 = some r → Fr v1 v2 S0 r.2 := by
  intro n
  induction n with
  | zero => intro p1 S0 h; exact mm_no h
  | succ n ih =>
    intro p1 S0 h
    rw [lp_X11_tower_82.eq_2] at h
    rcases fr_ite h with h1 | h1
    ·
      exact (Fr.rf (S := S0)).tr (hK _ h1)
    ·
      obtain ⟨a33, e2, h3⟩ := Option.bind_eq_some_iff.mp h1
      obtain ⟨S36, e4, h5⟩ := Option.bind_eq_some_iff.mp h3
      have f6 : Fr v1 v2 S0 S36 := (Fr.rf (S := S0)).tr (fr_sI e4 (fun k => by refine s1 _ _ ?_; unfold w1_lp_X11_tower_82; exact rfl))
      exact f6.tr (ih _ _ h5)
def w1_lp_X11_tower_115 (a k : Nat) : Prop := a = 157
def w2_lp_X11_tower_115 (a k : Nat) : Prop := False
theorem fr_lp_X11_tower_115 {K : fS → Option (Int32 × fS)} {r : Int32 × fS} {v1 v2 : Nat → Nat → Prop} (s1 : ∀ a k, w1_lp_X11_tower_115 a k → v1 a k) (s2 : ∀ a k, w2_lp_X11_tower_115 a k → v2 a k) (hK : ∀ (x0 : fS), K x0 = some r → Fr v1 v2 x0 r.2) : ∀ (n : Nat) (p1 : Int32) (S0 : fS), lp_X11_tower_115 K n p1 S0 = some r → Fr v1 v2 S0 r.2 := by
  intro n
  induction n with
  | zero => intro p1 S0 h; exact mm_no h
  | succ n ih =>
    intro p1 S0 h
    rw [lp_X11_tower_115.eq_2] at h
    rcases fr_ite h with h1 | h1
    ·
      exact (Fr.rf (S := S0)).tr (hK _ h1)
    ·
      obtain ⟨a42, e2, h3⟩ := Option.bind_eq_some_iff.mp h1
      obtain ⟨S45, e4, h5⟩ := Option.bind_eq_some_iff.mp h3
      have f6 : Fr v1 v2 S0 S45 := (Fr.rf (S := S0)).tr (fr_sI e4 (fun k => by refine s1 _ _ ?_; unfold w1_lp_X11_tower_115; exact rfl))
      exact f6.tr (ih _ _ h5)
def w1_lp_X11_tower_148 (a k : Nat) : Prop := a = 157
def w2_lp_X11_tower_148 (a k : Nat) : Prop := a = 158
theorem fr_lp_X11_tower_148 {K : fS → Option (Int32 × fS)} {r : Int32 × fS} {v1 v2 : Nat → Nat → Prop} (s1 : ∀ a k, w1_lp_X11_tower_148 a k → v1 a k) (s2 : ∀ a k, w2_lp_X11_tower_148 a k → v2 a k) (hK : ∀ (x0 : fS), K x0 = some r → Fr v1 v2 x0 r.2) : ∀ (n : Nat) (p1 : Int32) (S0 : fS), lp_X11_tower_148 K n p1 S0 = some r → Fr v1 v2 S0 r.2 := by
  intro n
  induction n with
  | zero => intro p1 S0 h; exact mm_no h
  | succ n ih =>
    intro p1 S0 h
    rw [lp_X11_tower_148.eq_2] at h
    rcases fr_ite h with h1 | h1
    ·
      exact (Fr.rf (S := S0)).tr (hK _ h1)
    ·
      obtain ⟨a51, e2, h3⟩ := Option.bind_eq_some_iff.mp h1
      obtain ⟨q54, e4, h5⟩ := Option.bind_eq_some_iff.mp h3
      have f6 : Fr v1 v2 S0 q54 := (Fr.rf (S := S0)).tr (Fr.mo (fr_f_X11_stands e4) (fun a k q => by refine s1 _ _ ?_; unfold w1_f_X11_stands at q; unfold w1_lp_X11_tower_148; exact q) (fun _ _ q => False.elim q))
      obtain ⟨S57, e7, h8⟩ := Option.bind_eq_some_iff.mp h5
      have f9 : Fr v1 v2 S0 S57 := f6.tr (fr_sL e7 (fun k => by refine s2 _ _ ?_; unfold w2_lp_X11_tower_148; exact rfl))
      exact f9.tr (ih _ _ h8)
def w1_f_X11_tower (a k : Nat) : Prop := (a = 145 ∧ k = 1) ∨ (a = 145 ∧ k = 7) ∨ (a = 145 ∧ k = 8) ∨ (a = 145 ∧ k = 9) ∨ (a = 145 ∧ k = 13) ∨ (a = 145 ∧ k = 14) ∨ (a = 145 ∧ k = 15) ∨ (a = 145 ∧ k = 16) ∨ (a = 145 ∧ k = 17) ∨ (a = 145 ∧ k = 18) ∨ (a = 145 ∧ k = 19) ∨ (a = 145 ∧ k = 21) ∨ a = 147 ∨ a = 148 ∨ a = 149 ∨ a = 150 ∨ a = 151 ∨ a = 152 ∨ a = 153 ∨ a = 154 ∨ a = 157
def w2_f_X11_tower (a k : Nat) : Prop := a = 158 ∨ a = 161
theorem fr_f_X11_tower {S : fS} {r : Int32 × fS} (h : f_X11_tower S = some r) : Fr (w1_f_X11_tower) (w2_f_X11_tower) S r.2 := by
  unfold f_X11_tower at h
  obtain ⟨S1, e1, h2⟩ := Option.bind_eq_some_iff.mp h
  have f3 : Fr (w1_f_X11_tower) (w2_f_X11_tower) S S1 := (Fr.rf (S := S)).tr (fr_pI e1 (by unfold w1_f_X11_tower; exact Or.inr (Or.inr (Or.inr (Or.inr (Or.inr (Or.inr (Or.inr (Or.inl (⟨rfl, rfl⟩))))))))))
  obtain ⟨S4, e4, h5⟩ := Option.bind_eq_some_iff.mp h2
  have f6 : Fr (w1_f_X11_tower) (w2_f_X11_tower) S S4 := f3.tr (fr_pI e4 (by unfold w1_f_X11_tower; exact Or.inr (Or.inl (⟨rfl, rfl⟩))))
  obtain ⟨S7, e7, h8⟩ := Option.bind_eq_some_iff.mp h5
  have f9 : Fr (w1_f_X11_tower) (w2_f_X11_tower) S S7 := f6.tr (fr_pI e7 (by unfold w1_f_X11_tower; exact Or.inr (Or.inr (Or.inl (⟨rfl, rfl⟩)))))
  obtain ⟨S10, e10, h11⟩ := Option.bind_eq_some_iff.mp h8
  have f12 : Fr (w1_f_X11_tower) (w2_f_X11_tower) S S10 := f9.tr (fr_pI e10 (by unfold w1_f_X11_tower; exact Or.inr (Or.inr (Or.inr (Or.inl (⟨rfl, rfl⟩))))))
  obtain ⟨q13, e13, h14⟩ := Option.bind_eq_some_iff.mp h11
  have f15 : Fr (w1_f_X11_tower) (w2_f_X11_tower) S q13.2 := f12.tr (Fr.mo (fr_f_X11_readsAll e13) (fun a k q => by unfold w1_f_X11_readsAll at q; unfold w1_f_X11_tower; rcases q with q | q | q | q | q | q | q | q | q | q | q | q | q | q | q | q | q | q | q; exact Or.inl (q); exact Or.inr (Or.inl (q)); exact Or.inr (Or.inr (Or.inl (q))); exact Or.inr (Or.inr (Or.inr (Or.inl (q)))); exact Or.inr (Or.inr (Or.inr (Or.inr (Or.inl (q))))); exact Or.inr (Or.inr (Or.inr (Or.inr (Or.inr (Or.inl (q)))))); exact Or.inr (Or.inr (Or.inr (Or.inr (Or.inr (Or.inr (Or.inl (q))))))); exact Or.inr (Or.inr (Or.inr (Or.inr (Or.inr (Or.inr (Or.inr (Or.inr (Or.inl (q))))))))); exact Or.inr (Or.inr (Or.inr (Or.inr (Or.inr (Or.inr (Or.inr (Or.inr (Or.inr (Or.inl (q)))))))))); exact Or.inr (Or.inr (Or.inr (Or.inr (Or.inr (Or.inr (Or.inr (Or.inr (Or.inr (Or.inr (Or.inl (q))))))))))); exact Or.inr (Or.inr (Or.inr (Or.inr (Or.inr (Or.inr (Or.inr (Or.inr (Or.inr (Or.inr (Or.inr (Or.inl (q)))))))))))); exact Or.inr (Or.inr (Or.inr (Or.inr (Or.inr (Or.inr (Or.inr (Or.inr (Or.inr (Or.inr (Or.inr (Or.inr (Or.inl (q))))))))))))); exact Or.inr (Or.inr (Or.inr (Or.inr (Or.inr (Or.inr (Or.inr (Or.inr (Or.inr (Or.inr (Or.inr (Or.inr (Or.inr (Or.inl (q)))))))))))))); exact Or.inr (Or.inr (Or.inr (Or.inr (Or.inr (Or.inr (Or.inr (Or.inr (Or.inr (Or.inr (Or.inr (Or.inr (Or.inr (Or.inr (Or.inl (q))))))))))))))); exact Or.inr (Or.inr (Or.inr (Or.inr (Or.inr (Or.inr (Or.inr (Or.inr (Or.inr (Or.inr (Or.inr (Or.inr (Or.inr (Or.inr (Or.inr (Or.inl (q)))))))))))))))); exact Or.inr (Or.inr (Or.inr (Or.inr (Or.inr (Or.inr (Or.inr (Or.inr (Or.inr (Or.inr (Or.inr (Or.inr (Or.inr (Or.inr (Or.inr (Or.inr (Or.inl (q))))))))))))))))); exact Or.inr (Or.inr (Or.inr (Or.inr (Or.inr (Or.inr (Or.inr (Or.inr (Or.inr (Or.inr (Or.inr (Or.inr (Or.inr (Or.inr (Or.inr (Or.inr (Or.inr (Or.inl (q)))))))))))))))))); exact Or.inr (Or.inr (Or.inr (Or.inr (Or.inr (Or.inr (Or.inr (Or.inr (Or.inr (Or.inr (Or.inr (Or.inr (Or.inr (Or.inr (Or.inr (Or.inr (Or.inr (Or.inr (Or.inl (q))))))))))))))))))); exact Or.inr (Or.inr (Or.inr (Or.inr (Or.inr (Or.inr (Or.inr (Or.inr (Or.inr (Or.inr (Or.inr (Or.inr (Or.inr (Or.inr (Or.inr (Or.inr (Or.inr (Or.inr (Or.inr (Or.inl (q))))))))))))))))))))) (fun _ _ q => False.elim q))
  rcases fr_ite h14 with h16 | h16
  ·
    exact fr_e2 h16 f15
  ·
    obtain ⟨S17, e17, h18⟩ := Option.bind_eq_some_iff.mp h16
    have f19 : Fr (w1_f_X11_tower) (w2_f_X11_tower) S S17 := f15.tr (fr_sI e17 (fun k => by unfold w1_f_X11_tower; exact Or.inr (Or.inr (Or.inr (Or.inr (Or.inr (Or.inr (Or.inr (Or.inr (Or.inr (Or.inr (Or.inr (Or.inr (Or.inr (Or.inr (Or.inr (Or.inr (Or.inr (Or.inr (Or.inr (Or.inr ((rfl)))))))))))))))))))))))
    obtain ⟨S20, e20, h21⟩ := Option.bind_eq_some_iff.mp h18
    have f22 : Fr (w1_f_X11_tower) (w2_f_X11_tower) S S20 := f19.tr (fr_sI e20 (fun k => by unfold w1_f_X11_tower; exact Or.inr (Or.inr (Or.inr (Or.inr (Or.inr (Or.inr (Or.inr (Or.inr (Or.inr (Or.inr (Or.inr (Or.inr (Or.inr (Or.inr (Or.inr (Or.inr (Or.inr (Or.inr (Or.inr (Or.inr ((rfl)))))))))))))))))))))))
    obtain ⟨S23, e23, h24⟩ := Option.bind_eq_some_iff.mp h21
    have f25 : Fr (w1_f_X11_tower) (w2_f_X11_tower) S S23 := f22.tr (fr_sI e23 (fun k => by unfold w1_f_X11_tower; exact Or.inr (Or.inr (Or.inr (Or.inr (Or.inr (Or.inr (Or.inr (Or.inr (Or.inr (Or.inr (Or.inr (Or.inr (Or.inr (Or.inr (Or.inr (Or.inr (Or.inr (Or.inr (Or.inr (Or.inr ((rfl)))))))))))))))))))))))
    obtain ⟨S26, e26, h27⟩ := Option.bind_eq_some_iff.mp h24
    have f28 : Fr (w1_f_X11_tower) (w2_f_X11_tower) S S26 := f25.tr (fr_sI e26 (fun k => by unfold w1_f_X11_tower; exact Or.inr (Or.inr (Or.inr (Or.inr (Or.inr (Or.inr (Or.inr (Or.inr (Or.inr (Or.inr (Or.inr (Or.inr (Or.inr (Or.inr (Or.inr (Or.inr (Or.inr (Or.inr (Or.inr (Or.inr ((rfl)))))))))))))))))))))))
    obtain ⟨S29, e29, h30⟩ := Option.bind_eq_some_iff.mp h27
    have f31 : Fr (w1_f_X11_tower) (w2_f_X11_tower) S S29 := f28.tr (fr_sI e29 (fun k => by unfold w1_f_X11_tower; exact Or.inr (Or.inr (Or.inr (Or.inr (Or.inr (Or.inr (Or.inr (Or.inr (Or.inr (Or.inr (Or.inr (Or.inr (Or.inr (Or.inr (Or.inr (Or.inr (Or.inr (Or.inr (Or.inr (Or.inr ((rfl)))))))))))))))))))))))
    refine f31.tr (fr_lp_X11_tower_82 (v1 := w1_f_X11_tower) (v2 := w2_f_X11_tower) (fun a k q => by unfold w1_lp_X11_tower_82 at q; unfold w1_f_X11_tower; exact Or.inr (Or.inr (Or.inr (Or.inr (Or.inr (Or.inr (Or.inr (Or.inr (Or.inr (Or.inr (Or.inr (Or.inr (Or.inr (Or.inr (Or.inr (Or.inr (Or.inr (Or.inr (Or.inr (Or.inr ((q)))))))))))))))))))))) (fun _ _ q => False.elim q) (fun S39 h32 => ?_) _ _ _ h30)
    refine (Fr.rf (S := S39)).tr (fr_lp_X11_tower_115 (v1 := w1_f_X11_tower) (v2 := w2_f_X11_tower) (fun a k q => by unfold w1_lp_X11_tower_115 at q; unfold w1_f_X11_tower; exact Or.inr (Or.inr (Or.inr (Or.inr (Or.inr (Or.inr (Or.inr (Or.inr (Or.inr (Or.inr (Or.inr (Or.inr (Or.inr (Or.inr (Or.inr (Or.inr (Or.inr (Or.inr (Or.inr (Or.inr ((q)))))))))))))))))))))) (fun _ _ q => False.elim q) (fun S48 h33 => ?_) _ _ _ h32)
    refine (Fr.rf (S := S48)).tr (fr_lp_X11_tower_148 (v1 := w1_f_X11_tower) (v2 := w2_f_X11_tower) (fun a k q => by unfold w1_lp_X11_tower_148 at q; unfold w1_f_X11_tower; exact Or.inr (Or.inr (Or.inr (Or.inr (Or.inr (Or.inr (Or.inr (Or.inr (Or.inr (Or.inr (Or.inr (Or.inr (Or.inr (Or.inr (Or.inr (Or.inr (Or.inr (Or.inr (Or.inr (Or.inr ((q)))))))))))))))))))))) (fun a k q => by unfold w2_lp_X11_tower_148 at q; unfold w2_f_X11_tower; exact Or.inl (q)) (fun S60 h34 => ?_) _ _ _ h33)
    obtain ⟨q62, e35, h36⟩ := Option.bind_eq_some_iff.mp h34
    have f37 : Fr (w1_f_X11_tower) (w2_f_X11_tower) S60 q62 := (Fr.rf (S := S60)).tr (Fr.mo (fr_f_X11_spreads e35) (fun _ _ q => False.elim q) (fun a k q => by unfold w2_f_X11_spreads at q; unfold w2_f_X11_tower; exact Or.inr ((q))))
    exact fr_e2 h36 f37
def w1_f_X11_setsOff (a k : Nat) : Prop := a = 157
def w2_f_X11_setsOff (a k : Nat) : Prop := False
theorem fr_f_X11_setsOff {v1 : Int32} {v2 : Int32} {S : fS} {r : fS} (h : f_X11_setsOff v1 v2 S = some r) : Fr (w1_f_X11_setsOff) (w2_f_X11_setsOff) S r := by
  unfold f_X11_setsOff at h
  obtain ⟨a1, e1, h2⟩ := Option.bind_eq_some_iff.mp h
  obtain ⟨q4, e3, h4⟩ := Option.bind_eq_some_iff.mp h2
  obtain ⟨S7, e5, h6⟩ := Option.bind_eq_some_iff.mp h4
  have f7 : Fr (w1_f_X11_setsOff) (w2_f_X11_setsOff) S S7 := (Fr.rf (S := S)).tr (fr_sI e5 (fun k => by unfold w1_f_X11_setsOff; exact rfl))
  obtain ⟨S10, e8, h9⟩ := Option.bind_eq_some_iff.mp h6
  have f10 : Fr (w1_f_X11_setsOff) (w2_f_X11_setsOff) S S10 := f7.tr (fr_sI e8 (fun k => by unfold w1_f_X11_setsOff; exact rfl))
  obtain ⟨S13, e11, h12⟩ := Option.bind_eq_some_iff.mp h9
  have f13 : Fr (w1_f_X11_setsOff) (w2_f_X11_setsOff) S S13 := f10.tr (fr_sI e11 (fun k => by unfold w1_f_X11_setsOff; exact rfl))
  obtain ⟨S16, e14, h15⟩ := Option.bind_eq_some_iff.mp h12
  have f16 : Fr (w1_f_X11_setsOff) (w2_f_X11_setsOff) S S16 := f13.tr (fr_sI e14 (fun k => by unfold w1_f_X11_setsOff; exact rfl))
  exact fr_e1 h15 f16
def w1_f_X11_go (a k : Nat) : Prop := a = 157
def w2_f_X11_go (a k : Nat) : Prop := False
theorem fr_f_X11_go {v1 : Int32} {v2 : Int32} {S : fS} {r : Int32 × fS} (h : f_X11_go v1 v2 S = some r) : Fr (w1_f_X11_go) (w2_f_X11_go) S r.2 := by
  unfold f_X11_go at h
  obtain ⟨q1, e1, h2⟩ := Option.bind_eq_some_iff.mp h
  rcases fr_ite h2 with h3 | h3
  ·
    exact fr_e2 h3 (Fr.rf (S := S))
  ·
    obtain ⟨q5, e4, h5⟩ := Option.bind_eq_some_iff.mp h3
    rcases fr_ite h5 with h6 | h6
    ·
      exact fr_e2 h6 (Fr.rf (S := S))
    ·
      obtain ⟨q9, e7, h8⟩ := Option.bind_eq_some_iff.mp h6
      rcases fr_ite h8 with h9 | h9
      ·
        exact fr_e2 h9 (Fr.rf (S := S))
      ·
        obtain ⟨q13, e10, h11⟩ := Option.bind_eq_some_iff.mp h9
        obtain ⟨q16, e12, h13⟩ := Option.bind_eq_some_iff.mp h11
        rcases fr_ite h13 with h14 | h14
        ·
          obtain ⟨q20, e15, h16⟩ := Option.bind_eq_some_iff.mp h14
          have f17 : Fr (w1_f_X11_go) (w2_f_X11_go) S q20 := (Fr.rf (S := S)).tr (Fr.mo (fr_f_X11_setsOff e15) (fun a k q => by unfold w1_f_X11_setsOff at q; unfold w1_f_X11_go; exact q) (fun _ _ q => False.elim q))
          exact fr_e2 h16 f17
        ·
          exact fr_e2 h14 (Fr.rf (S := S))
def w1_lp_X11_words_118 (a k : Nat) : Prop := False
def w2_lp_X11_words_118 (a k : Nat) : Prop := a = 156
theorem fr_lp_X11_words_118 {p1 : Int32} {K : fS → Option (fS)} {r : fS} {v1 v2 : Nat → Nat → Prop} (s1 : ∀ a k, w1_lp_X11_words_118 a k → v1 a k) (s2 : ∀ a k, w2_lp_X11_words_118 a k → v2 a k) (hK : ∀ (x0 : fS), K x0 = some r → Fr v1 v2 x0 r) : ∀ (n : Nat) (p3 : Int32) (S0 : fS), lp_X11_words_118 p1 K n p3 S0 = some r → Fr v1 v2 S0 r := by
  intro n
  induction n with
  | zero => intro p3 S0 h; exact mm_no h
  | succ n ih =>
    intro p3 S0 h
    rw [lp_X11_words_118.eq_2] at h
    obtain ⟨a49, e1, h2⟩ := Option.bind_eq_some_iff.mp h
    rcases fr_ite h2 with h3 | h3
    ·
      exact (Fr.rf (S := S0)).tr (hK _ h3)
    ·
      obtain ⟨a53, e4, h5⟩ := Option.bind_eq_some_iff.mp h3
      obtain ⟨a56, e6, h7⟩ := Option.bind_eq_some_iff.mp h5
      rcases fr_ite h7 with h8 | h8
      ·
        obtain ⟨a60, e9, h10⟩ := Option.bind_eq_some_iff.mp h8
        obtain ⟨a63, e11, h12⟩ := Option.bind_eq_some_iff.mp h10
        rcases fr_ite h12 with h13 | h13
        ·
          exact (Fr.rf (S := S0)).tr (ih _ _ h13)
        ·
          obtain ⟨S67, e14, h15⟩ := Option.bind_eq_some_iff.mp h13
          have f16 : Fr v1 v2 S0 S67 := (Fr.rf (S := S0)).tr (fr_sL e14 (fun k => by refine s2 _ _ ?_; unfold w2_lp_X11_words_118; exact rfl))
          exact f16.tr (ih _ _ h15)
      ·
        obtain ⟨S70, e17, h18⟩ := Option.bind_eq_some_iff.mp h8
        have f19 : Fr v1 v2 S0 S70 := (Fr.rf (S := S0)).tr (fr_sL e17 (fun k => by refine s2 _ _ ?_; unfold w2_lp_X11_words_118; exact rfl))
        obtain ⟨a73, e20, h21⟩ := Option.bind_eq_some_iff.mp h18
        obtain ⟨a76, e22, h23⟩ := Option.bind_eq_some_iff.mp h21
        rcases fr_ite h23 with h24 | h24
        ·
          exact f19.tr (ih _ _ h24)
        ·
          obtain ⟨S80, e25, h26⟩ := Option.bind_eq_some_iff.mp h24
          have f27 : Fr v1 v2 S0 S80 := f19.tr (fr_sL e25 (fun k => by refine s2 _ _ ?_; unfold w2_lp_X11_words_118; exact rfl))
          exact f27.tr (ih _ _ h26)
def w1_f_X11_words (a k : Nat) : Prop := False
def w2_f_X11_words (a k : Nat) : Prop := a = 156
theorem fr_f_X11_words {v1 : Int32} {S : fS} {r : fS} (h : f_X11_words v1 S = some r) : Fr (w1_f_X11_words) (w2_f_X11_words) S r := by
  unfold f_X11_words at h
  obtain ⟨q1, e1, h2⟩ := Option.bind_eq_some_iff.mp h
  obtain ⟨a4, e3, h4⟩ := Option.bind_eq_some_iff.mp h2
  obtain ⟨S7, e5, h6⟩ := Option.bind_eq_some_iff.mp h4
  have f7 : Fr (w1_f_X11_words) (w2_f_X11_words) S S7 := (Fr.rf (S := S)).tr (fr_sL e5 (fun k => by unfold w2_f_X11_words; exact rfl))
  obtain ⟨S10, e8, h9⟩ := Option.bind_eq_some_iff.mp h6
  have f10 : Fr (w1_f_X11_words) (w2_f_X11_words) S S10 := f7.tr (fr_sL e8 (fun k => by unfold w2_f_X11_words; exact rfl))
  obtain ⟨S13, e11, h12⟩ := Option.bind_eq_some_iff.mp h9
  have f13 : Fr (w1_f_X11_words) (w2_f_X11_words) S S13 := f10.tr (fr_sL e11 (fun k => by unfold w2_f_X11_words; exact rfl))
  obtain ⟨a16, e14, h15⟩ := Option.bind_eq_some_iff.mp h12
  obtain ⟨a19, e16, h17⟩ := Option.bind_eq_some_iff.mp h15
  obtain ⟨S22, e18, h19⟩ := Option.bind_eq_some_iff.mp h17
  have f20 : Fr (w1_f_X11_words) (w2_f_X11_words) S S22 := f13.tr (fr_sL e18 (fun k => by unfold w2_f_X11_words; exact rfl))
  obtain ⟨q25, e21, h22⟩ := Option.bind_eq_some_iff.mp h19
  obtain ⟨S28, e23, h24⟩ := Option.bind_eq_some_iff.mp h22
  have f25 : Fr (w1_f_X11_words) (w2_f_X11_words) S S28 := f20.tr (fr_sL e23 (fun k => by unfold w2_f_X11_words; exact rfl))
  obtain ⟨a31, e26, h27⟩ := Option.bind_eq_some_iff.mp h24
  obtain ⟨a34, e28, h29⟩ := Option.bind_eq_some_iff.mp h27
  obtain ⟨a37, e30, h31⟩ := Option.bind_eq_some_iff.mp h29
  obtain ⟨S40, e32, h33⟩ := Option.bind_eq_some_iff.mp h31
  have f34 : Fr (w1_f_X11_words) (w2_f_X11_words) S S40 := f25.tr (fr_sL e32 (fun k => by unfold w2_f_X11_words; exact rfl))
  obtain ⟨S43, e35, h36⟩ := Option.bind_eq_some_iff.mp h33
  have f37 : Fr (w1_f_X11_words) (w2_f_X11_words) S S43 := f34.tr (fr_sL e35 (fun k => by unfold w2_f_X11_words; exact rfl))
  obtain ⟨S46, e38, h39⟩ := Option.bind_eq_some_iff.mp h36
  have f40 : Fr (w1_f_X11_words) (w2_f_X11_words) S S46 := f37.tr (fr_sL e38 (fun k => by unfold w2_f_X11_words; exact rfl))
  refine f40.tr (fr_lp_X11_words_118 (v1 := w1_f_X11_words) (v2 := w2_f_X11_words) (fun _ _ q => False.elim q) (fun a k q => by unfold w2_lp_X11_words_118 at q; unfold w2_f_X11_words; exact q) (fun S83 h41 => ?_) _ _ _ h39)
  exact fr_e1 h41 (Fr.rf (S := S83))
def w1_f_X11_push (a k : Nat) : Prop := (a = 145 ∧ k = 23)
def w2_f_X11_push (a k : Nat) : Prop := a = 155
theorem fr_f_X11_push {v1 : Int64} {S : fS} {r : fS} (h : f_X11_push v1 S = some r) : Fr (w1_f_X11_push) (w2_f_X11_push) S r := by
  unfold f_X11_push at h
  obtain ⟨S1, e1, h2⟩ := Option.bind_eq_some_iff.mp h
  have f3 : Fr (w1_f_X11_push) (w2_f_X11_push) S S1 := (Fr.rf (S := S)).tr (fr_sL e1 (fun k => by unfold w2_f_X11_push; exact rfl))
  obtain ⟨S4, e4, h5⟩ := Option.bind_eq_some_iff.mp h2
  have f6 : Fr (w1_f_X11_push) (w2_f_X11_push) S S4 := f3.tr (fr_pI e4 (by unfold w1_f_X11_push; exact ⟨rfl, rfl⟩))
  exact fr_e1 h5 f6
def w1_f_X11_pop (a k : Nat) : Prop := (a = 145 ∧ k = 23)
def w2_f_X11_pop (a k : Nat) : Prop := False
theorem fr_f_X11_pop {S : fS} {r : Int64 × fS} (h : f_X11_pop S = some r) : Fr (w1_f_X11_pop) (w2_f_X11_pop) S r.2 := by
  unfold f_X11_pop at h
  obtain ⟨S1, e1, h2⟩ := Option.bind_eq_some_iff.mp h
  have f3 : Fr (w1_f_X11_pop) (w2_f_X11_pop) S S1 := (Fr.rf (S := S)).tr (fr_pI e1 (by unfold w1_f_X11_pop; exact ⟨rfl, rfl⟩))
  obtain ⟨a4, e4, h5⟩ := Option.bind_eq_some_iff.mp h2
  exact fr_e2 h5 f3
def w1_lp_X11_reckons_8 (a k : Nat) : Prop := (a = 145 ∧ k = 23)
def w2_lp_X11_reckons_8 (a k : Nat) : Prop := a = 155
theorem fr_lp_X11_reckons_8 {p1 : Int32} {p3 : Int32} {K : fS → Option (Int64 × fS)} {r : Int64 × fS} {v1 v2 : Nat → Nat → Prop} (s1 : ∀ a k, w1_lp_X11_reckons_8 a k → v1 a k) (s2 : ∀ a k, w2_lp_X11_reckons_8 a k → v2 a k) (hK : ∀ (x0 : fS), K x0 = some r → Fr v1 v2 x0 r.2) : ∀ (n : Nat) (p4 : Int32) (S0 : fS), lp_X11_reckons_8 p1 p3 K n p4 S0 = some r → Fr v1 v2 S0 r.2 := by
  intro n
  induction n with
  | zero => intro p4 S0 h; exact mm_no h
  | succ n ih =>
    intro p4 S0 h
    rw [lp_X11_reckons_8.eq_2] at h
    rcases fr_ite h with h1 | h1
    ·
      exact (Fr.rf (S := S0)).tr (hK _ h1)
    ·
      obtain ⟨a5, e2, h3⟩ := Option.bind_eq_some_iff.mp h1
      obtain ⟨a8, e4, h5⟩ := Option.bind_eq_some_iff.mp h3
      rcases fr_ite h5 with h6 | h6
      ·
        obtain ⟨q38, e7, h8⟩ := Option.bind_eq_some_iff.mp h6
        have f9 : Fr v1 v2 S0 q38 := (Fr.rf (S := S0)).tr (Fr.mo (fr_f_X11_push e7) (fun a k q => by refine s1 _ _ ?_; unfold w1_f_X11_push at q; unfold w1_lp_X11_reckons_8; exact q) (fun a k q => by refine s2 _ _ ?_; unfold w2_f_X11_push at q; unfold w2_lp_X11_reckons_8; exact q))
        exact f9.tr (ih _ _ h8)
      ·
        rcases fr_ite h6 with h10 | h10
        ·
          obtain ⟨a32, e11, h12⟩ := Option.bind_eq_some_iff.mp h10
          obtain ⟨q35, e13, h14⟩ := Option.bind_eq_some_iff.mp h12
          have f15 : Fr v1 v2 S0 q35 := (Fr.rf (S := S0)).tr (Fr.mo (fr_f_X11_push e13) (fun a k q => by refine s1 _ _ ?_; unfold w1_f_X11_push at q; unfold w1_lp_X11_reckons_8; exact q) (fun a k q => by refine s2 _ _ ?_; unfold w2_f_X11_push at q; unfold w2_lp_X11_reckons_8; exact q))
          exact f15.tr (ih _ _ h14)
        ·
          rcases fr_ite h10 with h16 | h16
          ·
            obtain ⟨q26, e17, h18⟩ := Option.bind_eq_some_iff.mp h16
            have f19 : Fr v1 v2 S0 q26.2 := (Fr.rf (S := S0)).tr (Fr.mo (fr_f_X11_pop e17) (fun a k q => by refine s1 _ _ ?_; unfold w1_f_X11_pop at q; unfold w1_lp_X11_reckons_8; exact q) (fun _ _ q => False.elim q))
            obtain ⟨q29, e20, h21⟩ := Option.bind_eq_some_iff.mp h18
            have f22 : Fr v1 v2 S0 q29 := f19.tr (Fr.mo (fr_f_X11_push e20) (fun a k q => by refine s1 _ _ ?_; unfold w1_f_X11_push at q; unfold w1_lp_X11_reckons_8; exact q) (fun a k q => by refine s2 _ _ ?_; unfold w2_f_X11_push at q; unfold w2_lp_X11_reckons_8; exact q))
            exact f22.tr (ih _ _ h21)
          ·
            obtain ⟨q14, e23, h24⟩ := Option.bind_eq_some_iff.mp h16
            have f25 : Fr v1 v2 S0 q14.2 := (Fr.rf (S := S0)).tr (Fr.mo (fr_f_X11_pop e23) (fun a k q => by refine s1 _ _ ?_; unfold w1_f_X11_pop at q; unfold w1_lp_X11_reckons_8; exact q) (fun _ _ q => False.elim q))
            obtain ⟨q17, e26, h27⟩ := Option.bind_eq_some_iff.mp h24
            have f28 : Fr v1 v2 S0 q17.2 := f25.tr (Fr.mo (fr_f_X11_pop e26) (fun a k q => by refine s1 _ _ ?_; unfold w1_f_X11_pop at q; unfold w1_lp_X11_reckons_8; exact q) (fun _ _ q => False.elim q))
            obtain ⟨q20, e29, h30⟩ := Option.bind_eq_some_iff.mp h27
            obtain ⟨q23, e31, h32⟩ := Option.bind_eq_some_iff.mp h30
            have f33 : Fr v1 v2 S0 q23 := f28.tr (Fr.mo (fr_f_X11_push e31) (fun a k q => by refine s1 _ _ ?_; unfold w1_f_X11_push at q; unfold w1_lp_X11_reckons_8; exact q) (fun a k q => by refine s2 _ _ ?_; unfold w2_f_X11_push at q; unfold w2_lp_X11_reckons_8; exact q))
            exact f33.tr (ih _ _ h32)
def w1_f_X11_reckons (a k : Nat) : Prop := (a = 145 ∧ k = 23)
def w2_f_X11_reckons (a k : Nat) : Prop := a = 155
theorem fr_f_X11_reckons {v1 : Int32} {v2 : Int32} {v3 : Int32} {S : fS} {r : Int64 × fS} (h : f_X11_reckons v1 v2 v3 S = some r) : Fr (w1_f_X11_reckons) (w2_f_X11_reckons) S r.2 := by
  unfold f_X11_reckons at h
  obtain ⟨S1, e1, h2⟩ := Option.bind_eq_some_iff.mp h
  have f3 : Fr (w1_f_X11_reckons) (w2_f_X11_reckons) S S1 := (Fr.rf (S := S)).tr (fr_pI e1 (by unfold w1_f_X11_reckons; exact ⟨rfl, rfl⟩))
  refine f3.tr (fr_lp_X11_reckons_8 (v1 := w1_f_X11_reckons) (v2 := w2_f_X11_reckons) (fun a k q => by unfold w1_lp_X11_reckons_8 at q; unfold w1_f_X11_reckons; exact q) (fun a k q => by unfold w2_lp_X11_reckons_8 at q; unfold w2_f_X11_reckons; exact q) (fun S41 h4 => ?_) _ _ _ h2)
  obtain ⟨q43, e5, h6⟩ := Option.bind_eq_some_iff.mp h4
  have f7 : Fr (w1_f_X11_reckons) (w2_f_X11_reckons) S41 q43.2 := (Fr.rf (S := S41)).tr (Fr.mo (fr_f_X11_pop e5) (fun a k q => by unfold w1_f_X11_pop at q; unfold w1_f_X11_reckons; exact q) (fun _ _ q => False.elim q))
  exact fr_e2 h6 f7
def w1_lp_X11_sent_7 (a k : Nat) : Prop := (a = 145 ∧ k = 23)
def w2_lp_X11_sent_7 (a k : Nat) : Prop := a = 155
theorem fr_lp_X11_sent_7 {p1 : Int32} {K : fS → Option (Int32 × fS)} {r : Int32 × fS} {v1 v2 : Nat → Nat → Prop} (s1 : ∀ a k, w1_lp_X11_sent_7 a k → v1 a k) (s2 : ∀ a k, w2_lp_X11_sent_7 a k → v2 a k) (hK : ∀ (x0 : fS), K x0 = some r → Fr v1 v2 x0 r.2) : ∀ (n : Nat) (p3 : Int32) (S0 : fS), lp_X11_sent_7 p1 K n p3 S0 = some r → Fr v1 v2 S0 r.2 := by
  intro n
  induction n with
  | zero => intro p3 S0 h; exact mm_no h
  | succ n ih =>
    intro p3 S0 h
    rw [lp_X11_sent_7.eq_2] at h
    obtain ⟨a4, e1, h2⟩ := Option.bind_eq_some_iff.mp h
    rcases fr_ite h2 with h3 | h3
    ·
      exact (Fr.rf (S := S0)).tr (hK _ h3)
    ·
      obtain ⟨a8, e4, h5⟩ := Option.bind_eq_some_iff.mp h3
      rcases fr_ite h5 with h6 | h6
      ·
        obtain ⟨a12, e7, h8⟩ := Option.bind_eq_some_iff.mp h6
        exact fr_e2 h8 (Fr.rf (S := S0))
      ·
        obtain ⟨a15, e9, h10⟩ := Option.bind_eq_some_iff.mp h6
        obtain ⟨a18, e11, h12⟩ := Option.bind_eq_some_iff.mp h10
        obtain ⟨q21, e13, h14⟩ := Option.bind_eq_some_iff.mp h12
        have f15 : Fr v1 v2 S0 q21.2 := (Fr.rf (S := S0)).tr (Fr.mo (fr_f_X11_reckons e13) (fun a k q => by refine s1 _ _ ?_; unfold w1_f_X11_reckons at q; unfold w1_lp_X11_sent_7; exact q) (fun a k q => by refine s2 _ _ ?_; unfold w2_f_X11_reckons at q; unfold w2_lp_X11_sent_7; exact q))
        rcases fr_ite h14 with h16 | h16
        ·
          obtain ⟨a25, e17, h18⟩ := Option.bind_eq_some_iff.mp h16
          exact fr_e2 h18 f15
        ·
          exact f15.tr (ih _ _ h16)
def w1_f_X11_sent (a k : Nat) : Prop := (a = 145 ∧ k = 23)
def w2_f_X11_sent (a k : Nat) : Prop := a = 155 ∨ a = 156
theorem fr_f_X11_sent {v1 : Int32} {v2 : Int32} {S : fS} {r : Int32 × fS} (h : f_X11_sent v1 v2 S = some r) : Fr (w1_f_X11_sent) (w2_f_X11_sent) S r.2 := by
  unfold f_X11_sent at h
  obtain ⟨q1, e1, h2⟩ := Option.bind_eq_some_iff.mp h
  have f3 : Fr (w1_f_X11_sent) (w2_f_X11_sent) S q1 := (Fr.rf (S := S)).tr (Fr.mo (fr_f_X11_words e1) (fun _ _ q => False.elim q) (fun a k q => by unfold w2_f_X11_words at q; unfold w2_f_X11_sent; exact Or.inr ((q))))
  refine f3.tr (fr_lp_X11_sent_7 (v1 := w1_f_X11_sent) (v2 := w2_f_X11_sent) (fun a k q => by unfold w1_lp_X11_sent_7 at q; unfold w1_f_X11_sent; exact q) (fun a k q => by unfold w2_lp_X11_sent_7 at q; unfold w2_f_X11_sent; exact Or.inl (q)) (fun S28 h4 => ?_) _ _ _ h2)
  exact fr_e2 h4 (Fr.rf (S := S28))
def w1_lp_X11_ageAll_2 (a k : Nat) : Prop := a = 157
def w2_lp_X11_ageAll_2 (a k : Nat) : Prop := a = 158
theorem fr_lp_X11_ageAll_2 {K : fS → Option (fS)} {r : fS} {v1 v2 : Nat → Nat → Prop} (s1 : ∀ a k, w1_lp_X11_ageAll_2 a k → v1 a k) (s2 : ∀ a k, w2_lp_X11_ageAll_2 a k → v2 a k) (hK : ∀ (x0 : fS), K x0 = some r → Fr v1 v2 x0 r) : ∀ (n : Nat) (p1 : Int32) (S0 : fS), lp_X11_ageAll_2 K n p1 S0 = some r → Fr v1 v2 S0 r := by
  intro n
  induction n with
  | zero => intro p1 S0 h; exact mm_no h
  | succ n ih =>
    intro p1 S0 h
    rw [lp_X11_ageAll_2.eq_2] at h
    obtain ⟨a1, e1, h2⟩ := Option.bind_eq_some_iff.mp h
    rcases fr_ite h2 with h3 | h3
    ·
      exact (Fr.rf (S := S0)).tr (hK _ h3)
    ·
      obtain ⟨q5, e4, h5⟩ := Option.bind_eq_some_iff.mp h3
      rcases fr_ite h5 with h6 | h6
      ·
        obtain ⟨a9, e7, h8⟩ := Option.bind_eq_some_iff.mp h6
        obtain ⟨q12, e9, h10⟩ := Option.bind_eq_some_iff.mp h8
        obtain ⟨S15, e11, h12⟩ := Option.bind_eq_some_iff.mp h10
        have f13 : Fr v1 v2 S0 S15 := (Fr.rf (S := S0)).tr (fr_sL e11 (fun k => by refine s2 _ _ ?_; unfold w2_lp_X11_ageAll_2; exact rfl))
        obtain ⟨a18, e14, h15⟩ := Option.bind_eq_some_iff.mp h12
        obtain ⟨S21, e16, h17⟩ := Option.bind_eq_some_iff.mp h15
        have f18 : Fr v1 v2 S0 S21 := f13.tr (fr_sI e16 (fun k => by refine s1 _ _ ?_; unfold w1_lp_X11_ageAll_2; exact rfl))
        obtain ⟨q24, e19, h20⟩ := Option.bind_eq_some_iff.mp h17
        obtain ⟨q27, e21, h22⟩ := Option.bind_eq_some_iff.mp h20
        rcases fr_ite h22 with h23 | h23
        ·
          obtain ⟨q31, e24, h25⟩ := Option.bind_eq_some_iff.mp h23
          obtain ⟨q34, e26, h27⟩ := Option.bind_eq_some_iff.mp h25
          have f28 : Fr v1 v2 S0 q34 := f18.tr (Fr.mo (fr_f_X11_stands e26) (fun a k q => by refine s1 _ _ ?_; unfold w1_f_X11_stands at q; unfold w1_lp_X11_ageAll_2; exact q) (fun _ _ q => False.elim q))
          exact f28.tr (ih _ _ h27)
        ·
          exact f18.tr (ih _ _ h23)
      ·
        obtain ⟨a37, e29, h30⟩ := Option.bind_eq_some_iff.mp h6
        obtain ⟨q40, e31, h32⟩ := Option.bind_eq_some_iff.mp h30
        obtain ⟨q43, e33, h34⟩ := Option.bind_eq_some_iff.mp h32
        obtain ⟨S46, e35, h36⟩ := Option.bind_eq_some_iff.mp h34
        have f37 : Fr v1 v2 S0 S46 := (Fr.rf (S := S0)).tr (fr_sL e35 (fun k => by refine s2 _ _ ?_; unfold w2_lp_X11_ageAll_2; exact rfl))
        exact f37.tr (ih _ _ h36)
def w1_f_X11_ageAll (a k : Nat) : Prop := a = 157
def w2_f_X11_ageAll (a k : Nat) : Prop := a = 158
theorem fr_f_X11_ageAll {S : fS} {r : fS} (h : f_X11_ageAll S = some r) : Fr (w1_f_X11_ageAll) (w2_f_X11_ageAll) S r := by
  unfold f_X11_ageAll at h
  refine (Fr.rf (S := S)).tr (fr_lp_X11_ageAll_2 (v1 := w1_f_X11_ageAll) (v2 := w2_f_X11_ageAll) (fun a k q => by unfold w1_lp_X11_ageAll_2 at q; unfold w1_f_X11_ageAll; exact q) (fun a k q => by unfold w2_lp_X11_ageAll_2 at q; unfold w2_f_X11_ageAll; exact q) (fun S49 h1 => ?_) _ _ _ h)
  obtain ⟨a51, e2, h3⟩ := Option.bind_eq_some_iff.mp h1
  obtain ⟨S54, e4, h5⟩ := Option.bind_eq_some_iff.mp h3
  have f6 : Fr (w1_f_X11_ageAll) (w2_f_X11_ageAll) S49 S54 := (Fr.rf (S := S49)).tr (fr_sI e4 (fun k => by unfold w1_f_X11_ageAll; exact rfl))
  exact fr_e1 h5 f6
def w1_lp_X11_hour_2 (a k : Nat) : Prop := (a = 145 ∧ k = 23) ∨ a = 157
def w2_lp_X11_hour_2 (a k : Nat) : Prop := a = 155 ∨ a = 156
theorem fr_lp_X11_hour_2 {p1 : Int32} {K : fS → Option (fS)} {r : fS} {v1 v2 : Nat → Nat → Prop} (s1 : ∀ a k, w1_lp_X11_hour_2 a k → v1 a k) (s2 : ∀ a k, w2_lp_X11_hour_2 a k → v2 a k) (hK : ∀ (x0 : fS), K x0 = some r → Fr v1 v2 x0 r) : ∀ (n : Nat) (p2 : Int32) (S0 : fS), lp_X11_hour_2 p1 K n p2 S0 = some r → Fr v1 v2 S0 r := by
  intro n
  induction n with
  | zero => intro p2 S0 h; exact mm_no h
  | succ n ih =>
    intro p2 S0 h
    rw [lp_X11_hour_2.eq_2] at h
    obtain ⟨a1, e1, h2⟩ := Option.bind_eq_some_iff.mp h
    rcases fr_ite h2 with h3 | h3
    ·
      exact (Fr.rf (S := S0)).tr (hK _ h3)
    ·
      rcases fr_ite h3 with h4 | h4
      ·
        exact (Fr.rf (S := S0)).tr (hK _ h4)
      ·
        obtain ⟨q6, e5, h6⟩ := Option.bind_eq_some_iff.mp h4
        rcases fr_ite h6 with h7 | h7
        ·
          obtain ⟨q10, e8, h9⟩ := Option.bind_eq_some_iff.mp h7
          have f10 : Fr v1 v2 S0 q10.2 := (Fr.rf (S := S0)).tr (Fr.mo (fr_f_X11_sent e8) (fun a k q => by refine s1 _ _ ?_; unfold w1_f_X11_sent at q; unfold w1_lp_X11_hour_2; exact Or.inl (q)) (fun a k q => by refine s2 _ _ ?_; unfold w2_f_X11_sent at q; unfold w2_lp_X11_hour_2; rcases q with q | q; exact Or.inl (q); exact Or.inr ((q))))
          obtain ⟨q13, e11, h12⟩ := Option.bind_eq_some_iff.mp h9
          rcases fr_ite h12 with h13 | h13
          ·
            rcases fr_ite h13 with h14 | h14
            ·
              exact f10.tr (ih _ _ h14)
            ·
              obtain ⟨q18, e15, h16⟩ := Option.bind_eq_some_iff.mp h14
              have f17 : Fr v1 v2 S0 q18 := f10.tr (Fr.mo (fr_f_X11_setsOff e15) (fun a k q => by refine s1 _ _ ?_; unfold w1_f_X11_setsOff at q; unfold w1_lp_X11_hour_2; exact Or.inr ((q))) (fun _ _ q => False.elim q))
              exact f17.tr (ih _ _ h16)
          ·
            obtain ⟨q21, e18, h19⟩ := Option.bind_eq_some_iff.mp h13
            obtain ⟨q24, e20, h21⟩ := Option.bind_eq_some_iff.mp h19
            rcases fr_ite h21 with h22 | h22
            ·
              exact f10.tr (ih _ _ h22)
            ·
              obtain ⟨q28, e23, h24⟩ := Option.bind_eq_some_iff.mp h22
              have f25 : Fr v1 v2 S0 q28 := f10.tr (Fr.mo (fr_f_X11_setsOff e23) (fun a k q => by refine s1 _ _ ?_; unfold w1_f_X11_setsOff at q; unfold w1_lp_X11_hour_2; exact Or.inr ((q))) (fun _ _ q => False.elim q))
              exact f25.tr (ih _ _ h24)
        ·
          exact (Fr.rf (S := S0)).tr (ih _ _ h7)
def w1_f_X11_hour (a k : Nat) : Prop := (a = 145 ∧ k = 23) ∨ a = 157
def w2_f_X11_hour (a k : Nat) : Prop := a = 155 ∨ a = 156 ∨ a = 158
theorem fr_f_X11_hour {v1 : Int32} {S : fS} {r : fS} (h : f_X11_hour v1 S = some r) : Fr (w1_f_X11_hour) (w2_f_X11_hour) S r := by
  unfold f_X11_hour at h
  refine (Fr.rf (S := S)).tr (fr_lp_X11_hour_2 (v1 := w1_f_X11_hour) (v2 := w2_f_X11_hour) (fun a k q => by unfold w1_lp_X11_hour_2 at q; unfold w1_f_X11_hour; rcases q with q | q; exact Or.inl (q); exact Or.inr ((q))) (fun a k q => by unfold w2_lp_X11_hour_2 at q; unfold w2_f_X11_hour; rcases q with q | q; exact Or.inl (q); exact Or.inr (Or.inl (q))) (fun S31 h1 => ?_) _ _ _ h)
  obtain ⟨q33, e2, h3⟩ := Option.bind_eq_some_iff.mp h1
  have f4 : Fr (w1_f_X11_hour) (w2_f_X11_hour) S31 q33 := (Fr.rf (S := S31)).tr (Fr.mo (fr_f_X11_ageAll e2) (fun a k q => by unfold w1_f_X11_ageAll at q; unfold w1_f_X11_hour; exact Or.inr ((q))) (fun a k q => by unfold w2_f_X11_ageAll at q; unfold w2_f_X11_hour; exact Or.inr (Or.inr ((q)))))
  exact fr_e1 h3 f4
def w1_lp_X11_tick_43 (a k : Nat) : Prop := (a = 145 ∧ k = 23) ∨ a = 157
def w2_lp_X11_tick_43 (a k : Nat) : Prop := a = 155 ∨ a = 156 ∨ a = 158
theorem fr_lp_X11_tick_43 {p1 : Int32} {p2 : Int32} {K : fS → Option (Int32 × fS)} {r : Int32 × fS} {v1 v2 : Nat → Nat → Prop} (s1 : ∀ a k, w1_lp_X11_tick_43 a k → v1 a k) (s2 : ∀ a k, w2_lp_X11_tick_43 a k → v2 a k) (hK : ∀ (x0 : fS), K x0 = some r → Fr v1 v2 x0 r.2) : ∀ (n : Nat) (p3 : Int32) (S0 : fS), lp_X11_tick_43 p1 p2 K n p3 S0 = some r → Fr v1 v2 S0 r.2 := by
  intro n
  induction n with
  | zero => intro p3 S0 h; exact mm_no h
  | succ n ih =>
    intro p3 S0 h
    rw [lp_X11_tick_43.eq_2] at h
    rcases fr_ite h with h1 | h1
    ·
      exact (Fr.rf (S := S0)).tr (hK _ h1)
    ·
      obtain ⟨q11, e2, h3⟩ := Option.bind_eq_some_iff.mp h1
      have f4 : Fr v1 v2 S0 q11 := (Fr.rf (S := S0)).tr (Fr.mo (fr_f_X11_hour e2) (fun a k q => by refine s1 _ _ ?_; unfold w1_f_X11_hour at q; unfold w1_lp_X11_tick_43; rcases q with q | q; exact Or.inl (q); exact Or.inr ((q))) (fun a k q => by refine s2 _ _ ?_; unfold w2_f_X11_hour at q; unfold w2_lp_X11_tick_43; rcases q with q | q | q; exact Or.inl (q); exact Or.inr (Or.inl (q)); exact Or.inr (Or.inr ((q)))))
      exact f4.tr (ih _ _ h3)
def w1_f_X11_tick (a k : Nat) : Prop := (a = 145 ∧ k = 23) ∨ a = 157
def w2_f_X11_tick (a k : Nat) : Prop := a = 155 ∨ a = 156 ∨ a = 158
theorem fr_f_X11_tick {v1 : Int32} {v2 : Int32} {S : fS} {r : Int32 × fS} (h : f_X11_tick v1 v2 S = some r) : Fr (w1_f_X11_tick) (w2_f_X11_tick) S r.2 := by
  unfold f_X11_tick at h
  rcases fr_ite h with h1 | h1
  ·
    obtain ⟨q2, e2, h3⟩ := Option.bind_eq_some_iff.mp h1
    rcases fr_ite h3 with h4 | h4
    ·
      exact fr_e2 h4 (Fr.rf (S := S))
    ·
      obtain ⟨a6, e5, h6⟩ := Option.bind_eq_some_iff.mp h4
      rcases fr_ite h6 with h7 | h7
      ·
        refine (Fr.rf (S := S)).tr (fr_lp_X11_tick_43 (v1 := w1_f_X11_tick) (v2 := w2_f_X11_tick) (fun a k q => by unfold w1_lp_X11_tick_43 at q; unfold w1_f_X11_tick; rcases q with q | q; exact Or.inl (q); exact Or.inr ((q))) (fun a k q => by unfold w2_lp_X11_tick_43 at q; unfold w2_f_X11_tick; rcases q with q | q | q; exact Or.inl (q); exact Or.inr (Or.inl (q)); exact Or.inr (Or.inr ((q)))) (fun S14 h8 => ?_) _ _ _ h7)
        obtain ⟨a16, e9, h10⟩ := Option.bind_eq_some_iff.mp h8
        exact fr_e2 h10 (Fr.rf (S := S14))
      ·
        exact fr_e2 h7 (Fr.rf (S := S))
  ·
    obtain ⟨q19, e11, h12⟩ := Option.bind_eq_some_iff.mp h1
    rcases fr_ite h12 with h13 | h13
    ·
      exact fr_e2 h13 (Fr.rf (S := S))
    ·
      obtain ⟨q23, e14, h15⟩ := Option.bind_eq_some_iff.mp h13
      rcases fr_ite h15 with h16 | h16
      ·
        exact fr_e2 h16 (Fr.rf (S := S))
      ·
        obtain ⟨a27, e17, h18⟩ := Option.bind_eq_some_iff.mp h16
        rcases fr_ite h18 with h19 | h19
        ·
          refine (Fr.rf (S := S)).tr (fr_lp_X11_tick_43 (v1 := w1_f_X11_tick) (v2 := w2_f_X11_tick) (fun a k q => by unfold w1_lp_X11_tick_43 at q; unfold w1_f_X11_tick; rcases q with q | q; exact Or.inl (q); exact Or.inr ((q))) (fun a k q => by unfold w2_lp_X11_tick_43 at q; unfold w2_f_X11_tick; rcases q with q | q | q; exact Or.inl (q); exact Or.inr (Or.inl (q)); exact Or.inr (Or.inr ((q)))) (fun S31 h20 => ?_) _ _ _ h19)
          obtain ⟨a33, e21, h22⟩ := Option.bind_eq_some_iff.mp h20
          exact fr_e2 h22 (Fr.rf (S := S31))
        ·
          exact fr_e2 h19 (Fr.rf (S := S))
def w1_lp_X11_keeps_2 (a k : Nat) : Prop := a = 159
def w2_lp_X11_keeps_2 (a k : Nat) : Prop := False
theorem fr_lp_X11_keeps_2 {K : fS → Option (fS)} {r : fS} {v1 v2 : Nat → Nat → Prop} (s1 : ∀ a k, w1_lp_X11_keeps_2 a k → v1 a k) (s2 : ∀ a k, w2_lp_X11_keeps_2 a k → v2 a k) (hK : ∀ (x0 : fS), K x0 = some r → Fr v1 v2 x0 r) : ∀ (n : Nat) (p1 : Int32) (S0 : fS), lp_X11_keeps_2 K n p1 S0 = some r → Fr v1 v2 S0 r := by
  intro n
  induction n with
  | zero => intro p1 S0 h; exact mm_no h
  | succ n ih =>
    intro p1 S0 h
    rw [lp_X11_keeps_2.eq_2] at h
    rcases fr_ite h with h1 | h1
    ·
      exact (Fr.rf (S := S0)).tr (hK _ h1)
    ·
      obtain ⟨a2, e2, h3⟩ := Option.bind_eq_some_iff.mp h1
      obtain ⟨S5, e4, h5⟩ := Option.bind_eq_some_iff.mp h3
      have f6 : Fr v1 v2 S0 S5 := (Fr.rf (S := S0)).tr (fr_sI e4 (fun k => by refine s1 _ _ ?_; unfold w1_lp_X11_keeps_2; exact rfl))
      exact f6.tr (ih _ _ h5)
def w1_lp_X11_keeps_29 (a k : Nat) : Prop := False
def w2_lp_X11_keeps_29 (a k : Nat) : Prop := a = 160
theorem fr_lp_X11_keeps_29 {K : fS → Option (fS)} {r : fS} {v1 v2 : Nat → Nat → Prop} (s1 : ∀ a k, w1_lp_X11_keeps_29 a k → v1 a k) (s2 : ∀ a k, w2_lp_X11_keeps_29 a k → v2 a k) (hK : ∀ (x0 : fS), K x0 = some r → Fr v1 v2 x0 r) : ∀ (n : Nat) (p1 : Int32) (S0 : fS), lp_X11_keeps_29 K n p1 S0 = some r → Fr v1 v2 S0 r := by
  intro n
  induction n with
  | zero => intro p1 S0 h; exact mm_no h
  | succ n ih =>
    intro p1 S0 h
    rw [lp_X11_keeps_29.eq_2] at h
    rcases fr_ite h with h1 | h1
    ·
      exact (Fr.rf (S := S0)).tr (hK _ h1)
    ·
      obtain ⟨a11, e2, h3⟩ := Option.bind_eq_some_iff.mp h1
      obtain ⟨S14, e4, h5⟩ := Option.bind_eq_some_iff.mp h3
      have f6 : Fr v1 v2 S0 S14 := (Fr.rf (S := S0)).tr (fr_sL e4 (fun k => by refine s2 _ _ ?_; unfold w2_lp_X11_keeps_29; exact rfl))
      exact f6.tr (ih _ _ h5)
def w1_f_X11_keeps (a k : Nat) : Prop := a = 159
def w2_f_X11_keeps (a k : Nat) : Prop := a = 160
theorem fr_f_X11_keeps {S : fS} {r : fS} (h : f_X11_keeps S = some r) : Fr (w1_f_X11_keeps) (w2_f_X11_keeps) S r := by
  unfold f_X11_keeps at h
  refine (Fr.rf (S := S)).tr (fr_lp_X11_keeps_2 (v1 := w1_f_X11_keeps) (v2 := w2_f_X11_keeps) (fun a k q => by unfold w1_lp_X11_keeps_2 at q; unfold w1_f_X11_keeps; exact q) (fun _ _ q => False.elim q) (fun S8 h1 => ?_) _ _ _ h)
  refine (Fr.rf (S := S8)).tr (fr_lp_X11_keeps_29 (v1 := w1_f_X11_keeps) (v2 := w2_f_X11_keeps) (fun _ _ q => False.elim q) (fun a k q => by unfold w2_lp_X11_keeps_29 at q; unfold w2_f_X11_keeps; exact q) (fun S17 h2 => ?_) _ _ _ h1)
  exact fr_e1 h2 (Fr.rf (S := S17))
def w1_lp_X11_putsBack_2 (a k : Nat) : Prop := a = 157
def w2_lp_X11_putsBack_2 (a k : Nat) : Prop := False
theorem fr_lp_X11_putsBack_2 {K : fS → Option (fS)} {r : fS} {v1 v2 : Nat → Nat → Prop} (s1 : ∀ a k, w1_lp_X11_putsBack_2 a k → v1 a k) (s2 : ∀ a k, w2_lp_X11_putsBack_2 a k → v2 a k) (hK : ∀ (x0 : fS), K x0 = some r → Fr v1 v2 x0 r) : ∀ (n : Nat) (p1 : Int32) (S0 : fS), lp_X11_putsBack_2 K n p1 S0 = some r → Fr v1 v2 S0 r := by
  intro n
  induction n with
  | zero => intro p1 S0 h; exact mm_no h
  | succ n ih =>
    intro p1 S0 h
    rw [lp_X11_putsBack_2.eq_2] at h
    rcases fr_ite h with h1 | h1
    ·
      exact (Fr.rf (S := S0)).tr (hK _ h1)
    ·
      obtain ⟨a2, e2, h3⟩ := Option.bind_eq_some_iff.mp h1
      obtain ⟨S5, e4, h5⟩ := Option.bind_eq_some_iff.mp h3
      have f6 : Fr v1 v2 S0 S5 := (Fr.rf (S := S0)).tr (fr_sI e4 (fun k => by refine s1 _ _ ?_; unfold w1_lp_X11_putsBack_2; exact rfl))
      exact f6.tr (ih _ _ h5)
def w1_lp_X11_putsBack_29 (a k : Nat) : Prop := False
def w2_lp_X11_putsBack_29 (a k : Nat) : Prop := a = 158
theorem fr_lp_X11_putsBack_29 {K : fS → Option (fS)} {r : fS} {v1 v2 : Nat → Nat → Prop} (s1 : ∀ a k, w1_lp_X11_putsBack_29 a k → v1 a k) (s2 : ∀ a k, w2_lp_X11_putsBack_29 a k → v2 a k) (hK : ∀ (x0 : fS), K x0 = some r → Fr v1 v2 x0 r) : ∀ (n : Nat) (p1 : Int32) (S0 : fS), lp_X11_putsBack_29 K n p1 S0 = some r → Fr v1 v2 S0 r := by
  intro n
  induction n with
  | zero => intro p1 S0 h; exact mm_no h
  | succ n ih =>
    intro p1 S0 h
    rw [lp_X11_putsBack_29.eq_2] at h
    rcases fr_ite h with h1 | h1
    ·
      exact (Fr.rf (S := S0)).tr (hK _ h1)
    ·
      obtain ⟨a11, e2, h3⟩ := Option.bind_eq_some_iff.mp h1
      obtain ⟨S14, e4, h5⟩ := Option.bind_eq_some_iff.mp h3
      have f6 : Fr v1 v2 S0 S14 := (Fr.rf (S := S0)).tr (fr_sL e4 (fun k => by refine s2 _ _ ?_; unfold w2_lp_X11_putsBack_29; exact rfl))
      exact f6.tr (ih _ _ h5)
def w1_f_X11_putsBack (a k : Nat) : Prop := a = 157
def w2_f_X11_putsBack (a k : Nat) : Prop := a = 158
theorem fr_f_X11_putsBack {S : fS} {r : fS} (h : f_X11_putsBack S = some r) : Fr (w1_f_X11_putsBack) (w2_f_X11_putsBack) S r := by
  unfold f_X11_putsBack at h
  refine (Fr.rf (S := S)).tr (fr_lp_X11_putsBack_2 (v1 := w1_f_X11_putsBack) (v2 := w2_f_X11_putsBack) (fun a k q => by unfold w1_lp_X11_putsBack_2 at q; unfold w1_f_X11_putsBack; exact q) (fun _ _ q => False.elim q) (fun S8 h1 => ?_) _ _ _ h)
  refine (Fr.rf (S := S8)).tr (fr_lp_X11_putsBack_29 (v1 := w1_f_X11_putsBack) (v2 := w2_f_X11_putsBack) (fun _ _ q => False.elim q) (fun a k q => by unfold w2_lp_X11_putsBack_29 at q; unfold w2_f_X11_putsBack; exact q) (fun S17 h2 => ?_) _ _ _ h1)
  exact fr_e1 h2 (Fr.rf (S := S17))
def w1_lp_X11_ahead_52 (a k : Nat) : Prop := (a = 145 ∧ k = 23) ∨ a = 157
def w2_lp_X11_ahead_52 (a k : Nat) : Prop := a = 155 ∨ a = 156 ∨ a = 158
theorem fr_lp_X11_ahead_52 {p1 : Int32} {p2 : Int32} {p3 : Int32} {p4 : Int32} {K : fS → Option (Int64 × fS)} {r : Int64 × fS} {v1 v2 : Nat → Nat → Prop} (s1 : ∀ a k, w1_lp_X11_ahead_52 a k → v1 a k) (s2 : ∀ a k, w2_lp_X11_ahead_52 a k → v2 a k) (hK : ∀ (x0 : fS), K x0 = some r → Fr v1 v2 x0 r.2) : ∀ (n : Nat) (p5 : Int32) (S0 : fS), lp_X11_ahead_52 p1 p2 p3 p4 K n p5 S0 = some r → Fr v1 v2 S0 r.2 := by
  intro n
  induction n with
  | zero => intro p5 S0 h; exact mm_no h
  | succ n ih =>
    intro p5 S0 h
    rw [lp_X11_ahead_52.eq_2] at h
    rcases fr_ite h with h1 | h1
    ·
      exact (Fr.rf (S := S0)).tr (hK _ h1)
    ·
      obtain ⟨q21, e2, h3⟩ := Option.bind_eq_some_iff.mp h1
      have f4 : Fr v1 v2 S0 q21 := (Fr.rf (S := S0)).tr (Fr.mo (fr_f_X11_hour e2) (fun a k q => by refine s1 _ _ ?_; unfold w1_f_X11_hour at q; unfold w1_lp_X11_ahead_52; rcases q with q | q; exact Or.inl (q); exact Or.inr ((q))) (fun a k q => by refine s2 _ _ ?_; unfold w2_f_X11_hour at q; unfold w2_lp_X11_ahead_52; rcases q with q | q | q; exact Or.inl (q); exact Or.inr (Or.inl (q)); exact Or.inr (Or.inr ((q)))))
      exact f4.tr (ih _ _ h3)
def w1_lp_X11_ahead_81 (a k : Nat) : Prop := False
def w2_lp_X11_ahead_81 (a k : Nat) : Prop := False
theorem fr_lp_X11_ahead_81 {K : Int64 → fS → Option (Int64 × fS)} {r : Int64 × fS} {v1 v2 : Nat → Nat → Prop} (s1 : ∀ a k, w1_lp_X11_ahead_81 a k → v1 a k) (s2 : ∀ a k, w2_lp_X11_ahead_81 a k → v2 a k) (hK : ∀ (x0 : Int64) (x1 : fS), K x0 x1 = some r → Fr v1 v2 x1 r.2) : ∀ (n : Nat) (p5 : Int64) (p7 : Int32) (S0 : fS), lp_X11_ahead_81 K n p5 p7 S0 = some r → Fr v1 v2 S0 r.2 := by
  intro n
  induction n with
  | zero => intro p5 p7 S0 h; exact mm_no h
  | succ n ih =>
    intro p5 p7 S0 h
    rw [lp_X11_ahead_81.eq_2] at h
    obtain ⟨a50, e1, h2⟩ := Option.bind_eq_some_iff.mp h
    rcases fr_ite h2 with h3 | h3
    ·
      exact (Fr.rf (S := S0)).tr (hK _ _ h3)
    ·
      obtain ⟨q54, e4, h5⟩ := Option.bind_eq_some_iff.mp h3
      rcases fr_ite h5 with h6 | h6
      ·
        exact (Fr.rf (S := S0)).tr (ih _ _ _ h6)
      ·
        obtain ⟨q58, e7, h8⟩ := Option.bind_eq_some_iff.mp h6
        obtain ⟨q61, e9, h10⟩ := Option.bind_eq_some_iff.mp h8
        rcases fr_ite h10 with h11 | h11
        ·
          exact (Fr.rf (S := S0)).tr (ih _ _ _ h11)
        ·
          exact (Fr.rf (S := S0)).tr (ih _ _ _ h11)
def w1_f_X11_ahead (a k : Nat) : Prop := (a = 145 ∧ k = 23) ∨ a = 157 ∨ a = 159
def w2_f_X11_ahead (a k : Nat) : Prop := a = 155 ∨ a = 156 ∨ a = 158 ∨ a = 160
theorem fr_f_X11_ahead {v1 : Int32} {v2 : Int32} {v3 : Int32} {v4 : Int32} {S : fS} {r : Int64 × fS} (h : f_X11_ahead v1 v2 v3 v4 S = some r) : Fr (w1_f_X11_ahead) (w2_f_X11_ahead) S r.2 := by
  unfold f_X11_ahead at h
  obtain ⟨q1, e1, h2⟩ := Option.bind_eq_some_iff.mp h
  rcases fr_ite h2 with h3 | h3
  ·
    exact fr_e2 h3 (Fr.rf (S := S))
  ·
    obtain ⟨q5, e4, h5⟩ := Option.bind_eq_some_iff.mp h3
    rcases fr_ite h5 with h6 | h6
    ·
      exact fr_e2 h6 (Fr.rf (S := S))
    ·
      obtain ⟨q9, e7, h8⟩ := Option.bind_eq_some_iff.mp h6
      rcases fr_ite h8 with h9 | h9
      ·
        exact fr_e2 h9 (Fr.rf (S := S))
      ·
        obtain ⟨q13, e10, h11⟩ := Option.bind_eq_some_iff.mp h9
        rcases fr_ite h11 with h12 | h12
        ·
          exact fr_e2 h12 (Fr.rf (S := S))
        ·
          obtain ⟨q17, e13, h14⟩ := Option.bind_eq_some_iff.mp h12
          have f15 : Fr (w1_f_X11_ahead) (w2_f_X11_ahead) S q17 := (Fr.rf (S := S)).tr (Fr.mo (fr_f_X11_keeps e13) (fun a k q => by unfold w1_f_X11_keeps at q; unfold w1_f_X11_ahead; exact Or.inr (Or.inr ((q)))) (fun a k q => by unfold w2_f_X11_keeps at q; unfold w2_f_X11_ahead; exact Or.inr (Or.inr (Or.inr ((q))))))
          refine f15.tr (fr_lp_X11_ahead_52 (v1 := w1_f_X11_ahead) (v2 := w2_f_X11_ahead) (fun a k q => by unfold w1_lp_X11_ahead_52 at q; unfold w1_f_X11_ahead; rcases q with q | q; exact Or.inl (q); exact Or.inr (Or.inl (q))) (fun a k q => by unfold w2_lp_X11_ahead_52 at q; unfold w2_f_X11_ahead; rcases q with q | q | q; exact Or.inl (q); exact Or.inr (Or.inl (q)); exact Or.inr (Or.inr (Or.inl (q)))) (fun S24 h16 => ?_) _ _ _ h14)
          rcases fr_ite h16 with h17 | h17
          ·
            refine (Fr.rf (S := S24)).tr (fr_lp_X11_ahead_81 (v1 := w1_f_X11_ahead) (v2 := w2_f_X11_ahead) (fun _ _ q => False.elim q) (fun _ _ q => False.elim q) (fun u65 S66 h18 => ?_) _ _ _ _ h17)
            obtain ⟨q68, e19, h20⟩ := Option.bind_eq_some_iff.mp h18
            have f21 : Fr (w1_f_X11_ahead) (w2_f_X11_ahead) S66 q68 := (Fr.rf (S := S66)).tr (Fr.mo (fr_f_X11_putsBack e19) (fun a k q => by unfold w1_f_X11_putsBack at q; unfold w1_f_X11_ahead; exact Or.inr (Or.inl (q))) (fun a k q => by unfold w2_f_X11_putsBack at q; unfold w2_f_X11_ahead; exact Or.inr (Or.inr (Or.inl (q)))))
            exact fr_e2 h20 f21
          ·
            rcases fr_ite h17 with h22 | h22
            ·
              obtain ⟨q37, e23, h24⟩ := Option.bind_eq_some_iff.mp h22
              rcases fr_ite h24 with h25 | h25
              ·
                obtain ⟨q41, e26, h27⟩ := Option.bind_eq_some_iff.mp h25
                obtain ⟨q44, e28, h29⟩ := Option.bind_eq_some_iff.mp h27
                have f30 : Fr (w1_f_X11_ahead) (w2_f_X11_ahead) S24 q44 := (Fr.rf (S := S24)).tr (Fr.mo (fr_f_X11_putsBack e28) (fun a k q => by unfold w1_f_X11_putsBack at q; unfold w1_f_X11_ahead; exact Or.inr (Or.inl (q))) (fun a k q => by unfold w2_f_X11_putsBack at q; unfold w2_f_X11_ahead; exact Or.inr (Or.inr (Or.inl (q)))))
                exact fr_e2 h29 f30
              ·
                obtain ⟨q47, e31, h32⟩ := Option.bind_eq_some_iff.mp h25
                have f33 : Fr (w1_f_X11_ahead) (w2_f_X11_ahead) S24 q47 := (Fr.rf (S := S24)).tr (Fr.mo (fr_f_X11_putsBack e31) (fun a k q => by unfold w1_f_X11_putsBack at q; unfold w1_f_X11_ahead; exact Or.inr (Or.inl (q))) (fun a k q => by unfold w2_f_X11_putsBack at q; unfold w2_f_X11_ahead; exact Or.inr (Or.inr (Or.inl (q)))))
                exact fr_e2 h32 f33
            ·
              obtain ⟨a28, e34, h35⟩ := Option.bind_eq_some_iff.mp h22
              obtain ⟨q31, e36, h37⟩ := Option.bind_eq_some_iff.mp h35
              obtain ⟨q34, e38, h39⟩ := Option.bind_eq_some_iff.mp h37
              have f40 : Fr (w1_f_X11_ahead) (w2_f_X11_ahead) S24 q34 := (Fr.rf (S := S24)).tr (Fr.mo (fr_f_X11_putsBack e38) (fun a k q => by unfold w1_f_X11_putsBack at q; unfold w1_f_X11_ahead; exact Or.inr (Or.inl (q))) (fun a k q => by unfold w2_f_X11_putsBack at q; unfold w2_f_X11_ahead; exact Or.inr (Or.inr (Or.inl (q)))))
              exact fr_e2 h39 f40
def w1_lp_X11_plan_57 (a k : Nat) : Prop := False
def w2_lp_X11_plan_57 (a k : Nat) : Prop := a = 162
theorem fr_lp_X11_plan_57 {p1 : Int32} {p2 : Int32} {p3 : Int32} {p4 : Int32} {p5 : Int32} {K : fS → Option (Int64 × fS)} {r : Int64 × fS} {v1 v2 : Nat → Nat → Prop} (s1 : ∀ a k, w1_lp_X11_plan_57 a k → v1 a k) (s2 : ∀ a k, w2_lp_X11_plan_57 a k → v2 a k) (hK : ∀ (x0 : fS), K x0 = some r → Fr v1 v2 x0 r.2) : ∀ (n : Nat) (p6 : Int32) (S0 : fS), lp_X11_plan_57 p1 p2 p3 p4 p5 K n p6 S0 = some r → Fr v1 v2 S0 r.2 := by
  intro n
  induction n with
  | zero => intro p6 S0 h; exact mm_no h
  | succ n ih =>
    intro p6 S0 h
    rw [lp_X11_plan_57.eq_2] at h
    rcases fr_ite h with h1 | h1
    ·
      exact (Fr.rf (S := S0)).tr (hK _ h1)
    ·
      rcases fr_ite h1 with h2 | h2
      ·
        obtain ⟨S26, e3, h4⟩ := Option.bind_eq_some_iff.mp h2
        have f5 : Fr v1 v2 S0 S26 := (Fr.rf (S := S0)).tr (fr_sL e3 (fun k => by refine s2 _ _ ?_; unfold w2_lp_X11_plan_57; exact rfl))
        exact f5.tr (ih _ _ h4)
      ·
        obtain ⟨S23, e6, h7⟩ := Option.bind_eq_some_iff.mp h2
        have f8 : Fr v1 v2 S0 S23 := (Fr.rf (S := S0)).tr (fr_sL e6 (fun k => by refine s2 _ _ ?_; unfold w2_lp_X11_plan_57; exact rfl))
        exact f8.tr (ih _ _ h7)
def w1_lp_X11_plan_108 (a k : Nat) : Prop := False
def w2_lp_X11_plan_108 (a k : Nat) : Prop := a = 162
theorem fr_lp_X11_plan_108 {p1 : Int32} {p3 : Int32} {p4 : Int32} {p5 : Int32} {p6 : Int32} {K : fS → Option (Int64 × fS)} {r : Int64 × fS} {v1 v2 : Nat → Nat → Prop} (s1 : ∀ a k, w1_lp_X11_plan_108 a k → v1 a k) (s2 : ∀ a k, w2_lp_X11_plan_108 a k → v2 a k) (hK : ∀ (x0 : fS), K x0 = some r → Fr v1 v2 x0 r.2) : ∀ (n : Nat) (p7 : Int32) (S0 : fS), lp_X11_plan_108 p1 p3 p4 p5 p6 K n p7 S0 = some r → Fr v1 v2 S0 r.2 := by
  intro n
  induction n with
  | zero => intro p7 S0 h; exact mm_no h
  | succ n ih =>
    intro p7 S0 h
    rw [lp_X11_plan_108.eq_2] at h
    obtain ⟨a32, e1, h2⟩ := Option.bind_eq_some_iff.mp h
    rcases fr_ite h2 with h3 | h3
    ·
      exact (Fr.rf (S := S0)).tr (hK _ h3)
    ·
      obtain ⟨q36, e4, h5⟩ := Option.bind_eq_some_iff.mp h3
      obtain ⟨S39, e6, h7⟩ := Option.bind_eq_some_iff.mp h5
      have f8 : Fr v1 v2 S0 S39 := (Fr.rf (S := S0)).tr (fr_sL e6 (fun k => by refine s2 _ _ ?_; unfold w2_lp_X11_plan_108; exact rfl))
      exact f8.tr (ih _ _ h7)
def w1_lp_X11_plan_100 (a k : Nat) : Prop := False
def w2_lp_X11_plan_100 (a k : Nat) : Prop := a = 162
theorem fr_lp_X11_plan_100 {p1 : Int32} {p3 : Int32} {p4 : Int32} {p5 : Int32} {K : fS → Option (Int64 × fS)} {r : Int64 × fS} {v1 v2 : Nat → Nat → Prop} (s1 : ∀ a k, w1_lp_X11_plan_100 a k → v1 a k) (s2 : ∀ a k, w2_lp_X11_plan_100 a k → v2 a k) (hK : ∀ (x0 : fS), K x0 = some r → Fr v1 v2 x0 r.2) : ∀ (n : Nat) (p6 : Int32) (S0 : fS), lp_X11_plan_100 p1 p3 p4 p5 K n p6 S0 = some r → Fr v1 v2 S0 r.2 := by
  intro n
  induction n with
  | zero => intro p6 S0 h; exact mm_no h
  | succ n ih =>
    intro p6 S0 h
    rw [lp_X11_plan_100.eq_2] at h
    rcases fr_ite h with h1 | h1
    ·
      exact (Fr.rf (S := S0)).tr (hK _ h1)
    ·
      refine (Fr.rf (S := S0)).tr (fr_lp_X11_plan_108 (v1 := v1) (v2 := v2) (fun _ _ q => False.elim q) (fun a k q => by refine s2 _ _ ?_; unfold w2_lp_X11_plan_108 at q; unfold w2_lp_X11_plan_100; exact q) (fun S42 h2 => ?_) _ _ _ h1)
      exact (Fr.rf (S := S42)).tr (ih _ _ h2)
def w1_lp_X11_plan_218 (a k : Nat) : Prop := False
def w2_lp_X11_plan_218 (a k : Nat) : Prop := False
theorem fr_lp_X11_plan_218 {p3 : Int32} {p6 : Int32} {p7 : Int64} {K : Int32 → fS → Option (Int64 × fS)} {r : Int64 × fS} {v1 v2 : Nat → Nat → Prop} (s1 : ∀ a k, w1_lp_X11_plan_218 a k → v1 a k) (s2 : ∀ a k, w2_lp_X11_plan_218 a k → v2 a k) (hK : ∀ (x0 : Int32) (x1 : fS), K x0 x1 = some r → Fr v1 v2 x1 r.2) : ∀ (n : Nat) (p9 : Int32) (S0 : fS), lp_X11_plan_218 p3 p6 p7 K n p9 S0 = some r → Fr v1 v2 S0 r.2 := by
  intro n
  induction n with
  | zero => intro p9 S0 h; exact mm_no h
  | succ n ih =>
    intro p9 S0 h
    rw [lp_X11_plan_218.eq_2] at h
    obtain ⟨q55, e1, h2⟩ := Option.bind_eq_some_iff.mp h
    rcases fr_ite h2 with h3 | h3
    ·
      exact (Fr.rf (S := S0)).tr (hK _ _ h3)
    ·
      exact (Fr.rf (S := S0)).tr (ih _ _ h3)
def w1_f_X11_plan (a k : Nat) : Prop := False
def w2_f_X11_plan (a k : Nat) : Prop := a = 162
theorem fr_f_X11_plan {v1 : Int32} {v2 : Int32} {v3 : Int32} {v4 : Int32} {v5 : Int32} {S : fS} {r : Int64 × fS} (h : f_X11_plan v1 v2 v3 v4 v5 S = some r) : Fr (w1_f_X11_plan) (w2_f_X11_plan) S r.2 := by
  unfold f_X11_plan at h
  obtain ⟨q1, e1, h2⟩ := Option.bind_eq_some_iff.mp h
  rcases fr_ite h2 with h3 | h3
  ·
    exact fr_e2 h3 (Fr.rf (S := S))
  ·
    obtain ⟨q5, e4, h5⟩ := Option.bind_eq_some_iff.mp h3
    rcases fr_ite h5 with h6 | h6
    ·
      exact fr_e2 h6 (Fr.rf (S := S))
    ·
      obtain ⟨q9, e7, h8⟩ := Option.bind_eq_some_iff.mp h6
      rcases fr_ite h8 with h9 | h9
      ·
        exact fr_e2 h9 (Fr.rf (S := S))
      ·
        obtain ⟨q13, e10, h11⟩ := Option.bind_eq_some_iff.mp h9
        rcases fr_ite h11 with h12 | h12
        ·
          exact fr_e2 h12 (Fr.rf (S := S))
        ·
          obtain ⟨q17, e13, h14⟩ := Option.bind_eq_some_iff.mp h12
          rcases fr_ite h14 with h15 | h15
          ·
            exact fr_e2 h15 (Fr.rf (S := S))
          ·
            refine (Fr.rf (S := S)).tr (fr_lp_X11_plan_57 (v1 := w1_f_X11_plan) (v2 := w2_f_X11_plan) (fun _ _ q => False.elim q) (fun a k q => by unfold w2_lp_X11_plan_57 at q; unfold w2_f_X11_plan; exact q) (fun S29 h16 => ?_) _ _ _ h15)
            refine (Fr.rf (S := S29)).tr (fr_lp_X11_plan_100 (v1 := w1_f_X11_plan) (v2 := w2_f_X11_plan) (fun _ _ q => False.elim q) (fun a k q => by unfold w2_lp_X11_plan_100 at q; unfold w2_f_X11_plan; exact q) (fun S44 h17 => ?_) _ _ _ h16)
            obtain ⟨q46, e18, h19⟩ := Option.bind_eq_some_iff.mp h17
            obtain ⟨a49, e20, h21⟩ := Option.bind_eq_some_iff.mp h19
            rcases fr_ite h21 with h22 | h22
            ·
              rcases fr_ite h22 with h23 | h23
              ·
                rcases fr_ite h23 with h24 | h24
                ·
                  exact fr_e2 h24 (Fr.rf (S := S44))
                ·
                  refine (Fr.rf (S := S44)).tr (fr_lp_X11_plan_218 (v1 := w1_f_X11_plan) (v2 := w2_f_X11_plan) (fun _ _ q => False.elim q) (fun _ _ q => False.elim q) (fun u59 S60 h25 => ?_) _ _ _ h24)
                  rcases fr_ite h25 with h26 | h26
                  ·
                    exact fr_e2 h26 (Fr.rf (S := S60))
                  ·
                    exact fr_e2 h26 (Fr.rf (S := S60))
              ·
                obtain ⟨a63, e27, h28⟩ := Option.bind_eq_some_iff.mp h23
                obtain ⟨q66, e29, h30⟩ := Option.bind_eq_some_iff.mp h28
                exact fr_e2 h30 (Fr.rf (S := S44))
            ·
              exact fr_e2 h22 (Fr.rf (S := S44))
def w1_lp_X11_waiting_56 (a k : Nat) : Prop := False
def w2_lp_X11_waiting_56 (a k : Nat) : Prop := a = 162
theorem fr_lp_X11_waiting_56 {p1 : Int32} {p2 : Int32} {p3 : Int32} {p4 : Int32} {p5 : Int64} {p7 : Int32} {K : fS → Option (Int32 × fS)} {r : Int32 × fS} {v1 v2 : Nat → Nat → Prop} (s1 : ∀ a k, w1_lp_X11_waiting_56 a k → v1 a k) (s2 : ∀ a k, w2_lp_X11_waiting_56 a k → v2 a k) (hK : ∀ (x0 : fS), K x0 = some r → Fr v1 v2 x0 r.2) : ∀ (n : Nat) (p8 : Int32) (S0 : fS), lp_X11_waiting_56 p1 p2 p3 p4 p5 p7 K n p8 S0 = some r → Fr v1 v2 S0 r.2 := by
  intro n
  induction n with
  | zero => intro p8 S0 h; exact mm_no h
  | succ n ih =>
    intro p8 S0 h
    rw [lp_X11_waiting_56.eq_2] at h
    rcases fr_ite h with h1 | h1
    ·
      exact (Fr.rf (S := S0)).tr (hK _ h1)
    ·
      rcases fr_ite h1 with h2 | h2
      ·
        obtain ⟨S22, e3, h4⟩ := Option.bind_eq_some_iff.mp h2
        have f5 : Fr v1 v2 S0 S22 := (Fr.rf (S := S0)).tr (fr_sL e3 (fun k => by refine s2 _ _ ?_; unfold w2_lp_X11_waiting_56; exact rfl))
        exact f5.tr (ih _ _ h4)
      ·
        obtain ⟨S19, e6, h7⟩ := Option.bind_eq_some_iff.mp h2
        have f8 : Fr v1 v2 S0 S19 := (Fr.rf (S := S0)).tr (fr_sL e6 (fun k => by refine s2 _ _ ?_; unfold w2_lp_X11_waiting_56; exact rfl))
        exact f8.tr (ih _ _ h7)
def w1_lp_X11_waiting_108 (a k : Nat) : Prop := False
def w2_lp_X11_waiting_108 (a k : Nat) : Prop := a = 162
theorem fr_lp_X11_waiting_108 {p1 : Int32} {p2 : Int32} {p3 : Int32} {p4 : Int32} {p5 : Int64} {p7 : Int32} {p8 : Int32} {K : fS → Option (Int32 × fS)} {r : Int32 × fS} {v1 v2 : Nat → Nat → Prop} (s1 : ∀ a k, w1_lp_X11_waiting_108 a k → v1 a k) (s2 : ∀ a k, w2_lp_X11_waiting_108 a k → v2 a k) (hK : ∀ (x0 : fS), K x0 = some r → Fr v1 v2 x0 r.2) : ∀ (n : Nat) (p9 : Int32) (S0 : fS), lp_X11_waiting_108 p1 p2 p3 p4 p5 p7 p8 K n p9 S0 = some r → Fr v1 v2 S0 r.2 := by
  intro n
  induction n with
  | zero => intro p9 S0 h; exact mm_no h
  | succ n ih =>
    intro p9 S0 h
    rw [lp_X11_waiting_108.eq_2] at h
    obtain ⟨a28, e1, h2⟩ := Option.bind_eq_some_iff.mp h
    rcases fr_ite h2 with h3 | h3
    ·
      exact (Fr.rf (S := S0)).tr (hK _ h3)
    ·
      obtain ⟨q32, e4, h5⟩ := Option.bind_eq_some_iff.mp h3
      obtain ⟨S35, e6, h7⟩ := Option.bind_eq_some_iff.mp h5
      have f8 : Fr v1 v2 S0 S35 := (Fr.rf (S := S0)).tr (fr_sL e6 (fun k => by refine s2 _ _ ?_; unfold w2_lp_X11_waiting_108; exact rfl))
      exact f8.tr (ih _ _ h7)
def w1_lp_X11_waiting_100 (a k : Nat) : Prop := False
def w2_lp_X11_waiting_100 (a k : Nat) : Prop := a = 162
theorem fr_lp_X11_waiting_100 {p1 : Int32} {p2 : Int32} {p3 : Int32} {p4 : Int32} {p5 : Int64} {p7 : Int32} {K : fS → Option (Int32 × fS)} {r : Int32 × fS} {v1 v2 : Nat → Nat → Prop} (s1 : ∀ a k, w1_lp_X11_waiting_100 a k → v1 a k) (s2 : ∀ a k, w2_lp_X11_waiting_100 a k → v2 a k) (hK : ∀ (x0 : fS), K x0 = some r → Fr v1 v2 x0 r.2) : ∀ (n : Nat) (p8 : Int32) (S0 : fS), lp_X11_waiting_100 p1 p2 p3 p4 p5 p7 K n p8 S0 = some r → Fr v1 v2 S0 r.2 := by
  intro n
  induction n with
  | zero => intro p8 S0 h; exact mm_no h
  | succ n ih =>
    intro p8 S0 h
    rw [lp_X11_waiting_100.eq_2] at h
    rcases fr_ite h with h1 | h1
    ·
      exact (Fr.rf (S := S0)).tr (hK _ h1)
    ·
      refine (Fr.rf (S := S0)).tr (fr_lp_X11_waiting_108 (v1 := v1) (v2 := v2) (fun _ _ q => False.elim q) (fun a k q => by refine s2 _ _ ?_; unfold w2_lp_X11_waiting_108 at q; unfold w2_lp_X11_waiting_100; exact q) (fun S38 h2 => ?_) _ _ _ h1)
      exact (Fr.rf (S := S38)).tr (ih _ _ h2)
def w1_lp_X11_waiting_42 (a k : Nat) : Prop := False
def w2_lp_X11_waiting_42 (a k : Nat) : Prop := a = 162
theorem fr_lp_X11_waiting_42 {p1 : Int32} {p2 : Int32} {p3 : Int32} {K : Int32 → fS → Option (Int32 × fS)} {r : Int32 × fS} {v1 v2 : Nat → Nat → Prop} (s1 : ∀ a k, w1_lp_X11_waiting_42 a k → v1 a k) (s2 : ∀ a k, w2_lp_X11_waiting_42 a k → v2 a k) (hK : ∀ (x0 : Int32) (x1 : fS), K x0 x1 = some r → Fr v1 v2 x1 r.2) : ∀ (n : Nat) (p4 : Int32) (p5 : Int64) (p7 : Int32) (S0 : fS), lp_X11_waiting_42 p1 p2 p3 K n p4 p5 p7 S0 = some r → Fr v1 v2 S0 r.2 := by
  intro n
  induction n with
  | zero => intro p4 p5 p7 S0 h; exact mm_no h
  | succ n ih =>
    intro p4 p5 p7 S0 h
    rw [lp_X11_waiting_42.eq_2] at h
    obtain ⟨a13, e1, h2⟩ := Option.bind_eq_some_iff.mp h
    rcases fr_ite h2 with h3 | h3
    ·
      exact (Fr.rf (S := S0)).tr (hK _ _ h3)
    ·
      refine (Fr.rf (S := S0)).tr (fr_lp_X11_waiting_56 (v1 := v1) (v2 := v2) (fun _ _ q => False.elim q) (fun a k q => by refine s2 _ _ ?_; unfold w2_lp_X11_waiting_56 at q; unfold w2_lp_X11_waiting_42; exact q) (fun S25 h4 => ?_) _ _ _ h3)
      refine (Fr.rf (S := S25)).tr (fr_lp_X11_waiting_100 (v1 := v1) (v2 := v2) (fun _ _ q => False.elim q) (fun a k q => by refine s2 _ _ ?_; unfold w2_lp_X11_waiting_100 at q; unfold w2_lp_X11_waiting_42; exact q) (fun S40 h5 => ?_) _ _ _ h4)
      obtain ⟨q42, e6, h7⟩ := Option.bind_eq_some_iff.mp h5
      obtain ⟨a45, e8, h9⟩ := Option.bind_eq_some_iff.mp h7
      rcases fr_ite h9 with h10 | h10
      ·
        exact (Fr.rf (S := S40)).tr (ih _ _ _ _ h10)
      ·
        obtain ⟨q49, e11, h12⟩ := Option.bind_eq_some_iff.mp h10
        rcases fr_ite h12 with h13 | h13
        ·
          exact (Fr.rf (S := S40)).tr (ih _ _ _ _ h13)
        ·
          exact (Fr.rf (S := S40)).tr (ih _ _ _ _ h13)
def w1_f_X11_waiting (a k : Nat) : Prop := False
def w2_f_X11_waiting (a k : Nat) : Prop := a = 162
theorem fr_f_X11_waiting {v1 : Int32} {v2 : Int32} {v3 : Int32} {S : fS} {r : Int32 × fS} (h : f_X11_waiting v1 v2 v3 S = some r) : Fr (w1_f_X11_waiting) (w2_f_X11_waiting) S r.2 := by
  unfold f_X11_waiting at h
  obtain ⟨q1, e1, h2⟩ := Option.bind_eq_some_iff.mp h
  rcases fr_ite h2 with h3 | h3
  ·
    exact fr_e2 h3 (Fr.rf (S := S))
  ·
    obtain ⟨q5, e4, h5⟩ := Option.bind_eq_some_iff.mp h3
    rcases fr_ite h5 with h6 | h6
    ·
      exact fr_e2 h6 (Fr.rf (S := S))
    ·
      obtain ⟨q9, e7, h8⟩ := Option.bind_eq_some_iff.mp h6
      rcases fr_ite h8 with h9 | h9
      ·
        exact fr_e2 h9 (Fr.rf (S := S))
      ·
        refine (Fr.rf (S := S)).tr (fr_lp_X11_waiting_42 (v1 := w1_f_X11_waiting) (v2 := w2_f_X11_waiting) (fun _ _ q => False.elim q) (fun a k q => by unfold w2_lp_X11_waiting_42 at q; unfold w2_f_X11_waiting; exact q) (fun u53 S54 h10 => ?_) _ _ _ _ _ h9)
        exact fr_e2 h10 (Fr.rf (S := S54))
def w1_lp_X11_isSpare_2 (a k : Nat) : Prop := a = 163
def w2_lp_X11_isSpare_2 (a k : Nat) : Prop := False
theorem fr_lp_X11_isSpare_2 {p1 : Int32} {K : fS → Option (Int32 × fS)} {r : Int32 × fS} {v1 v2 : Nat → Nat → Prop} (s1 : ∀ a k, w1_lp_X11_isSpare_2 a k → v1 a k) (s2 : ∀ a k, w2_lp_X11_isSpare_2 a k → v2 a k) (hK : ∀ (x0 : fS), K x0 = some r → Fr v1 v2 x0 r.2) : ∀ (n : Nat) (p2 : Int32) (S0 : fS), lp_X11_isSpare_2 p1 K n p2 S0 = some r → Fr v1 v2 S0 r.2 := by
  intro n
  induction n with
  | zero => intro p2 S0 h; exact mm_no h
  | succ n ih =>
    intro p2 S0 h
    rw [lp_X11_isSpare_2.eq_2] at h
    rcases fr_ite h with h1 | h1
    ·
      exact (Fr.rf (S := S0)).tr (hK _ h1)
    ·
      obtain ⟨q2, e2, h3⟩ := Option.bind_eq_some_iff.mp h1
      rcases fr_ite h3 with h4 | h4
      ·
        obtain ⟨S9, e5, h6⟩ := Option.bind_eq_some_iff.mp h4
        have f7 : Fr v1 v2 S0 S9 := (Fr.rf (S := S0)).tr (fr_sI e5 (fun k => by refine s1 _ _ ?_; unfold w1_lp_X11_isSpare_2; exact rfl))
        exact f7.tr (ih _ _ h6)
      ·
        obtain ⟨S6, e8, h9⟩ := Option.bind_eq_some_iff.mp h4
        have f10 : Fr v1 v2 S0 S6 := (Fr.rf (S := S0)).tr (fr_sI e8 (fun k => by refine s1 _ _ ?_; unfold w1_lp_X11_isSpare_2; exact rfl))
        exact f10.tr (ih _ _ h9)
def w1_lp_X11_isSpare_45 (a k : Nat) : Prop := a = 163
def w2_lp_X11_isSpare_45 (a k : Nat) : Prop := False
theorem fr_lp_X11_isSpare_45 {p1 : Int32} {p2 : Int32} {K : fS → Option (Int32 × fS)} {r : Int32 × fS} {v1 v2 : Nat → Nat → Prop} (s1 : ∀ a k, w1_lp_X11_isSpare_45 a k → v1 a k) (s2 : ∀ a k, w2_lp_X11_isSpare_45 a k → v2 a k) (hK : ∀ (x0 : fS), K x0 = some r → Fr v1 v2 x0 r.2) : ∀ (n : Nat) (p3 : Int32) (S0 : fS), lp_X11_isSpare_45 p1 p2 K n p3 S0 = some r → Fr v1 v2 S0 r.2 := by
  intro n
  induction n with
  | zero => intro p3 S0 h; exact mm_no h
  | succ n ih =>
    intro p3 S0 h
    rw [lp_X11_isSpare_45.eq_2] at h
    obtain ⟨a15, e1, h2⟩ := Option.bind_eq_some_iff.mp h
    rcases fr_ite h2 with h3 | h3
    ·
      exact (Fr.rf (S := S0)).tr (hK _ h3)
    ·
      rcases fr_ite h3 with h4 | h4
      ·
        exact (Fr.rf (S := S0)).tr (ih _ _ h4)
      ·
        obtain ⟨q20, e5, h6⟩ := Option.bind_eq_some_iff.mp h4
        obtain ⟨a23, e7, h8⟩ := Option.bind_eq_some_iff.mp h6
        rcases fr_ite h8 with h9 | h9
        ·
          obtain ⟨q39, e10, h11⟩ := Option.bind_eq_some_iff.mp h9
          obtain ⟨a42, e12, h13⟩ := Option.bind_eq_some_iff.mp h11
          rcases fr_ite h13 with h14 | h14
          ·
            exact (Fr.rf (S := S0)).tr (ih _ _ h14)
          ·
            obtain ⟨q46, e15, h16⟩ := Option.bind_eq_some_iff.mp h14
            obtain ⟨S49, e17, h18⟩ := Option.bind_eq_some_iff.mp h16
            have f19 : Fr v1 v2 S0 S49 := (Fr.rf (S := S0)).tr (fr_sI e17 (fun k => by refine s1 _ _ ?_; unfold w1_lp_X11_isSpare_45; exact rfl))
            obtain ⟨q52, e20, h21⟩ := Option.bind_eq_some_iff.mp h18
            obtain ⟨S55, e22, h23⟩ := Option.bind_eq_some_iff.mp h21
            have f24 : Fr v1 v2 S0 S55 := f19.tr (fr_sI e22 (fun k => by refine s1 _ _ ?_; unfold w1_lp_X11_isSpare_45; exact rfl))
            exact f24.tr (ih _ _ h23)
        ·
          obtain ⟨q27, e25, h26⟩ := Option.bind_eq_some_iff.mp h9
          obtain ⟨S30, e27, h28⟩ := Option.bind_eq_some_iff.mp h26
          have f29 : Fr v1 v2 S0 S30 := (Fr.rf (S := S0)).tr (fr_sI e27 (fun k => by refine s1 _ _ ?_; unfold w1_lp_X11_isSpare_45; exact rfl))
          obtain ⟨q33, e30, h31⟩ := Option.bind_eq_some_iff.mp h28
          obtain ⟨S36, e32, h33⟩ := Option.bind_eq_some_iff.mp h31
          have f34 : Fr v1 v2 S0 S36 := f29.tr (fr_sI e32 (fun k => by refine s1 _ _ ?_; unfold w1_lp_X11_isSpare_45; exact rfl))
          exact f34.tr (ih _ _ h33)
def w1_lp_X11_isSpare_37 (a k : Nat) : Prop := a = 163
def w2_lp_X11_isSpare_37 (a k : Nat) : Prop := False
theorem fr_lp_X11_isSpare_37 {p1 : Int32} {K : fS → Option (Int32 × fS)} {r : Int32 × fS} {v1 v2 : Nat → Nat → Prop} (s1 : ∀ a k, w1_lp_X11_isSpare_37 a k → v1 a k) (s2 : ∀ a k, w2_lp_X11_isSpare_37 a k → v2 a k) (hK : ∀ (x0 : fS), K x0 = some r → Fr v1 v2 x0 r.2) : ∀ (n : Nat) (p2 : Int32) (S0 : fS), lp_X11_isSpare_37 p1 K n p2 S0 = some r → Fr v1 v2 S0 r.2 := by
  intro n
  induction n with
  | zero => intro p2 S0 h; exact mm_no h
  | succ n ih =>
    intro p2 S0 h
    rw [lp_X11_isSpare_37.eq_2] at h
    rcases fr_ite h with h1 | h1
    ·
      exact (Fr.rf (S := S0)).tr (hK _ h1)
    ·
      refine (Fr.rf (S := S0)).tr (fr_lp_X11_isSpare_45 (v1 := v1) (v2 := v2) (fun a k q => by refine s1 _ _ ?_; unfold w1_lp_X11_isSpare_45 at q; unfold w1_lp_X11_isSpare_37; exact q) (fun _ _ q => False.elim q) (fun S58 h2 => ?_) _ _ _ h1)
      exact (Fr.rf (S := S58)).tr (ih _ _ h2)
def w1_f_X11_isSpare (a k : Nat) : Prop := a = 163
def w2_f_X11_isSpare (a k : Nat) : Prop := False
theorem fr_f_X11_isSpare {v1 : Int32} {S : fS} {r : Int32 × fS} (h : f_X11_isSpare v1 S = some r) : Fr (w1_f_X11_isSpare) (w2_f_X11_isSpare) S r.2 := by
  unfold f_X11_isSpare at h
  refine (Fr.rf (S := S)).tr (fr_lp_X11_isSpare_2 (v1 := w1_f_X11_isSpare) (v2 := w2_f_X11_isSpare) (fun a k q => by unfold w1_lp_X11_isSpare_2 at q; unfold w1_f_X11_isSpare; exact q) (fun _ _ q => False.elim q) (fun S12 h1 => ?_) _ _ _ h)
  refine (Fr.rf (S := S12)).tr (fr_lp_X11_isSpare_37 (v1 := w1_f_X11_isSpare) (v2 := w2_f_X11_isSpare) (fun a k q => by unfold w1_lp_X11_isSpare_37 at q; unfold w1_f_X11_isSpare; exact q) (fun _ _ q => False.elim q) (fun S60 h2 => ?_) _ _ _ h1)
  obtain ⟨q62, e3, h4⟩ := Option.bind_eq_some_iff.mp h2
  obtain ⟨a65, e5, h6⟩ := Option.bind_eq_some_iff.mp h4
  obtain ⟨z68, e7, h8⟩ := Option.bind_eq_some_iff.mp h6
  exact fr_e2 h8 (Fr.rf (S := S60))
def w1_lp_X11_needed_4 (a k : Nat) : Prop := a = 163
def w2_lp_X11_needed_4 (a k : Nat) : Prop := False
theorem fr_lp_X11_needed_4 {K : Int32 → fS → Option (Int32 × fS)} {r : Int32 × fS} {v1 v2 : Nat → Nat → Prop} (s1 : ∀ a k, w1_lp_X11_needed_4 a k → v1 a k) (s2 : ∀ a k, w2_lp_X11_needed_4 a k → v2 a k) (hK : ∀ (x0 : Int32) (x1 : fS), K x0 x1 = some r → Fr v1 v2 x1 r.2) : ∀ (n : Nat) (p1 : Int32) (p2 : Int32) (S0 : fS), lp_X11_needed_4 K n p1 p2 S0 = some r → Fr v1 v2 S0 r.2 := by
  intro n
  induction n with
  | zero => intro p1 p2 S0 h; exact mm_no h
  | succ n ih =>
    intro p1 p2 S0 h
    rw [lp_X11_needed_4.eq_2] at h
    obtain ⟨a1, e1, h2⟩ := Option.bind_eq_some_iff.mp h
    rcases fr_ite h2 with h3 | h3
    ·
      exact (Fr.rf (S := S0)).tr (hK _ _ h3)
    ·
      obtain ⟨q5, e4, h5⟩ := Option.bind_eq_some_iff.mp h3
      have f6 : Fr v1 v2 S0 q5.2 := (Fr.rf (S := S0)).tr (Fr.mo (fr_f_X11_isSpare e4) (fun a k q => by refine s1 _ _ ?_; unfold w1_f_X11_isSpare at q; unfold w1_lp_X11_needed_4; exact q) (fun _ _ q => False.elim q))
      rcases fr_ite h5 with h7 | h7
      ·
        exact f6.tr (ih _ _ _ h7)
      ·
        exact f6.tr (ih _ _ _ h7)
def w1_f_X11_needed (a k : Nat) : Prop := a = 163
def w2_f_X11_needed (a k : Nat) : Prop := False
theorem fr_f_X11_needed {S : fS} {r : Int32 × fS} (h : f_X11_needed S = some r) : Fr (w1_f_X11_needed) (w2_f_X11_needed) S r.2 := by
  unfold f_X11_needed at h
  refine (Fr.rf (S := S)).tr (fr_lp_X11_needed_4 (v1 := w1_f_X11_needed) (v2 := w2_f_X11_needed) (fun a k q => by unfold w1_lp_X11_needed_4 at q; unfold w1_f_X11_needed; exact q) (fun _ _ q => False.elim q) (fun u9 S10 h1 => ?_) _ _ _ _ h)
  exact fr_e2 h1 (Fr.rf (S := S10))
def w1_lp_X11_elder_57 (a k : Nat) : Prop := (a = 145 ∧ k = 23) ∨ a = 157
def w2_lp_X11_elder_57 (a k : Nat) : Prop := a = 155 ∨ a = 156 ∨ a = 158
theorem fr_lp_X11_elder_57 {p1 : Int32} {p2 : Int32} {p3 : Int32} {K : fS → Option (Int64 × fS)} {r : Int64 × fS} {v1 v2 : Nat → Nat → Prop} (s1 : ∀ a k, w1_lp_X11_elder_57 a k → v1 a k) (s2 : ∀ a k, w2_lp_X11_elder_57 a k → v2 a k) (hK : ∀ (x0 : fS), K x0 = some r → Fr v1 v2 x0 r.2) : ∀ (n : Nat) (p4 : Int32) (S0 : fS), lp_X11_elder_57 p1 p2 p3 K n p4 S0 = some r → Fr v1 v2 S0 r.2 := by
  intro n
  induction n with
  | zero => intro p4 S0 h; exact mm_no h
  | succ n ih =>
    intro p4 S0 h
    rw [lp_X11_elder_57.eq_2] at h
    rcases fr_ite h with h1 | h1
    ·
      exact (Fr.rf (S := S0)).tr (hK _ h1)
    ·
      obtain ⟨q18, e2, h3⟩ := Option.bind_eq_some_iff.mp h1
      have f4 : Fr v1 v2 S0 q18 := (Fr.rf (S := S0)).tr (Fr.mo (fr_f_X11_hour e2) (fun a k q => by refine s1 _ _ ?_; unfold w1_f_X11_hour at q; unfold w1_lp_X11_elder_57; rcases q with q | q; exact Or.inl (q); exact Or.inr ((q))) (fun a k q => by refine s2 _ _ ?_; unfold w2_f_X11_hour at q; unfold w2_lp_X11_elder_57; rcases q with q | q | q; exact Or.inl (q); exact Or.inr (Or.inl (q)); exact Or.inr (Or.inr ((q)))))
      exact f4.tr (ih _ _ h3)
def w1_lp_X11_elder_83 (a k : Nat) : Prop := False
def w2_lp_X11_elder_83 (a k : Nat) : Prop := False
theorem fr_lp_X11_elder_83 {p3 : Int32} {K : Int32 → Int32 → fS → Option (Int64 × fS)} {r : Int64 × fS} {v1 v2 : Nat → Nat → Prop} (s1 : ∀ a k, w1_lp_X11_elder_83 a k → v1 a k) (s2 : ∀ a k, w2_lp_X11_elder_83 a k → v2 a k) (hK : ∀ (x0 : Int32) (x1 : Int32) (x2 : fS), K x0 x1 x2 = some r → Fr v1 v2 x2 r.2) : ∀ (n : Nat) (p4 : Int32) (p5 : Int32) (p6 : Int32) (S0 : fS), lp_X11_elder_83 p3 K n p4 p5 p6 S0 = some r → Fr v1 v2 S0 r.2 := by
  intro n
  induction n with
  | zero => intro p4 p5 p6 S0 h; exact mm_no h
  | succ n ih =>
    intro p4 p5 p6 S0 h
    rw [lp_X11_elder_83.eq_2] at h
    obtain ⟨a23, e1, h2⟩ := Option.bind_eq_some_iff.mp h
    rcases fr_ite h2 with h3 | h3
    ·
      exact (Fr.rf (S := S0)).tr (hK _ _ _ h3)
    ·
      obtain ⟨a27, e4, h5⟩ := Option.bind_eq_some_iff.mp h3
      obtain ⟨a30, e6, h7⟩ := Option.bind_eq_some_iff.mp h5
      rcases fr_ite h7 with h8 | h8
      ·
        obtain ⟨a34, e9, h10⟩ := Option.bind_eq_some_iff.mp h8
        obtain ⟨a37, e11, h12⟩ := Option.bind_eq_some_iff.mp h10
        rcases fr_ite h12 with h13 | h13
        ·
          exact (Fr.rf (S := S0)).tr (ih _ _ _ _ h13)
        ·
          exact (Fr.rf (S := S0)).tr (ih _ _ _ _ h13)
      ·
        obtain ⟨a41, e14, h15⟩ := Option.bind_eq_some_iff.mp h8
        obtain ⟨a44, e16, h17⟩ := Option.bind_eq_some_iff.mp h15
        rcases fr_ite h17 with h18 | h18
        ·
          exact (Fr.rf (S := S0)).tr (ih _ _ _ _ h18)
        ·
          exact (Fr.rf (S := S0)).tr (ih _ _ _ _ h18)
def w1_f_X11_elder (a k : Nat) : Prop := (a = 145 ∧ k = 23) ∨ a = 157 ∨ a = 159
def w2_f_X11_elder (a k : Nat) : Prop := a = 155 ∨ a = 156 ∨ a = 158 ∨ a = 160
theorem fr_f_X11_elder {v1 : Int32} {v2 : Int32} {v3 : Int32} {S : fS} {r : Int64 × fS} (h : f_X11_elder v1 v2 v3 S = some r) : Fr (w1_f_X11_elder) (w2_f_X11_elder) S r.2 := by
  unfold f_X11_elder at h
  rcases fr_ite h with h1 | h1
  ·
    obtain ⟨q2, e2, h3⟩ := Option.bind_eq_some_iff.mp h1
    rcases fr_ite h3 with h4 | h4
    ·
      exact fr_e2 h4 (Fr.rf (S := S))
    ·
      obtain ⟨q6, e5, h6⟩ := Option.bind_eq_some_iff.mp h4
      rcases fr_ite h6 with h7 | h7
      ·
        exact fr_e2 h7 (Fr.rf (S := S))
      ·
        obtain ⟨a10, e8, h9⟩ := Option.bind_eq_some_iff.mp h7
        rcases fr_ite h9 with h10 | h10
        ·
          exact fr_e2 h10 (Fr.rf (S := S))
        ·
          obtain ⟨q14, e11, h12⟩ := Option.bind_eq_some_iff.mp h10
          have f13 : Fr (w1_f_X11_elder) (w2_f_X11_elder) S q14 := (Fr.rf (S := S)).tr (Fr.mo (fr_f_X11_keeps e11) (fun a k q => by unfold w1_f_X11_keeps at q; unfold w1_f_X11_elder; exact Or.inr (Or.inr ((q)))) (fun a k q => by unfold w2_f_X11_keeps at q; unfold w2_f_X11_elder; exact Or.inr (Or.inr (Or.inr ((q))))))
          refine f13.tr (fr_lp_X11_elder_57 (v1 := w1_f_X11_elder) (v2 := w2_f_X11_elder) (fun a k q => by unfold w1_lp_X11_elder_57 at q; unfold w1_f_X11_elder; rcases q with q | q; exact Or.inl (q); exact Or.inr (Or.inl (q))) (fun a k q => by unfold w2_lp_X11_elder_57 at q; unfold w2_f_X11_elder; rcases q with q | q | q; exact Or.inl (q); exact Or.inr (Or.inl (q)); exact Or.inr (Or.inr (Or.inl (q)))) (fun S21 h14 => ?_) _ _ _ h12)
          refine (Fr.rf (S := S21)).tr (fr_lp_X11_elder_83 (v1 := w1_f_X11_elder) (v2 := w2_f_X11_elder) (fun _ _ q => False.elim q) (fun _ _ q => False.elim q) (fun u48 u49 S50 h15 => ?_) _ _ _ _ _ h14)
          rcases fr_ite h15 with h16 | h16
          ·
            obtain ⟨q69, e17, h18⟩ := Option.bind_eq_some_iff.mp h16
            have f19 : Fr (w1_f_X11_elder) (w2_f_X11_elder) S50 q69 := (Fr.rf (S := S50)).tr (Fr.mo (fr_f_X11_putsBack e17) (fun a k q => by unfold w1_f_X11_putsBack at q; unfold w1_f_X11_elder; exact Or.inr (Or.inl (q))) (fun a k q => by unfold w2_f_X11_putsBack at q; unfold w2_f_X11_elder; exact Or.inr (Or.inr (Or.inl (q)))))
            exact fr_e2 h18 f19
          ·
            rcases fr_ite h16 with h20 | h20
            ·
              obtain ⟨q66, e21, h22⟩ := Option.bind_eq_some_iff.mp h20
              have f23 : Fr (w1_f_X11_elder) (w2_f_X11_elder) S50 q66 := (Fr.rf (S := S50)).tr (Fr.mo (fr_f_X11_putsBack e21) (fun a k q => by unfold w1_f_X11_putsBack at q; unfold w1_f_X11_elder; exact Or.inr (Or.inl (q))) (fun a k q => by unfold w2_f_X11_putsBack at q; unfold w2_f_X11_elder; exact Or.inr (Or.inr (Or.inl (q)))))
              exact fr_e2 h22 f23
            ·
              obtain ⟨a54, e24, h25⟩ := Option.bind_eq_some_iff.mp h20
              obtain ⟨a57, e26, h27⟩ := Option.bind_eq_some_iff.mp h25
              obtain ⟨q60, e28, h29⟩ := Option.bind_eq_some_iff.mp h27
              obtain ⟨q63, e30, h31⟩ := Option.bind_eq_some_iff.mp h29
              have f32 : Fr (w1_f_X11_elder) (w2_f_X11_elder) S50 q63 := (Fr.rf (S := S50)).tr (Fr.mo (fr_f_X11_putsBack e30) (fun a k q => by unfold w1_f_X11_putsBack at q; unfold w1_f_X11_elder; exact Or.inr (Or.inl (q))) (fun a k q => by unfold w2_f_X11_putsBack at q; unfold w2_f_X11_elder; exact Or.inr (Or.inr (Or.inl (q)))))
              exact fr_e2 h31 f32
  ·
    obtain ⟨q72, e33, h34⟩ := Option.bind_eq_some_iff.mp h1
    rcases fr_ite h34 with h35 | h35
    ·
      exact fr_e2 h35 (Fr.rf (S := S))
    ·
      obtain ⟨q76, e36, h37⟩ := Option.bind_eq_some_iff.mp h35
      rcases fr_ite h37 with h38 | h38
      ·
        exact fr_e2 h38 (Fr.rf (S := S))
      ·
        obtain ⟨q80, e39, h40⟩ := Option.bind_eq_some_iff.mp h38
        rcases fr_ite h40 with h41 | h41
        ·
          exact fr_e2 h41 (Fr.rf (S := S))
        ·
          obtain ⟨a84, e42, h43⟩ := Option.bind_eq_some_iff.mp h41
          rcases fr_ite h43 with h44 | h44
          ·
            exact fr_e2 h44 (Fr.rf (S := S))
          ·
            obtain ⟨q88, e45, h46⟩ := Option.bind_eq_some_iff.mp h44
            have f47 : Fr (w1_f_X11_elder) (w2_f_X11_elder) S q88 := (Fr.rf (S := S)).tr (Fr.mo (fr_f_X11_keeps e45) (fun a k q => by unfold w1_f_X11_keeps at q; unfold w1_f_X11_elder; exact Or.inr (Or.inr ((q)))) (fun a k q => by unfold w2_f_X11_keeps at q; unfold w2_f_X11_elder; exact Or.inr (Or.inr (Or.inr ((q))))))
            refine f47.tr (fr_lp_X11_elder_57 (v1 := w1_f_X11_elder) (v2 := w2_f_X11_elder) (fun a k q => by unfold w1_lp_X11_elder_57 at q; unfold w1_f_X11_elder; rcases q with q | q; exact Or.inl (q); exact Or.inr (Or.inl (q))) (fun a k q => by unfold w2_lp_X11_elder_57 at q; unfold w2_f_X11_elder; rcases q with q | q | q; exact Or.inl (q); exact Or.inr (Or.inl (q)); exact Or.inr (Or.inr (Or.inl (q)))) (fun S91 h48 => ?_) _ _ _ h46)
            refine (Fr.rf (S := S91)).tr (fr_lp_X11_elder_83 (v1 := w1_f_X11_elder) (v2 := w2_f_X11_elder) (fun _ _ q => False.elim q) (fun _ _ q => False.elim q) (fun u93 u94 S95 h49 => ?_) _ _ _ _ _ h48)
            rcases fr_ite h49 with h50 | h50
            ·
              obtain ⟨q114, e51, h52⟩ := Option.bind_eq_some_iff.mp h50
              have f53 : Fr (w1_f_X11_elder) (w2_f_X11_elder) S95 q114 := (Fr.rf (S := S95)).tr (Fr.mo (fr_f_X11_putsBack e51) (fun a k q => by unfold w1_f_X11_putsBack at q; unfold w1_f_X11_elder; exact Or.inr (Or.inl (q))) (fun a k q => by unfold w2_f_X11_putsBack at q; unfold w2_f_X11_elder; exact Or.inr (Or.inr (Or.inl (q)))))
              exact fr_e2 h52 f53
            ·
              rcases fr_ite h50 with h54 | h54
              ·
                obtain ⟨q111, e55, h56⟩ := Option.bind_eq_some_iff.mp h54
                have f57 : Fr (w1_f_X11_elder) (w2_f_X11_elder) S95 q111 := (Fr.rf (S := S95)).tr (Fr.mo (fr_f_X11_putsBack e55) (fun a k q => by unfold w1_f_X11_putsBack at q; unfold w1_f_X11_elder; exact Or.inr (Or.inl (q))) (fun a k q => by unfold w2_f_X11_putsBack at q; unfold w2_f_X11_elder; exact Or.inr (Or.inr (Or.inl (q)))))
                exact fr_e2 h56 f57
              ·
                obtain ⟨a99, e58, h59⟩ := Option.bind_eq_some_iff.mp h54
                obtain ⟨a102, e60, h61⟩ := Option.bind_eq_some_iff.mp h59
                obtain ⟨q105, e62, h63⟩ := Option.bind_eq_some_iff.mp h61
                obtain ⟨q108, e64, h65⟩ := Option.bind_eq_some_iff.mp h63
                have f66 : Fr (w1_f_X11_elder) (w2_f_X11_elder) S95 q108 := (Fr.rf (S := S95)).tr (Fr.mo (fr_f_X11_putsBack e64) (fun a k q => by unfold w1_f_X11_putsBack at q; unfold w1_f_X11_elder; exact Or.inr (Or.inl (q))) (fun a k q => by unfold w2_f_X11_putsBack at q; unfold w2_f_X11_elder; exact Or.inr (Or.inr (Or.inl (q)))))
                exact fr_e2 h65 f66
def w1_lp_X11_comes_3 (a k : Nat) : Prop := a = 167
def w2_lp_X11_comes_3 (a k : Nat) : Prop := False
theorem fr_lp_X11_comes_3 {p1 : Int32} {p2 : Int32} {p3 : Int64} {p5 : Int32} {K : fS → Option (fS)} {r : fS} {v1 v2 : Nat → Nat → Prop} (s1 : ∀ a k, w1_lp_X11_comes_3 a k → v1 a k) (s2 : ∀ a k, w2_lp_X11_comes_3 a k → v2 a k) (hK : ∀ (x0 : fS), K x0 = some r → Fr v1 v2 x0 r) : ∀ (n : Nat) (p6 : Int32) (S0 : fS), lp_X11_comes_3 p1 p2 p3 p5 K n p6 S0 = some r → Fr v1 v2 S0 r := by
  intro n
  induction n with
  | zero => intro p6 S0 h; exact mm_no h
  | succ n ih =>
    intro p6 S0 h
    rw [lp_X11_comes_3.eq_2] at h
    rcases fr_ite h with h1 | h1
    ·
      exact (Fr.rf (S := S0)).tr (hK _ h1)
    ·
      obtain ⟨a2, e2, h3⟩ := Option.bind_eq_some_iff.mp h1
      rcases fr_ite h3 with h4 | h4
      ·
        obtain ⟨a6, e5, h6⟩ := Option.bind_eq_some_iff.mp h4
        rcases fr_ite h6 with h7 | h7
        ·
          obtain ⟨a10, e8, h9⟩ := Option.bind_eq_some_iff.mp h7
          rcases fr_ite h9 with h10 | h10
          ·
            obtain ⟨a14, e11, h12⟩ := Option.bind_eq_some_iff.mp h10
            rcases fr_ite h12 with h13 | h13
            ·
              obtain ⟨a18, e14, h15⟩ := Option.bind_eq_some_iff.mp h13
              obtain ⟨S21, e16, h17⟩ := Option.bind_eq_some_iff.mp h15
              have f18 : Fr v1 v2 S0 S21 := (Fr.rf (S := S0)).tr (fr_sI e16 (fun k => by refine s1 _ _ ?_; unfold w1_lp_X11_comes_3; exact rfl))
              exact fr_e1 h17 f18
            ·
              obtain ⟨S24, e19, h20⟩ := Option.bind_eq_some_iff.mp h13
              have f21 : Fr v1 v2 S0 S24 := (Fr.rf (S := S0)).tr (fr_sI e19 (fun k => by refine s1 _ _ ?_; unfold w1_lp_X11_comes_3; exact rfl))
              exact fr_e1 h20 f21
          ·
            exact (Fr.rf (S := S0)).tr (ih _ _ h10)
        ·
          exact (Fr.rf (S := S0)).tr (ih _ _ h7)
      ·
        exact (Fr.rf (S := S0)).tr (ih _ _ h4)
def w1_f_X11_comes (a k : Nat) : Prop := (a = 145 ∧ k = 36) ∨ a = 164 ∨ a = 165 ∨ a = 167
def w2_f_X11_comes (a k : Nat) : Prop := a = 166
theorem fr_f_X11_comes {v1 : Int32} {v2 : Int32} {v3 : Int64} {v5 : Int32} {S : fS} {r : fS} (h : f_X11_comes v1 v2 v3 v5 S = some r) : Fr (w1_f_X11_comes) (w2_f_X11_comes) S r := by
  unfold f_X11_comes at h
  refine (Fr.rf (S := S)).tr (fr_lp_X11_comes_3 (v1 := w1_f_X11_comes) (v2 := w2_f_X11_comes) (fun a k q => by unfold w1_lp_X11_comes_3 at q; unfold w1_f_X11_comes; exact Or.inr (Or.inr (Or.inr ((q))))) (fun _ _ q => False.elim q) (fun S27 h1 => ?_) _ _ _ h)
  rcases fr_ite h1 with h2 | h2
  ·
    obtain ⟨S30, e3, h4⟩ := Option.bind_eq_some_iff.mp h2
    have f5 : Fr (w1_f_X11_comes) (w2_f_X11_comes) S27 S30 := (Fr.rf (S := S27)).tr (fr_sI e3 (fun k => by unfold w1_f_X11_comes; exact Or.inr (Or.inl (rfl))))
    obtain ⟨S33, e6, h7⟩ := Option.bind_eq_some_iff.mp h4
    have f8 : Fr (w1_f_X11_comes) (w2_f_X11_comes) S27 S33 := f5.tr (fr_sI e6 (fun k => by unfold w1_f_X11_comes; exact Or.inr (Or.inr (Or.inl (rfl)))))
    obtain ⟨S36, e9, h10⟩ := Option.bind_eq_some_iff.mp h7
    have f11 : Fr (w1_f_X11_comes) (w2_f_X11_comes) S27 S36 := f8.tr (fr_sL e9 (fun k => by unfold w2_f_X11_comes; exact rfl))
    obtain ⟨S39, e12, h13⟩ := Option.bind_eq_some_iff.mp h10
    have f14 : Fr (w1_f_X11_comes) (w2_f_X11_comes) S27 S39 := f11.tr (fr_sI e12 (fun k => by unfold w1_f_X11_comes; exact Or.inr (Or.inr (Or.inr ((rfl))))))
    obtain ⟨S42, e15, h16⟩ := Option.bind_eq_some_iff.mp h13
    have f17 : Fr (w1_f_X11_comes) (w2_f_X11_comes) S27 S42 := f14.tr (fr_pI e15 (by unfold w1_f_X11_comes; exact Or.inl (⟨rfl, rfl⟩)))
    exact fr_e1 h16 f17
  ·
    exact fr_e1 h2 (Fr.rf (S := S27))
def w1_lp_X11_goesOn_51 (a k : Nat) : Prop := (a = 145 ∧ k = 36) ∨ a = 164 ∨ a = 165 ∨ a = 167
def w2_lp_X11_goesOn_51 (a k : Nat) : Prop := a = 166
theorem fr_lp_X11_goesOn_51 {p1 : Int32} {p2 : Int32} {p3 : Int32} {p4 : Int32} {K : fS → Option (fS)} {r : fS} {v1 v2 : Nat → Nat → Prop} (s1 : ∀ a k, w1_lp_X11_goesOn_51 a k → v1 a k) (s2 : ∀ a k, w2_lp_X11_goesOn_51 a k → v2 a k) (hK : ∀ (x0 : fS), K x0 = some r → Fr v1 v2 x0 r) : ∀ (n : Nat) (p5 : Int32) (S0 : fS), lp_X11_goesOn_51 p1 p2 p3 p4 K n p5 S0 = some r → Fr v1 v2 S0 r := by
  intro n
  induction n with
  | zero => intro p5 S0 h; exact mm_no h
  | succ n ih =>
    intro p5 S0 h
    rw [lp_X11_goesOn_51.eq_2] at h
    obtain ⟨a8, e1, h2⟩ := Option.bind_eq_some_iff.mp h
    rcases fr_ite h2 with h3 | h3
    ·
      exact (Fr.rf (S := S0)).tr (hK _ h3)
    ·
      obtain ⟨q12, e4, h5⟩ := Option.bind_eq_some_iff.mp h3
      obtain ⟨q15, e6, h7⟩ := Option.bind_eq_some_iff.mp h5
      rcases fr_ite h7 with h8 | h8
      ·
        exact (Fr.rf (S := S0)).tr (ih _ _ h8)
      ·
        rcases fr_ite h8 with h9 | h9
        ·
          exact (Fr.rf (S := S0)).tr (ih _ _ h9)
        ·
          obtain ⟨q20, e10, h11⟩ := Option.bind_eq_some_iff.mp h9
          obtain ⟨a23, e12, h13⟩ := Option.bind_eq_some_iff.mp h11
          obtain ⟨q26, e14, h15⟩ := Option.bind_eq_some_iff.mp h13
          obtain ⟨a29, e16, h17⟩ := Option.bind_eq_some_iff.mp h15
          obtain ⟨q32, e18, h19⟩ := Option.bind_eq_some_iff.mp h17
          have f20 : Fr v1 v2 S0 q32 := (Fr.rf (S := S0)).tr (Fr.mo (fr_f_X11_comes e18) (fun a k q => by refine s1 _ _ ?_; unfold w1_f_X11_comes at q; unfold w1_lp_X11_goesOn_51; rcases q with q | q | q | q; exact Or.inl (q); exact Or.inr (Or.inl (q)); exact Or.inr (Or.inr (Or.inl (q))); exact Or.inr (Or.inr (Or.inr ((q))))) (fun a k q => by refine s2 _ _ ?_; unfold w2_f_X11_comes at q; unfold w2_lp_X11_goesOn_51; exact q))
          exact f20.tr (ih _ _ h19)
def w1_f_X11_goesOn (a k : Nat) : Prop := (a = 145 ∧ k = 36) ∨ a = 164 ∨ a = 165 ∨ a = 167
def w2_f_X11_goesOn (a k : Nat) : Prop := a = 166
theorem fr_f_X11_goesOn {v1 : Int32} {v2 : Int32} {S : fS} {r : fS} (h : f_X11_goesOn v1 v2 S = some r) : Fr (w1_f_X11_goesOn) (w2_f_X11_goesOn) S r := by
  unfold f_X11_goesOn at h
  obtain ⟨a1, e1, h2⟩ := Option.bind_eq_some_iff.mp h
  obtain ⟨a4, e3, h4⟩ := Option.bind_eq_some_iff.mp h2
  rcases fr_ite h4 with h5 | h5
  ·
    refine (Fr.rf (S := S)).tr (fr_lp_X11_goesOn_51 (v1 := w1_f_X11_goesOn) (v2 := w2_f_X11_goesOn) (fun a k q => by unfold w1_lp_X11_goesOn_51 at q; unfold w1_f_X11_goesOn; rcases q with q | q | q | q; exact Or.inl (q); exact Or.inr (Or.inl (q)); exact Or.inr (Or.inr (Or.inl (q))); exact Or.inr (Or.inr (Or.inr ((q))))) (fun a k q => by unfold w2_lp_X11_goesOn_51 at q; unfold w2_f_X11_goesOn; exact q) (fun S35 h6 => ?_) _ _ _ h5)
    exact fr_e1 h6 (Fr.rf (S := S35))
  ·
    obtain ⟨a37, e7, h8⟩ := Option.bind_eq_some_iff.mp h5
    obtain ⟨q40, e9, h10⟩ := Option.bind_eq_some_iff.mp h8
    obtain ⟨a43, e11, h12⟩ := Option.bind_eq_some_iff.mp h10
    obtain ⟨q46, e13, h14⟩ := Option.bind_eq_some_iff.mp h12
    have f15 : Fr (w1_f_X11_goesOn) (w2_f_X11_goesOn) S q46 := (Fr.rf (S := S)).tr (Fr.mo (fr_f_X11_comes e13) (fun a k q => by unfold w1_f_X11_comes at q; unfold w1_f_X11_goesOn; rcases q with q | q | q | q; exact Or.inl (q); exact Or.inr (Or.inl (q)); exact Or.inr (Or.inr (Or.inl (q))); exact Or.inr (Or.inr (Or.inr ((q))))) (fun a k q => by unfold w2_f_X11_comes at q; unfold w2_f_X11_goesOn; exact q))
    refine f15.tr (fr_lp_X11_goesOn_51 (v1 := w1_f_X11_goesOn) (v2 := w2_f_X11_goesOn) (fun a k q => by unfold w1_lp_X11_goesOn_51 at q; unfold w1_f_X11_goesOn; rcases q with q | q | q | q; exact Or.inl (q); exact Or.inr (Or.inl (q)); exact Or.inr (Or.inr (Or.inl (q))); exact Or.inr (Or.inr (Or.inr ((q))))) (fun a k q => by unfold w2_lp_X11_goesOn_51 at q; unfold w2_f_X11_goesOn; exact q) (fun S49 h16 => ?_) _ _ _ h14)
    exact fr_e1 h16 (Fr.rf (S := S49))
def w1_lp_X11_ripe_93 (a k : Nat) : Prop := (a = 145 ∧ k = 36) ∨ a = 164 ∨ a = 165 ∨ a = 167
def w2_lp_X11_ripe_93 (a k : Nat) : Prop := a = 166
theorem fr_lp_X11_ripe_93 {p2 : Int32} {p3 : Int32} {p4 : Int32} {p5 : Int32} {p6 : Int32} {K : fS → Option (Int32 × fS)} {r : Int32 × fS} {v1 v2 : Nat → Nat → Prop} (s1 : ∀ a k, w1_lp_X11_ripe_93 a k → v1 a k) (s2 : ∀ a k, w2_lp_X11_ripe_93 a k → v2 a k) (hK : ∀ (x0 : fS), K x0 = some r → Fr v1 v2 x0 r.2) : ∀ (n : Nat) (p7 : Int32) (S0 : fS), lp_X11_ripe_93 p2 p3 p4 p5 p6 K n p7 S0 = some r → Fr v1 v2 S0 r.2 := by
  intro n
  induction n with
  | zero => intro p7 S0 h; exact mm_no h
  | succ n ih =>
    intro p7 S0 h
    rw [lp_X11_ripe_93.eq_2] at h
    rcases fr_ite h with h1 | h1
    ·
      exact (Fr.rf (S := S0)).tr (hK _ h1)
    ·
      rcases fr_ite h1 with h2 | h2
      ·
        exact (Fr.rf (S := S0)).tr (hK _ h2)
      ·
        obtain ⟨a31, e3, h4⟩ := Option.bind_eq_some_iff.mp h2
        rcases fr_ite h4 with h5 | h5
        ·
          obtain ⟨q35, e6, h7⟩ := Option.bind_eq_some_iff.mp h5
          have f8 : Fr v1 v2 S0 q35 := (Fr.rf (S := S0)).tr (Fr.mo (fr_f_X11_goesOn e6) (fun a k q => by refine s1 _ _ ?_; unfold w1_f_X11_goesOn at q; unfold w1_lp_X11_ripe_93; rcases q with q | q | q | q; exact Or.inl (q); exact Or.inr (Or.inl (q)); exact Or.inr (Or.inr (Or.inl (q))); exact Or.inr (Or.inr (Or.inr ((q))))) (fun a k q => by refine s2 _ _ ?_; unfold w2_f_X11_goesOn at q; unfold w2_lp_X11_ripe_93; exact q))
          exact f8.tr (ih _ _ h7)
        ·
          exact (Fr.rf (S := S0)).tr (ih _ _ h5)
def w1_lp_X11_ripe_74 (a k : Nat) : Prop := (a = 145 ∧ k = 36) ∨ a = 164 ∨ a = 165 ∨ a = 167
def w2_lp_X11_ripe_74 (a k : Nat) : Prop := a = 166
theorem fr_lp_X11_ripe_74 {p2 : Int32} {p3 : Int32} {p4 : Int32} {p5 : Int32} {K : fS → Option (Int32 × fS)} {r : Int32 × fS} {v1 v2 : Nat → Nat → Prop} (s1 : ∀ a k, w1_lp_X11_ripe_74 a k → v1 a k) (s2 : ∀ a k, w2_lp_X11_ripe_74 a k → v2 a k) (hK : ∀ (x0 : fS), K x0 = some r → Fr v1 v2 x0 r.2) : ∀ (n : Nat) (p6 : Int32) (S0 : fS), lp_X11_ripe_74 p2 p3 p4 p5 K n p6 S0 = some r → Fr v1 v2 S0 r.2 := by
  intro n
  induction n with
  | zero => intro p6 S0 h; exact mm_no h
  | succ n ih =>
    intro p6 S0 h
    rw [lp_X11_ripe_74.eq_2] at h
    rcases fr_ite h with h1 | h1
    ·
      exact (Fr.rf (S := S0)).tr (hK _ h1)
    ·
      rcases fr_ite h1 with h2 | h2
      ·
        exact (Fr.rf (S := S0)).tr (hK _ h2)
      ·
        refine (Fr.rf (S := S0)).tr (fr_lp_X11_ripe_93 (v1 := v1) (v2 := v2) (fun a k q => by refine s1 _ _ ?_; unfold w1_lp_X11_ripe_93 at q; unfold w1_lp_X11_ripe_74; rcases q with q | q | q | q; exact Or.inl (q); exact Or.inr (Or.inl (q)); exact Or.inr (Or.inr (Or.inl (q))); exact Or.inr (Or.inr (Or.inr ((q))))) (fun a k q => by refine s2 _ _ ?_; unfold w2_lp_X11_ripe_93 at q; unfold w2_lp_X11_ripe_74; exact q) (fun S38 h3 => ?_) _ _ _ h2)
        exact (Fr.rf (S := S38)).tr (ih _ _ h3)
def w1_lp_X11_ripe_163 (a k : Nat) : Prop := False
def w2_lp_X11_ripe_163 (a k : Nat) : Prop := False
theorem fr_lp_X11_ripe_163 {p2 : Int32} {p3 : Int32} {p4 : Int32} {p5 : Int32} {K : Int32 → fS → Option (Int32 × fS)} {r : Int32 × fS} {v1 v2 : Nat → Nat → Prop} (s1 : ∀ a k, w1_lp_X11_ripe_163 a k → v1 a k) (s2 : ∀ a k, w2_lp_X11_ripe_163 a k → v2 a k) (hK : ∀ (x0 : Int32) (x1 : fS), K x0 x1 = some r → Fr v1 v2 x1 r.2) : ∀ (n : Nat) (p6 : Int32) (p7 : Int32) (S0 : fS), lp_X11_ripe_163 p2 p3 p4 p5 K n p6 p7 S0 = some r → Fr v1 v2 S0 r.2 := by
  intro n
  induction n with
  | zero => intro p6 p7 S0 h; exact mm_no h
  | succ n ih =>
    intro p6 p7 S0 h
    rw [lp_X11_ripe_163.eq_2] at h
    rcases fr_ite h with h1 | h1
    ·
      exact (Fr.rf (S := S0)).tr (hK _ _ h1)
    ·
      obtain ⟨a44, e2, h3⟩ := Option.bind_eq_some_iff.mp h1
      rcases fr_ite h3 with h4 | h4
      ·
        obtain ⟨a60, e5, h6⟩ := Option.bind_eq_some_iff.mp h4
        rcases fr_ite h6 with h7 | h7
        ·
          obtain ⟨a76, e8, h9⟩ := Option.bind_eq_some_iff.mp h7
          rcases fr_ite h9 with h10 | h10
          ·
            rcases fr_ite h10 with h11 | h11
            ·
              exact (Fr.rf (S := S0)).tr (ih _ _ _ h11)
            ·
              rcases fr_ite h11 with h12 | h12
              ·
                obtain ⟨a82, e13, h14⟩ := Option.bind_eq_some_iff.mp h12
                exact (Fr.rf (S := S0)).tr (ih _ _ _ h14)
              ·
                obtain ⟨a85, e15, h16⟩ := Option.bind_eq_some_iff.mp h12
                rcases fr_ite h16 with h17 | h17
                ·
                  exact (Fr.rf (S := S0)).tr (ih _ _ _ h17)
                ·
                  obtain ⟨a89, e18, h19⟩ := Option.bind_eq_some_iff.mp h17
                  exact (Fr.rf (S := S0)).tr (ih _ _ _ h19)
          ·
            obtain ⟨a92, e20, h21⟩ := Option.bind_eq_some_iff.mp h10
            rcases fr_ite h21 with h22 | h22
            ·
              rcases fr_ite h22 with h23 | h23
              ·
                exact (Fr.rf (S := S0)).tr (ih _ _ _ h23)
              ·
                rcases fr_ite h23 with h24 | h24
                ·
                  obtain ⟨a98, e25, h26⟩ := Option.bind_eq_some_iff.mp h24
                  exact (Fr.rf (S := S0)).tr (ih _ _ _ h26)
                ·
                  obtain ⟨a101, e27, h28⟩ := Option.bind_eq_some_iff.mp h24
                  rcases fr_ite h28 with h29 | h29
                  ·
                    exact (Fr.rf (S := S0)).tr (ih _ _ _ h29)
                  ·
                    obtain ⟨a105, e30, h31⟩ := Option.bind_eq_some_iff.mp h29
                    exact (Fr.rf (S := S0)).tr (ih _ _ _ h31)
            ·
              rcases fr_ite h22 with h32 | h32
              ·
                exact (Fr.rf (S := S0)).tr (ih _ _ _ h32)
              ·
                rcases fr_ite h32 with h33 | h33
                ·
                  obtain ⟨a110, e34, h35⟩ := Option.bind_eq_some_iff.mp h33
                  exact (Fr.rf (S := S0)).tr (ih _ _ _ h35)
                ·
                  obtain ⟨a113, e36, h37⟩ := Option.bind_eq_some_iff.mp h33
                  rcases fr_ite h37 with h38 | h38
                  ·
                    exact (Fr.rf (S := S0)).tr (ih _ _ _ h38)
                  ·
                    obtain ⟨a117, e39, h40⟩ := Option.bind_eq_some_iff.mp h38
                    exact (Fr.rf (S := S0)).tr (ih _ _ _ h40)
        ·
          rcases fr_ite h7 with h41 | h41
          ·
            exact (Fr.rf (S := S0)).tr (ih _ _ _ h41)
          ·
            rcases fr_ite h41 with h42 | h42
            ·
              obtain ⟨a66, e43, h44⟩ := Option.bind_eq_some_iff.mp h42
              exact (Fr.rf (S := S0)).tr (ih _ _ _ h44)
            ·
              obtain ⟨a69, e45, h46⟩ := Option.bind_eq_some_iff.mp h42
              rcases fr_ite h46 with h47 | h47
              ·
                exact (Fr.rf (S := S0)).tr (ih _ _ _ h47)
              ·
                obtain ⟨a73, e48, h49⟩ := Option.bind_eq_some_iff.mp h47
                exact (Fr.rf (S := S0)).tr (ih _ _ _ h49)
      ·
        rcases fr_ite h4 with h50 | h50
        ·
          exact (Fr.rf (S := S0)).tr (ih _ _ _ h50)
        ·
          rcases fr_ite h50 with h51 | h51
          ·
            obtain ⟨a50, e52, h53⟩ := Option.bind_eq_some_iff.mp h51
            exact (Fr.rf (S := S0)).tr (ih _ _ _ h53)
          ·
            obtain ⟨a53, e54, h55⟩ := Option.bind_eq_some_iff.mp h51
            rcases fr_ite h55 with h56 | h56
            ·
              exact (Fr.rf (S := S0)).tr (ih _ _ _ h56)
            ·
              obtain ⟨a57, e57, h58⟩ := Option.bind_eq_some_iff.mp h56
              exact (Fr.rf (S := S0)).tr (ih _ _ _ h58)
def w1_f_X11_ripe (a k : Nat) : Prop := (a = 145 ∧ k = 36) ∨ a = 164 ∨ a = 165 ∨ a = 167
def w2_f_X11_ripe (a k : Nat) : Prop := a = 166
theorem fr_f_X11_ripe {v1 : Int32} {v2 : Int32} {v3 : Int32} {v4 : Int32} {v5 : Int32} {S : fS} {r : Int32 × fS} (h : f_X11_ripe v1 v2 v3 v4 v5 S = some r) : Fr (w1_f_X11_ripe) (w2_f_X11_ripe) S r.2 := by
  unfold f_X11_ripe at h
  obtain ⟨q1, e1, h2⟩ := Option.bind_eq_some_iff.mp h
  rcases fr_ite h2 with h3 | h3
  ·
    exact fr_e2 h3 (Fr.rf (S := S))
  ·
    obtain ⟨q5, e4, h5⟩ := Option.bind_eq_some_iff.mp h3
    rcases fr_ite h5 with h6 | h6
    ·
      exact fr_e2 h6 (Fr.rf (S := S))
    ·
      obtain ⟨q9, e7, h8⟩ := Option.bind_eq_some_iff.mp h6
      rcases fr_ite h8 with h9 | h9
      ·
        exact fr_e2 h9 (Fr.rf (S := S))
      ·
        obtain ⟨q13, e10, h11⟩ := Option.bind_eq_some_iff.mp h9
        rcases fr_ite h11 with h12 | h12
        ·
          exact fr_e2 h12 (Fr.rf (S := S))
        ·
          obtain ⟨q17, e13, h14⟩ := Option.bind_eq_some_iff.mp h12
          rcases fr_ite h14 with h15 | h15
          ·
            exact fr_e2 h15 (Fr.rf (S := S))
          ·
            obtain ⟨S21, e16, h17⟩ := Option.bind_eq_some_iff.mp h15
            have f18 : Fr (w1_f_X11_ripe) (w2_f_X11_ripe) S S21 := (Fr.rf (S := S)).tr (fr_pI e16 (by unfold w1_f_X11_ripe; exact Or.inl (⟨rfl, rfl⟩)))
            obtain ⟨q24, e19, h20⟩ := Option.bind_eq_some_iff.mp h17
            have f21 : Fr (w1_f_X11_ripe) (w2_f_X11_ripe) S q24 := f18.tr (Fr.mo (fr_f_X11_comes e19) (fun a k q => by unfold w1_f_X11_comes at q; unfold w1_f_X11_ripe; rcases q with q | q | q | q; exact Or.inl (q); exact Or.inr (Or.inl (q)); exact Or.inr (Or.inr (Or.inl (q))); exact Or.inr (Or.inr (Or.inr ((q))))) (fun a k q => by unfold w2_f_X11_comes at q; unfold w2_f_X11_ripe; exact q))
            refine f21.tr (fr_lp_X11_ripe_74 (v1 := w1_f_X11_ripe) (v2 := w2_f_X11_ripe) (fun a k q => by unfold w1_lp_X11_ripe_74 at q; unfold w1_f_X11_ripe; rcases q with q | q | q | q; exact Or.inl (q); exact Or.inr (Or.inl (q)); exact Or.inr (Or.inr (Or.inl (q))); exact Or.inr (Or.inr (Or.inr ((q))))) (fun a k q => by unfold w2_lp_X11_ripe_74 at q; unfold w2_f_X11_ripe; exact q) (fun S40 h22 => ?_) _ _ _ h20)
            rcases fr_ite h22 with h23 | h23
            ·
              refine (Fr.rf (S := S40)).tr (fr_lp_X11_ripe_163 (v1 := w1_f_X11_ripe) (v2 := w2_f_X11_ripe) (fun _ _ q => False.elim q) (fun _ _ q => False.elim q) (fun u120 S121 h24 => ?_) _ _ _ _ h23)
              exact fr_e2 h24 (Fr.rf (S := S121))
            ·
              exact fr_e2 h23 (Fr.rf (S := S40))
def w1_f_X11_letter (a k : Nat) : Prop := a = 157
def w2_f_X11_letter (a k : Nat) : Prop := False
theorem fr_f_X11_letter {v1 : Int32} {v2 : Int32} {v3 : Int32} {S : fS} {r : Int32 × fS} (h : f_X11_letter v1 v2 v3 S = some r) : Fr (w1_f_X11_letter) (w2_f_X11_letter) S r.2 := by
  unfold f_X11_letter at h
  rcases fr_ite h with h1 | h1
  ·
    obtain ⟨S43, e2, h3⟩ := Option.bind_eq_some_iff.mp h1
    have f4 : Fr (w1_f_X11_letter) (w2_f_X11_letter) S S43 := (Fr.rf (S := S)).tr (fr_sI e2 (fun k => by unfold w1_f_X11_letter; exact rfl))
    exact fr_e2 h3 f4
  ·
    obtain ⟨a2, e5, h6⟩ := Option.bind_eq_some_iff.mp h1
    rcases fr_ite h6 with h7 | h7
    ·
      exact fr_e2 h7 (Fr.rf (S := S))
    ·
      obtain ⟨q6, e8, h9⟩ := Option.bind_eq_some_iff.mp h7
      rcases fr_ite h9 with h10 | h10
      ·
        exact fr_e2 h10 (Fr.rf (S := S))
      ·
        obtain ⟨q10, e11, h12⟩ := Option.bind_eq_some_iff.mp h10
        rcases fr_ite h12 with h13 | h13
        ·
          exact fr_e2 h13 (Fr.rf (S := S))
        ·
          obtain ⟨q14, e14, h15⟩ := Option.bind_eq_some_iff.mp h13
          rcases fr_ite h15 with h16 | h16
          ·
            exact fr_e2 h16 (Fr.rf (S := S))
          ·
            obtain ⟨q18, e17, h18⟩ := Option.bind_eq_some_iff.mp h16
            rcases fr_ite h18 with h19 | h19
            ·
              obtain ⟨a22, e20, h21⟩ := Option.bind_eq_some_iff.mp h19
              obtain ⟨S25, e22, h23⟩ := Option.bind_eq_some_iff.mp h21
              have f24 : Fr (w1_f_X11_letter) (w2_f_X11_letter) S S25 := (Fr.rf (S := S)).tr (fr_sI e22 (fun k => by unfold w1_f_X11_letter; exact rfl))
              obtain ⟨S28, e25, h26⟩ := Option.bind_eq_some_iff.mp h23
              have f27 : Fr (w1_f_X11_letter) (w2_f_X11_letter) S S28 := f24.tr (fr_sI e25 (fun k => by unfold w1_f_X11_letter; exact rfl))
              obtain ⟨S31, e28, h29⟩ := Option.bind_eq_some_iff.mp h26
              have f30 : Fr (w1_f_X11_letter) (w2_f_X11_letter) S S31 := f27.tr (fr_sI e28 (fun k => by unfold w1_f_X11_letter; exact rfl))
              obtain ⟨a34, e31, h32⟩ := Option.bind_eq_some_iff.mp h29
              obtain ⟨S37, e33, h34⟩ := Option.bind_eq_some_iff.mp h32
              have f35 : Fr (w1_f_X11_letter) (w2_f_X11_letter) S S37 := f30.tr (fr_sI e33 (fun k => by unfold w1_f_X11_letter; exact rfl))
              obtain ⟨a40, e36, h37⟩ := Option.bind_eq_some_iff.mp h34
              exact fr_e2 h37 f35
            ·
              exact fr_e2 h19 (Fr.rf (S := S))
def w1_f_X11_seed (a k : Nat) : Prop := a = 157
def w2_f_X11_seed (a k : Nat) : Prop := False
theorem fr_f_X11_seed {v1 : Int32} {S : fS} {r : Int32 × fS} (h : f_X11_seed v1 S = some r) : Fr (w1_f_X11_seed) (w2_f_X11_seed) S r.2 := by
  unfold f_X11_seed at h
  rcases fr_ite h with h1 | h1
  ·
    obtain ⟨a2, e2, h3⟩ := Option.bind_eq_some_iff.mp h1
    obtain ⟨S5, e4, h5⟩ := Option.bind_eq_some_iff.mp h3
    have f6 : Fr (w1_f_X11_seed) (w2_f_X11_seed) S S5 := (Fr.rf (S := S)).tr (fr_sI e4 (fun k => by unfold w1_f_X11_seed; exact rfl))
    exact fr_e2 h5 f6
  ·
    exact fr_e2 h1 (Fr.rf (S := S))
def w1_f_X11_draw (a k : Nat) : Prop := False
def w2_f_X11_draw (a k : Nat) : Prop := (a = 145 ∧ k = 37)
theorem fr_f_X11_draw {S : fS} {r : Int64 × fS} (h : f_X11_draw S = some r) : Fr (w1_f_X11_draw) (w2_f_X11_draw) S r.2 := by
  unfold f_X11_draw at h
  obtain ⟨a1, e1, h2⟩ := Option.bind_eq_some_iff.mp h
  obtain ⟨S4, e3, h4⟩ := Option.bind_eq_some_iff.mp h2
  have f5 : Fr (w1_f_X11_draw) (w2_f_X11_draw) S S4 := (Fr.rf (S := S)).tr (fr_pL e3 (by unfold w2_f_X11_draw; exact ⟨rfl, rfl⟩))
  obtain ⟨a7, e6, h7⟩ := Option.bind_eq_some_iff.mp h4
  exact fr_e2 h7 f5
def w1_lp_X11_wanders_30 (a k : Nat) : Prop := False
def w2_lp_X11_wanders_30 (a k : Nat) : Prop := False
theorem fr_lp_X11_wanders_30 {p1 : Int32} {p2 : Int32} {K : Int32 → fS → Option (fS)} {r : fS} {v1 v2 : Nat → Nat → Prop} (s1 : ∀ a k, w1_lp_X11_wanders_30 a k → v1 a k) (s2 : ∀ a k, w2_lp_X11_wanders_30 a k → v2 a k) (hK : ∀ (x0 : Int32) (x1 : fS), K x0 x1 = some r → Fr v1 v2 x1 r) : ∀ (n : Nat) (p3 : Int32) (p4 : Int32) (S0 : fS), lp_X11_wanders_30 p1 p2 K n p3 p4 S0 = some r → Fr v1 v2 S0 r := by
  intro n
  induction n with
  | zero => intro p3 p4 S0 h; exact mm_no h
  | succ n ih =>
    intro p3 p4 S0 h
    rw [lp_X11_wanders_30.eq_2] at h
    obtain ⟨a12, e1, h2⟩ := Option.bind_eq_some_iff.mp h
    rcases fr_ite h2 with h3 | h3
    ·
      exact (Fr.rf (S := S0)).tr (hK _ _ h3)
    ·
      obtain ⟨q16, e4, h5⟩ := Option.bind_eq_some_iff.mp h3
      rcases fr_ite h5 with h6 | h6
      ·
        exact (Fr.rf (S := S0)).tr (ih _ _ _ h6)
      ·
        exact (Fr.rf (S := S0)).tr (ih _ _ _ h6)
def w1_lp_X11_wanders_83 (a k : Nat) : Prop := False
def w2_lp_X11_wanders_83 (a k : Nat) : Prop := False
theorem fr_lp_X11_wanders_83 {p1 : Int32} {p2 : Int32} {K : Int32 → fS → Option (fS)} {r : fS} {v1 v2 : Nat → Nat → Prop} (s1 : ∀ a k, w1_lp_X11_wanders_83 a k → v1 a k) (s2 : ∀ a k, w2_lp_X11_wanders_83 a k → v2 a k) (hK : ∀ (x0 : Int32) (x1 : fS), K x0 x1 = some r → Fr v1 v2 x1 r) : ∀ (n : Nat) (p4 : Int32) (p5 : Int32) (S0 : fS), lp_X11_wanders_83 p1 p2 K n p4 p5 S0 = some r → Fr v1 v2 S0 r := by
  intro n
  induction n with
  | zero => intro p4 p5 S0 h; exact mm_no h
  | succ n ih =>
    intro p4 p5 S0 h
    rw [lp_X11_wanders_83.eq_2] at h
    obtain ⟨q30, e1, h2⟩ := Option.bind_eq_some_iff.mp h
    rcases fr_ite h2 with h3 | h3
    ·
      obtain ⟨q34, e4, h5⟩ := Option.bind_eq_some_iff.mp h3
      rcases fr_ite h5 with h6 | h6
      ·
        exact (Fr.rf (S := S0)).tr (ih _ _ _ h6)
      ·
        exact (Fr.rf (S := S0)).tr (ih _ _ _ h6)
    ·
      rcases fr_ite h3 with h7 | h7
      ·
        exact (Fr.rf (S := S0)).tr (hK _ _ h7)
      ·
        obtain ⟨q39, e8, h9⟩ := Option.bind_eq_some_iff.mp h7
        rcases fr_ite h9 with h10 | h10
        ·
          exact (Fr.rf (S := S0)).tr (ih _ _ _ h10)
        ·
          exact (Fr.rf (S := S0)).tr (ih _ _ _ h10)
def w1_f_X11_wanders (a k : Nat) : Prop := a = 157
def w2_f_X11_wanders (a k : Nat) : Prop := (a = 145 ∧ k = 37)
theorem fr_f_X11_wanders {v1 : Int32} {S : fS} {r : fS} (h : f_X11_wanders v1 S = some r) : Fr (w1_f_X11_wanders) (w2_f_X11_wanders) S r := by
  unfold f_X11_wanders at h
  obtain ⟨q1, e1, h2⟩ := Option.bind_eq_some_iff.mp h
  rcases fr_ite h2 with h3 | h3
  ·
    exact fr_e1 h3 (Fr.rf (S := S))
  ·
    obtain ⟨q5, e4, h5⟩ := Option.bind_eq_some_iff.mp h3
    have f6 : Fr (w1_f_X11_wanders) (w2_f_X11_wanders) S q5.2 := (Fr.rf (S := S)).tr (Fr.mo (fr_f_X11_draw e4) (fun _ _ q => False.elim q) (fun a k q => by unfold w2_f_X11_draw at q; unfold w2_f_X11_wanders; exact q))
    obtain ⟨a8, e7, h8⟩ := Option.bind_eq_some_iff.mp h5
    rcases fr_ite h8 with h9 | h9
    ·
      refine f6.tr (fr_lp_X11_wanders_30 (v1 := w1_f_X11_wanders) (v2 := w2_f_X11_wanders) (fun _ _ q => False.elim q) (fun _ _ q => False.elim q) (fun u20 S21 h10 => ?_) _ _ _ _ h9)
      rcases fr_ite h10 with h11 | h11
      ·
        exact fr_e1 h11 (Fr.rf (S := S21))
      ·
        obtain ⟨q24, e12, h13⟩ := Option.bind_eq_some_iff.mp h11
        have f14 : Fr (w1_f_X11_wanders) (w2_f_X11_wanders) S21 q24.2 := (Fr.rf (S := S21)).tr (Fr.mo (fr_f_X11_draw e12) (fun _ _ q => False.elim q) (fun a k q => by unfold w2_f_X11_draw at q; unfold w2_f_X11_wanders; exact q))
        obtain ⟨a27, e15, h16⟩ := Option.bind_eq_some_iff.mp h13
        refine f14.tr (fr_lp_X11_wanders_83 (v1 := w1_f_X11_wanders) (v2 := w2_f_X11_wanders) (fun _ _ q => False.elim q) (fun _ _ q => False.elim q) (fun u43 S44 h17 => ?_) _ _ _ _ h16)
        obtain ⟨q46, e18, h19⟩ := Option.bind_eq_some_iff.mp h17
        have f20 : Fr (w1_f_X11_wanders) (w2_f_X11_wanders) S44 q46 := (Fr.rf (S := S44)).tr (Fr.mo (fr_f_X11_setsOff e18) (fun a k q => by unfold w1_f_X11_setsOff at q; unfold w1_f_X11_wanders; exact q) (fun _ _ q => False.elim q))
        exact fr_e1 h19 f20
    ·
      exact fr_e1 h9 f6
def w1_lp_X11_meetings_105 (a k : Nat) : Prop := a = 157
def w2_lp_X11_meetings_105 (a k : Nat) : Prop := (a = 145 ∧ k = 37)
theorem fr_lp_X11_meetings_105 {p1 : Int32} {p2 : Int32} {p3 : Int32} {p4 : Int32} {p5 : Int32} {p6 : Int32} {p7 : Int32} {p8 : Int32} {p9 : Int32} {p10 : Int32} {K : fS → Option (Int32 × fS)} {r : Int32 × fS} {v1 v2 : Nat → Nat → Prop} (s1 : ∀ a k, w1_lp_X11_meetings_105 a k → v1 a k) (s2 : ∀ a k, w2_lp_X11_meetings_105 a k → v2 a k) (hK : ∀ (x0 : fS), K x0 = some r → Fr v1 v2 x0 r.2) : ∀ (n : Nat) (p11 : Int32) (S0 : fS), lp_X11_meetings_105 p1 p2 p3 p4 p5 p6 p7 p8 p9 p10 K n p11 S0 = some r → Fr v1 v2 S0 r.2 := by
  intro n
  induction n with
  | zero => intro p11 S0 h; exact mm_no h
  | succ n ih =>
    intro p11 S0 h
    rw [lp_X11_meetings_105.eq_2] at h
    obtain ⟨a33, e1, h2⟩ := Option.bind_eq_some_iff.mp h
    rcases fr_ite h2 with h3 | h3
    ·
      exact (Fr.rf (S := S0)).tr (hK _ h3)
    ·
      obtain ⟨q37, e4, h5⟩ := Option.bind_eq_some_iff.mp h3
      have f6 : Fr v1 v2 S0 q37 := (Fr.rf (S := S0)).tr (Fr.mo (fr_f_X11_wanders e4) (fun a k q => by refine s1 _ _ ?_; unfold w1_f_X11_wanders at q; unfold w1_lp_X11_meetings_105; exact q) (fun a k q => by refine s2 _ _ ?_; unfold w2_f_X11_wanders at q; unfold w2_lp_X11_meetings_105; exact q))
      exact f6.tr (ih _ _ h5)
def w1_lp_X11_meetings_95 (a k : Nat) : Prop := a = 157
def w2_lp_X11_meetings_95 (a k : Nat) : Prop := (a = 145 ∧ k = 37) ∨ a = 158
theorem fr_lp_X11_meetings_95 {p1 : Int32} {p2 : Int32} {p3 : Int32} {p4 : Int32} {p5 : Int32} {p6 : Int32} {p7 : Int32} {p8 : Int32} {K : Int32 → fS → Option (Int32 × fS)} {r : Int32 × fS} {v1 v2 : Nat → Nat → Prop} (s1 : ∀ a k, w1_lp_X11_meetings_95 a k → v1 a k) (s2 : ∀ a k, w2_lp_X11_meetings_95 a k → v2 a k) (hK : ∀ (x0 : Int32) (x1 : fS), K x0 x1 = some r → Fr v1 v2 x1 r.2) : ∀ (n : Nat) (p9 : Int32) (p10 : Int32) (S0 : fS), lp_X11_meetings_95 p1 p2 p3 p4 p5 p6 p7 p8 K n p9 p10 S0 = some r → Fr v1 v2 S0 r.2 := by
  intro n
  induction n with
  | zero => intro p9 p10 S0 h; exact mm_no h
  | succ n ih =>
    intro p9 p10 S0 h
    rw [lp_X11_meetings_95.eq_2] at h
    rcases fr_ite h with h1 | h1
    ·
      exact (Fr.rf (S := S0)).tr (hK _ _ h1)
    ·
      refine (Fr.rf (S := S0)).tr (fr_lp_X11_meetings_105 (v1 := v1) (v2 := v2) (fun a k q => by refine s1 _ _ ?_; unfold w1_lp_X11_meetings_105 at q; unfold w1_lp_X11_meetings_95; exact q) (fun a k q => by refine s2 _ _ ?_; unfold w2_lp_X11_meetings_105 at q; unfold w2_lp_X11_meetings_95; exact Or.inl (q)) (fun S40 h2 => ?_) _ _ _ h1)
      obtain ⟨q42, e3, h4⟩ := Option.bind_eq_some_iff.mp h2
      have f5 : Fr v1 v2 S40 q42 := (Fr.rf (S := S40)).tr (Fr.mo (fr_f_X11_ageAll e3) (fun a k q => by refine s1 _ _ ?_; unfold w1_f_X11_ageAll at q; unfold w1_lp_X11_meetings_95; exact q) (fun a k q => by refine s2 _ _ ?_; unfold w2_f_X11_ageAll at q; unfold w2_lp_X11_meetings_95; exact Or.inr ((q))))
      obtain ⟨q45, e6, h7⟩ := Option.bind_eq_some_iff.mp h4
      rcases fr_ite h7 with h8 | h8
      ·
        exact f5.tr (ih _ _ _ h8)
      ·
        obtain ⟨q49, e9, h10⟩ := Option.bind_eq_some_iff.mp h8
        obtain ⟨q52, e11, h12⟩ := Option.bind_eq_some_iff.mp h10
        rcases fr_ite h12 with h13 | h13
        ·
          exact f5.tr (ih _ _ _ h13)
        ·
          exact f5.tr (ih _ _ _ h13)
def w1_lp_X11_meetings_83 (a k : Nat) : Prop := a = 157
def w2_lp_X11_meetings_83 (a k : Nat) : Prop := (a = 145 ∧ k = 37) ∨ a = 158
theorem fr_lp_X11_meetings_83 {p1 : Int32} {p2 : Int32} {p3 : Int32} {p4 : Int32} {p5 : Int32} {K : Int32 → Int32 → fS → Option (Int32 × fS)} {r : Int32 × fS} {v1 v2 : Nat → Nat → Prop} (s1 : ∀ a k, w1_lp_X11_meetings_83 a k → v1 a k) (s2 : ∀ a k, w2_lp_X11_meetings_83 a k → v2 a k) (hK : ∀ (x0 : Int32) (x1 : Int32) (x2 : fS), K x0 x1 x2 = some r → Fr v1 v2 x2 r.2) : ∀ (n : Nat) (p6 : Int32) (p7 : Int32) (p8 : Int32) (S0 : fS), lp_X11_meetings_83 p1 p2 p3 p4 p5 K n p6 p7 p8 S0 = some r → Fr v1 v2 S0 r.2 := by
  intro n
  induction n with
  | zero => intro p6 p7 p8 S0 h; exact mm_no h
  | succ n ih =>
    intro p6 p7 p8 S0 h
    rw [lp_X11_meetings_83.eq_2] at h
    rcases fr_ite h with h1 | h1
    ·
      exact (Fr.rf (S := S0)).tr (hK _ _ _ h1)
    ·
      refine (Fr.rf (S := S0)).tr (fr_lp_X11_meetings_95 (v1 := v1) (v2 := v2) (fun a k q => by refine s1 _ _ ?_; unfold w1_lp_X11_meetings_95 at q; unfold w1_lp_X11_meetings_83; exact q) (fun a k q => by refine s2 _ _ ?_; unfold w2_lp_X11_meetings_95 at q; unfold w2_lp_X11_meetings_83; rcases q with q | q; exact Or.inl (q); exact Or.inr ((q))) (fun u56 S57 h2 => ?_) _ _ _ _ h1)
      rcases fr_ite h2 with h3 | h3
      ·
        obtain ⟨q60, e4, h5⟩ := Option.bind_eq_some_iff.mp h3
        have f6 : Fr v1 v2 S57 q60 := (Fr.rf (S := S57)).tr (Fr.mo (fr_f_X11_putsBack e4) (fun a k q => by refine s1 _ _ ?_; unfold w1_f_X11_putsBack at q; unfold w1_lp_X11_meetings_83; exact q) (fun a k q => by refine s2 _ _ ?_; unfold w2_f_X11_putsBack at q; unfold w2_lp_X11_meetings_83; exact Or.inr ((q))))
        exact f6.tr (ih _ _ _ _ h5)
      ·
        obtain ⟨q63, e7, h8⟩ := Option.bind_eq_some_iff.mp h3
        have f9 : Fr v1 v2 S57 q63 := (Fr.rf (S := S57)).tr (Fr.mo (fr_f_X11_putsBack e7) (fun a k q => by refine s1 _ _ ?_; unfold w1_f_X11_putsBack at q; unfold w1_lp_X11_meetings_83; exact q) (fun a k q => by refine s2 _ _ ?_; unfold w2_f_X11_putsBack at q; unfold w2_lp_X11_meetings_83; exact Or.inr ((q))))
        exact f9.tr (ih _ _ _ _ h8)
def w1_f_X11_meetings (a k : Nat) : Prop := a = 157 ∨ a = 159
def w2_f_X11_meetings (a k : Nat) : Prop := (a = 145 ∧ k = 37) ∨ a = 158 ∨ a = 160
theorem fr_f_X11_meetings {v1 : Int32} {v2 : Int32} {v3 : Int32} {v4 : Int32} {v5 : Int32} {S : fS} {r : Int32 × fS} (h : f_X11_meetings v1 v2 v3 v4 v5 S = some r) : Fr (w1_f_X11_meetings) (w2_f_X11_meetings) S r.2 := by
  unfold f_X11_meetings at h
  obtain ⟨q1, e1, h2⟩ := Option.bind_eq_some_iff.mp h
  rcases fr_ite h2 with h3 | h3
  ·
    exact fr_e2 h3 (Fr.rf (S := S))
  ·
    obtain ⟨q5, e4, h5⟩ := Option.bind_eq_some_iff.mp h3
    rcases fr_ite h5 with h6 | h6
    ·
      exact fr_e2 h6 (Fr.rf (S := S))
    ·
      rcases fr_ite h6 with h7 | h7
      ·
        exact fr_e2 h7 (Fr.rf (S := S))
      ·
        obtain ⟨q10, e8, h9⟩ := Option.bind_eq_some_iff.mp h7
        rcases fr_ite h9 with h10 | h10
        ·
          exact fr_e2 h10 (Fr.rf (S := S))
        ·
          obtain ⟨q14, e11, h12⟩ := Option.bind_eq_some_iff.mp h10
          rcases fr_ite h12 with h13 | h13
          ·
            exact fr_e2 h13 (Fr.rf (S := S))
          ·
            obtain ⟨q18, e14, h15⟩ := Option.bind_eq_some_iff.mp h13
            rcases fr_ite h15 with h16 | h16
            ·
              exact fr_e2 h16 (Fr.rf (S := S))
            ·
              obtain ⟨q22, e17, h18⟩ := Option.bind_eq_some_iff.mp h16
              have f19 : Fr (w1_f_X11_meetings) (w2_f_X11_meetings) S q22 := (Fr.rf (S := S)).tr (Fr.mo (fr_f_X11_keeps e17) (fun a k q => by unfold w1_f_X11_keeps at q; unfold w1_f_X11_meetings; exact Or.inr ((q))) (fun a k q => by unfold w2_f_X11_keeps at q; unfold w2_f_X11_meetings; exact Or.inr (Or.inr ((q)))))
              obtain ⟨a25, e20, h21⟩ := Option.bind_eq_some_iff.mp h18
              obtain ⟨S28, e22, h23⟩ := Option.bind_eq_some_iff.mp h21
              have f24 : Fr (w1_f_X11_meetings) (w2_f_X11_meetings) S S28 := f19.tr (fr_pL e22 (by unfold w2_f_X11_meetings; exact Or.inl (⟨rfl, rfl⟩)))
              refine f24.tr (fr_lp_X11_meetings_83 (v1 := w1_f_X11_meetings) (v2 := w2_f_X11_meetings) (fun a k q => by unfold w1_lp_X11_meetings_83 at q; unfold w1_f_X11_meetings; exact Or.inl (q)) (fun a k q => by unfold w2_lp_X11_meetings_83 at q; unfold w2_f_X11_meetings; rcases q with q | q; exact Or.inl (q); exact Or.inr (Or.inl (q))) (fun u66 u67 S68 h25 => ?_) _ _ _ _ _ h23)
              rcases fr_ite h25 with h26 | h26
              ·
                exact fr_e2 h26 (Fr.rf (S := S68))
              ·
                exact fr_e2 h26 (Fr.rf (S := S68))
def w1_lp_X11_image_23 (a k : Nat) : Prop := a = 168
def w2_lp_X11_image_23 (a k : Nat) : Prop := False
theorem fr_lp_X11_image_23 {p1 : Int32} {K : fS → Option (Int32 × fS)} {r : Int32 × fS} {v1 v2 : Nat → Nat → Prop} (s1 : ∀ a k, w1_lp_X11_image_23 a k → v1 a k) (s2 : ∀ a k, w2_lp_X11_image_23 a k → v2 a k) (hK : ∀ (x0 : fS), K x0 = some r → Fr v1 v2 x0 r.2) : ∀ (n : Nat) (p2 : Int32) (S0 : fS), lp_X11_image_23 p1 K n p2 S0 = some r → Fr v1 v2 S0 r.2 := by
  intro n
  induction n with
  | zero => intro p2 S0 h; exact mm_no h
  | succ n ih =>
    intro p2 S0 h
    rw [lp_X11_image_23.eq_2] at h
    rcases fr_ite h with h1 | h1
    ·
      exact (Fr.rf (S := S0)).tr (hK _ h1)
    ·
      obtain ⟨a9, e2, h3⟩ := Option.bind_eq_some_iff.mp h1
      obtain ⟨S12, e4, h5⟩ := Option.bind_eq_some_iff.mp h3
      have f6 : Fr v1 v2 S0 S12 := (Fr.rf (S := S0)).tr (fr_sI e4 (fun k => by refine s1 _ _ ?_; unfold w1_lp_X11_image_23; exact rfl))
      exact f6.tr (ih _ _ h5)
def w1_lp_X11_image_56 (a k : Nat) : Prop := False
def w2_lp_X11_image_56 (a k : Nat) : Prop := a = 169
theorem fr_lp_X11_image_56 {p1 : Int32} {K : fS → Option (Int32 × fS)} {r : Int32 × fS} {v1 v2 : Nat → Nat → Prop} (s1 : ∀ a k, w1_lp_X11_image_56 a k → v1 a k) (s2 : ∀ a k, w2_lp_X11_image_56 a k → v2 a k) (hK : ∀ (x0 : fS), K x0 = some r → Fr v1 v2 x0 r.2) : ∀ (n : Nat) (p2 : Int32) (S0 : fS), lp_X11_image_56 p1 K n p2 S0 = some r → Fr v1 v2 S0 r.2 := by
  intro n
  induction n with
  | zero => intro p2 S0 h; exact mm_no h
  | succ n ih =>
    intro p2 S0 h
    rw [lp_X11_image_56.eq_2] at h
    rcases fr_ite h with h1 | h1
    ·
      exact (Fr.rf (S := S0)).tr (hK _ h1)
    ·
      obtain ⟨a18, e2, h3⟩ := Option.bind_eq_some_iff.mp h1
      obtain ⟨S21, e4, h5⟩ := Option.bind_eq_some_iff.mp h3
      have f6 : Fr v1 v2 S0 S21 := (Fr.rf (S := S0)).tr (fr_sL e4 (fun k => by refine s2 _ _ ?_; unfold w2_lp_X11_image_56; exact rfl))
      exact f6.tr (ih _ _ h5)
def w1_f_X11_image (a k : Nat) : Prop := a = 168 ∨ a = 170
def w2_f_X11_image (a k : Nat) : Prop := a = 169
theorem fr_f_X11_image {v1 : Int32} {S : fS} {r : Int32 × fS} (h : f_X11_image v1 S = some r) : Fr (w1_f_X11_image) (w2_f_X11_image) S r.2 := by
  unfold f_X11_image at h
  obtain ⟨q1, e1, h2⟩ := Option.bind_eq_some_iff.mp h
  rcases fr_ite h2 with h3 | h3
  ·
    exact fr_e2 h3 (Fr.rf (S := S))
  ·
    obtain ⟨S5, e4, h5⟩ := Option.bind_eq_some_iff.mp h3
    have f6 : Fr (w1_f_X11_image) (w2_f_X11_image) S S5 := (Fr.rf (S := S)).tr (fr_sI e4 (fun k => by unfold w1_f_X11_image; exact Or.inr ((rfl))))
    refine f6.tr (fr_lp_X11_image_23 (v1 := w1_f_X11_image) (v2 := w2_f_X11_image) (fun a k q => by unfold w1_lp_X11_image_23 at q; unfold w1_f_X11_image; exact Or.inl (q)) (fun _ _ q => False.elim q) (fun S15 h7 => ?_) _ _ _ h5)
    refine (Fr.rf (S := S15)).tr (fr_lp_X11_image_56 (v1 := w1_f_X11_image) (v2 := w2_f_X11_image) (fun _ _ q => False.elim q) (fun a k q => by unfold w2_lp_X11_image_56 at q; unfold w2_f_X11_image; exact q) (fun S24 h8 => ?_) _ _ _ h7)
    obtain ⟨a26, e9, h10⟩ := Option.bind_eq_some_iff.mp h8
    exact fr_e2 h10 (Fr.rf (S := S24))
def w1_lp_X11_back_25 (a k : Nat) : Prop := a = 157
def w2_lp_X11_back_25 (a k : Nat) : Prop := False
theorem fr_lp_X11_back_25 {p1 : Int32} {K : fS → Option (Int32 × fS)} {r : Int32 × fS} {v1 v2 : Nat → Nat → Prop} (s1 : ∀ a k, w1_lp_X11_back_25 a k → v1 a k) (s2 : ∀ a k, w2_lp_X11_back_25 a k → v2 a k) (hK : ∀ (x0 : fS), K x0 = some r → Fr v1 v2 x0 r.2) : ∀ (n : Nat) (p2 : Int32) (S0 : fS), lp_X11_back_25 p1 K n p2 S0 = some r → Fr v1 v2 S0 r.2 := by
  intro n
  induction n with
  | zero => intro p2 S0 h; exact mm_no h
  | succ n ih =>
    intro p2 S0 h
    rw [lp_X11_back_25.eq_2] at h
    rcases fr_ite h with h1 | h1
    ·
      exact (Fr.rf (S := S0)).tr (hK _ h1)
    ·
      obtain ⟨a10, e2, h3⟩ := Option.bind_eq_some_iff.mp h1
      obtain ⟨S13, e4, h5⟩ := Option.bind_eq_some_iff.mp h3
      have f6 : Fr v1 v2 S0 S13 := (Fr.rf (S := S0)).tr (fr_sI e4 (fun k => by refine s1 _ _ ?_; unfold w1_lp_X11_back_25; exact rfl))
      exact f6.tr (ih _ _ h5)
def w1_lp_X11_back_58 (a k : Nat) : Prop := False
def w2_lp_X11_back_58 (a k : Nat) : Prop := a = 158
theorem fr_lp_X11_back_58 {p1 : Int32} {K : fS → Option (Int32 × fS)} {r : Int32 × fS} {v1 v2 : Nat → Nat → Prop} (s1 : ∀ a k, w1_lp_X11_back_58 a k → v1 a k) (s2 : ∀ a k, w2_lp_X11_back_58 a k → v2 a k) (hK : ∀ (x0 : fS), K x0 = some r → Fr v1 v2 x0 r.2) : ∀ (n : Nat) (p2 : Int32) (S0 : fS), lp_X11_back_58 p1 K n p2 S0 = some r → Fr v1 v2 S0 r.2 := by
  intro n
  induction n with
  | zero => intro p2 S0 h; exact mm_no h
  | succ n ih =>
    intro p2 S0 h
    rw [lp_X11_back_58.eq_2] at h
    rcases fr_ite h with h1 | h1
    ·
      exact (Fr.rf (S := S0)).tr (hK _ h1)
    ·
      obtain ⟨a19, e2, h3⟩ := Option.bind_eq_some_iff.mp h1
      obtain ⟨S22, e4, h5⟩ := Option.bind_eq_some_iff.mp h3
      have f6 : Fr v1 v2 S0 S22 := (Fr.rf (S := S0)).tr (fr_sL e4 (fun k => by refine s2 _ _ ?_; unfold w2_lp_X11_back_58; exact rfl))
      exact f6.tr (ih _ _ h5)
def w1_f_X11_back (a k : Nat) : Prop := a = 157
def w2_f_X11_back (a k : Nat) : Prop := a = 158 ∨ a = 161
theorem fr_f_X11_back {v1 : Int32} {S : fS} {r : Int32 × fS} (h : f_X11_back v1 S = some r) : Fr (w1_f_X11_back) (w2_f_X11_back) S r.2 := by
  unfold f_X11_back at h
  obtain ⟨q1, e1, h2⟩ := Option.bind_eq_some_iff.mp h
  rcases fr_ite h2 with h3 | h3
  ·
    exact fr_e2 h3 (Fr.rf (S := S))
  ·
    obtain ⟨a5, e4, h5⟩ := Option.bind_eq_some_iff.mp h3
    rcases fr_ite h5 with h6 | h6
    ·
      exact fr_e2 h6 (Fr.rf (S := S))
    ·
      refine (Fr.rf (S := S)).tr (fr_lp_X11_back_25 (v1 := w1_f_X11_back) (v2 := w2_f_X11_back) (fun a k q => by unfold w1_lp_X11_back_25 at q; unfold w1_f_X11_back; exact q) (fun _ _ q => False.elim q) (fun S16 h7 => ?_) _ _ _ h6)
      refine (Fr.rf (S := S16)).tr (fr_lp_X11_back_58 (v1 := w1_f_X11_back) (v2 := w2_f_X11_back) (fun _ _ q => False.elim q) (fun a k q => by unfold w2_lp_X11_back_58 at q; unfold w2_f_X11_back; exact Or.inl (q)) (fun S25 h8 => ?_) _ _ _ h7)
      obtain ⟨q27, e9, h10⟩ := Option.bind_eq_some_iff.mp h8
      have f11 : Fr (w1_f_X11_back) (w2_f_X11_back) S25 q27 := (Fr.rf (S := S25)).tr (Fr.mo (fr_f_X11_spreads e9) (fun _ _ q => False.elim q) (fun a k q => by unfold w2_f_X11_spreads at q; unfold w2_f_X11_back; exact Or.inr ((q))))
      obtain ⟨a30, e12, h13⟩ := Option.bind_eq_some_iff.mp h10
      exact fr_e2 h13 f11
