def w1_lp_X11_term_9 (a k : Nat) : Prop := (a = 145 ∧ k = 13) ∨ (a = 145 ∧ k = 14) ∨ (a = 145 ∧ k = 15) ∨ (a = 145 ∧ k = 17) ∨ a = 147 ∨ a = 148
def w2_lp_X11_term_9 (a k : Nat) : Prop := False
theorem fr_lp_X11_term_9 {K : fS → Option (Int32 × fS)} {r : Int32 × fS} {v1 v2 : Nat → Nat → Prop} (s1 : ∀ a k, w1_lp_X11_term_9 a k → v1 a k) (s2 : ∀ a k, w2_lp_X11_term_9 a k → v2 a k) (hK : ∀ (x0 : fS), K x0 = some r → Fr v1 v2 x0 r.2) : ∀ (n : Nat) (S0 : fS), lp_X11_term_9 K n S0 = some r → Fr v1 v2 S0 r.2 := by
  intro n
  induction n with
  | zero => intro S0 h; exact mm_no h
  | succ n ih =>
    intro S0 h
    rw [lp_X11_term_9.eq_2] at h
    obtain ⟨q5, e1, h2⟩ := Option.bind_eq_some_iff.mp h
    have f3 : Fr v1 v2 S0 q5.2 := (Fr.rf (S := S0)).tr (Fr.mo (fr_f_X11_see e1) (fun a k q => by refine s1 _ _ ?_; unfold w1_f_X11_see at q; unfold w1_lp_X11_term_9; exact Or.inl (q)) (fun _ _ q => False.elim q))
    rcases fr_ite h2 with h4 | h4
    ·
      obtain ⟨a9, e5, h6⟩ := Option.bind_eq_some_iff.mp h4
      rcases fr_ite h6 with h7 | h7
      ·
        obtain ⟨S23, e8, h9⟩ := Option.bind_eq_some_iff.mp h7
        have f10 : Fr v1 v2 S0 S23 := f3.tr (fr_pI e8 (by refine s1 _ _ ?_; unfold w1_lp_X11_term_9; exact Or.inl (⟨rfl, rfl⟩)))
        obtain ⟨q26, e11, h12⟩ := Option.bind_eq_some_iff.mp h9
        have f13 : Fr v1 v2 S0 q26.2 := f10.tr (Fr.mo (fr_f_X11_value e11) (fun a k q => by refine s1 _ _ ?_; unfold w1_f_X11_value at q; unfold w1_lp_X11_term_9; rcases q with q | q | q | q | q | q; exact Or.inl (q); exact Or.inr (Or.inl (q)); exact Or.inr (Or.inr (Or.inl (q))); exact Or.inr (Or.inr (Or.inr (Or.inl (q)))); exact Or.inr (Or.inr (Or.inr (Or.inr (Or.inl (q))))); exact Or.inr (Or.inr (Or.inr (Or.inr (Or.inr ((q))))))) (fun _ _ q => False.elim q))
        rcases fr_ite h12 with h14 | h14
        ·
          exact fr_e2 h14 f13
        ·
          obtain ⟨q30, e15, h16⟩ := Option.bind_eq_some_iff.mp h14
          have f17 : Fr v1 v2 S0 q30 := f13.tr (Fr.mo (fr_f_X11_puts e15) (fun a k q => by refine s1 _ _ ?_; unfold w1_f_X11_puts at q; unfold w1_lp_X11_term_9; rcases q with q | q; exact Or.inr (Or.inr (Or.inr (Or.inr (Or.inl (q))))); exact Or.inr (Or.inr (Or.inr (Or.inr (Or.inr ((q))))))) (fun _ _ q => False.elim q))
          exact f17.tr (ih _ h16)
      ·
        obtain ⟨S13, e18, h19⟩ := Option.bind_eq_some_iff.mp h7
        have f20 : Fr v1 v2 S0 S13 := f3.tr (fr_pI e18 (by refine s1 _ _ ?_; unfold w1_lp_X11_term_9; exact Or.inl (⟨rfl, rfl⟩)))
        obtain ⟨q16, e21, h22⟩ := Option.bind_eq_some_iff.mp h19
        have f23 : Fr v1 v2 S0 q16.2 := f20.tr (Fr.mo (fr_f_X11_value e21) (fun a k q => by refine s1 _ _ ?_; unfold w1_f_X11_value at q; unfold w1_lp_X11_term_9; rcases q with q | q | q | q | q | q; exact Or.inl (q); exact Or.inr (Or.inl (q)); exact Or.inr (Or.inr (Or.inl (q))); exact Or.inr (Or.inr (Or.inr (Or.inl (q)))); exact Or.inr (Or.inr (Or.inr (Or.inr (Or.inl (q))))); exact Or.inr (Or.inr (Or.inr (Or.inr (Or.inr ((q))))))) (fun _ _ q => False.elim q))
        rcases fr_ite h22 with h24 | h24
        ·
          exact fr_e2 h24 f23
        ·
          obtain ⟨q20, e25, h26⟩ := Option.bind_eq_some_iff.mp h24
          have f27 : Fr v1 v2 S0 q20 := f23.tr (Fr.mo (fr_f_X11_puts e25) (fun a k q => by refine s1 _ _ ?_; unfold w1_f_X11_puts at q; unfold w1_lp_X11_term_9; rcases q with q | q; exact Or.inr (Or.inr (Or.inr (Or.inr (Or.inl (q))))); exact Or.inr (Or.inr (Or.inr (Or.inr (Or.inr ((q))))))) (fun _ _ q => False.elim q))
          exact f27.tr (ih _ h26)
    ·
      obtain ⟨q33, e28, h29⟩ := Option.bind_eq_some_iff.mp h4
      have f30 : Fr v1 v2 S0 q33.2 := f3.tr (Fr.mo (fr_f_X11_see e28) (fun a k q => by refine s1 _ _ ?_; unfold w1_f_X11_see at q; unfold w1_lp_X11_term_9; exact Or.inl (q)) (fun _ _ q => False.elim q))
      rcases fr_ite h29 with h31 | h31
      ·
        obtain ⟨a37, e32, h33⟩ := Option.bind_eq_some_iff.mp h31
        rcases fr_ite h33 with h34 | h34
        ·
          obtain ⟨S51, e35, h36⟩ := Option.bind_eq_some_iff.mp h34
          have f37 : Fr v1 v2 S0 S51 := f30.tr (fr_pI e35 (by refine s1 _ _ ?_; unfold w1_lp_X11_term_9; exact Or.inl (⟨rfl, rfl⟩)))
          obtain ⟨q54, e38, h39⟩ := Option.bind_eq_some_iff.mp h36
          have f40 : Fr v1 v2 S0 q54.2 := f37.tr (Fr.mo (fr_f_X11_value e38) (fun a k q => by refine s1 _ _ ?_; unfold w1_f_X11_value at q; unfold w1_lp_X11_term_9; rcases q with q | q | q | q | q | q; exact Or.inl (q); exact Or.inr (Or.inl (q)); exact Or.inr (Or.inr (Or.inl (q))); exact Or.inr (Or.inr (Or.inr (Or.inl (q)))); exact Or.inr (Or.inr (Or.inr (Or.inr (Or.inl (q))))); exact Or.inr (Or.inr (Or.inr (Or.inr (Or.inr ((q))))))) (fun _ _ q => False.elim q))
          rcases fr_ite h39 with h41 | h41
          ·
            exact fr_e2 h41 f40
          ·
            obtain ⟨q58, e42, h43⟩ := Option.bind_eq_some_iff.mp h41
            have f44 : Fr v1 v2 S0 q58 := f40.tr (Fr.mo (fr_f_X11_puts e42) (fun a k q => by refine s1 _ _ ?_; unfold w1_f_X11_puts at q; unfold w1_lp_X11_term_9; rcases q with q | q; exact Or.inr (Or.inr (Or.inr (Or.inr (Or.inl (q))))); exact Or.inr (Or.inr (Or.inr (Or.inr (Or.inr ((q))))))) (fun _ _ q => False.elim q))
            exact f44.tr (ih _ h43)
        ·
          obtain ⟨S41, e45, h46⟩ := Option.bind_eq_some_iff.mp h34
          have f47 : Fr v1 v2 S0 S41 := f30.tr (fr_pI e45 (by refine s1 _ _ ?_; unfold w1_lp_X11_term_9; exact Or.inl (⟨rfl, rfl⟩)))
          obtain ⟨q44, e48, h49⟩ := Option.bind_eq_some_iff.mp h46
          have f50 : Fr v1 v2 S0 q44.2 := f47.tr (Fr.mo (fr_f_X11_value e48) (fun a k q => by refine s1 _ _ ?_; unfold w1_f_X11_value at q; unfold w1_lp_X11_term_9; rcases q with q | q | q | q | q | q; exact Or.inl (q); exact Or.inr (Or.inl (q)); exact Or.inr (Or.inr (Or.inl (q))); exact Or.inr (Or.inr (Or.inr (Or.inl (q)))); exact Or.inr (Or.inr (Or.inr (Or.inr (Or.inl (q))))); exact Or.inr (Or.inr (Or.inr (Or.inr (Or.inr ((q))))))) (fun _ _ q => False.elim q))
          rcases fr_ite h49 with h51 | h51
          ·
            exact fr_e2 h51 f50
          ·
            obtain ⟨q48, e52, h53⟩ := Option.bind_eq_some_iff.mp h51
            have f54 : Fr v1 v2 S0 q48 := f50.tr (Fr.mo (fr_f_X11_puts e52) (fun a k q => by refine s1 _ _ ?_; unfold w1_f_X11_puts at q; unfold w1_lp_X11_term_9; rcases q with q | q; exact Or.inr (Or.inr (Or.inr (Or.inr (Or.inl (q))))); exact Or.inr (Or.inr (Or.inr (Or.inr (Or.inr ((q))))))) (fun _ _ q => False.elim q))
            exact f54.tr (ih _ h53)
      ·
        exact f30.tr (hK _ h31)
def w1_f_X11_term (a k : Nat) : Prop := (a = 145 ∧ k = 13) ∨ (a = 145 ∧ k = 14) ∨ (a = 145 ∧ k = 15) ∨ (a = 145 ∧ k = 17) ∨ a = 147 ∨ a = 148
def w2_f_X11_term (a k : Nat) : Prop := False
theorem fr_f_X11_term {S : fS} {r : Int32 × fS} (h : f_X11_term S = some r) : Fr (w1_f_X11_term) (w2_f_X11_term) S r.2 := by
  unfold f_X11_term at h
  obtain ⟨q1, e1, h2⟩ := Option.bind_eq_some_iff.mp h
  have f3 : Fr (w1_f_X11_term) (w2_f_X11_term) S q1.2 := (Fr.rf (S := S)).tr (Fr.mo (fr_f_X11_value e1) (fun a k q => by unfold w1_f_X11_value at q; unfold w1_f_X11_term; rcases q with q | q | q | q | q | q; exact Or.inl (q); exact Or.inr (Or.inl (q)); exact Or.inr (Or.inr (Or.inl (q))); exact Or.inr (Or.inr (Or.inr (Or.inl (q)))); exact Or.inr (Or.inr (Or.inr (Or.inr (Or.inl (q))))); exact Or.inr (Or.inr (Or.inr (Or.inr (Or.inr ((q))))))) (fun _ _ q => False.elim q))
  rcases fr_ite h2 with h4 | h4
  ·
    exact fr_e2 h4 f3
  ·
    refine f3.tr (fr_lp_X11_term_9 (v1 := w1_f_X11_term) (v2 := w2_f_X11_term) (fun a k q => by unfold w1_lp_X11_term_9 at q; unfold w1_f_X11_term; rcases q with q | q | q | q | q | q; exact Or.inl (q); exact Or.inr (Or.inl (q)); exact Or.inr (Or.inr (Or.inl (q))); exact Or.inr (Or.inr (Or.inr (Or.inl (q)))); exact Or.inr (Or.inr (Or.inr (Or.inr (Or.inl (q))))); exact Or.inr (Or.inr (Or.inr (Or.inr (Or.inr ((q))))))) (fun _ _ q => False.elim q) (fun S61 h5 => ?_) _ _ h4)
    exact fr_e2 h5 (Fr.rf (S := S61))
def w1_lp_X11_sum_9 (a k : Nat) : Prop := (a = 145 ∧ k = 13) ∨ (a = 145 ∧ k = 14) ∨ (a = 145 ∧ k = 15) ∨ (a = 145 ∧ k = 17) ∨ a = 147 ∨ a = 148
def w2_lp_X11_sum_9 (a k : Nat) : Prop := False
theorem fr_lp_X11_sum_9 {K : fS → Option (Int32 × fS)} {r : Int32 × fS} {v1 v2 : Nat → Nat → Prop} (s1 : ∀ a k, w1_lp_X11_sum_9 a k → v1 a k) (s2 : ∀ a k, w2_lp_X11_sum_9 a k → v2 a k) (hK : ∀ (x0 : fS), K x0 = some r → Fr v1 v2 x0 r.2) : ∀ (n : Nat) (S0 : fS), lp_X11_sum_9 K n S0 = some r → Fr v1 v2 S0 r.2 := by
  intro n
  induction n with
  | zero => intro S0 h; exact mm_no h
  | succ n ih =>
    intro S0 h
    rw [lp_X11_sum_9.eq_2] at h
    obtain ⟨q5, e1, h2⟩ := Option.bind_eq_some_iff.mp h
    have f3 : Fr v1 v2 S0 q5.2 := (Fr.rf (S := S0)).tr (Fr.mo (fr_f_X11_see e1) (fun a k q => by refine s1 _ _ ?_; unfold w1_f_X11_see at q; unfold w1_lp_X11_sum_9; exact Or.inl (q)) (fun _ _ q => False.elim q))
    rcases fr_ite h2 with h4 | h4
    ·
      obtain ⟨a9, e5, h6⟩ := Option.bind_eq_some_iff.mp h4
      rcases fr_ite h6 with h7 | h7
      ·
        obtain ⟨S23, e8, h9⟩ := Option.bind_eq_some_iff.mp h7
        have f10 : Fr v1 v2 S0 S23 := f3.tr (fr_pI e8 (by refine s1 _ _ ?_; unfold w1_lp_X11_sum_9; exact Or.inl (⟨rfl, rfl⟩)))
        obtain ⟨q26, e11, h12⟩ := Option.bind_eq_some_iff.mp h9
        have f13 : Fr v1 v2 S0 q26.2 := f10.tr (Fr.mo (fr_f_X11_term e11) (fun a k q => by refine s1 _ _ ?_; unfold w1_f_X11_term at q; unfold w1_lp_X11_sum_9; rcases q with q | q | q | q | q | q; exact Or.inl (q); exact Or.inr (Or.inl (q)); exact Or.inr (Or.inr (Or.inl (q))); exact Or.inr (Or.inr (Or.inr (Or.inl (q)))); exact Or.inr (Or.inr (Or.inr (Or.inr (Or.inl (q))))); exact Or.inr (Or.inr (Or.inr (Or.inr (Or.inr ((q))))))) (fun _ _ q => False.elim q))
        rcases fr_ite h12 with h14 | h14
        ·
          exact fr_e2 h14 f13
        ·
          obtain ⟨q30, e15, h16⟩ := Option.bind_eq_some_iff.mp h14
          have f17 : Fr v1 v2 S0 q30 := f13.tr (Fr.mo (fr_f_X11_puts e15) (fun a k q => by refine s1 _ _ ?_; unfold w1_f_X11_puts at q; unfold w1_lp_X11_sum_9; rcases q with q | q; exact Or.inr (Or.inr (Or.inr (Or.inr (Or.inl (q))))); exact Or.inr (Or.inr (Or.inr (Or.inr (Or.inr ((q))))))) (fun _ _ q => False.elim q))
          exact f17.tr (ih _ h16)
      ·
        obtain ⟨S13, e18, h19⟩ := Option.bind_eq_some_iff.mp h7
        have f20 : Fr v1 v2 S0 S13 := f3.tr (fr_pI e18 (by refine s1 _ _ ?_; unfold w1_lp_X11_sum_9; exact Or.inl (⟨rfl, rfl⟩)))
        obtain ⟨q16, e21, h22⟩ := Option.bind_eq_some_iff.mp h19
        have f23 : Fr v1 v2 S0 q16.2 := f20.tr (Fr.mo (fr_f_X11_term e21) (fun a k q => by refine s1 _ _ ?_; unfold w1_f_X11_term at q; unfold w1_lp_X11_sum_9; rcases q with q | q | q | q | q | q; exact Or.inl (q); exact Or.inr (Or.inl (q)); exact Or.inr (Or.inr (Or.inl (q))); exact Or.inr (Or.inr (Or.inr (Or.inl (q)))); exact Or.inr (Or.inr (Or.inr (Or.inr (Or.inl (q))))); exact Or.inr (Or.inr (Or.inr (Or.inr (Or.inr ((q))))))) (fun _ _ q => False.elim q))
        rcases fr_ite h22 with h24 | h24
        ·
          exact fr_e2 h24 f23
        ·
          obtain ⟨q20, e25, h26⟩ := Option.bind_eq_some_iff.mp h24
          have f27 : Fr v1 v2 S0 q20 := f23.tr (Fr.mo (fr_f_X11_puts e25) (fun a k q => by refine s1 _ _ ?_; unfold w1_f_X11_puts at q; unfold w1_lp_X11_sum_9; rcases q with q | q; exact Or.inr (Or.inr (Or.inr (Or.inr (Or.inl (q))))); exact Or.inr (Or.inr (Or.inr (Or.inr (Or.inr ((q))))))) (fun _ _ q => False.elim q))
          exact f27.tr (ih _ h26)
    ·
      obtain ⟨q33, e28, h29⟩ := Option.bind_eq_some_iff.mp h4
      have f30 : Fr v1 v2 S0 q33.2 := f3.tr (Fr.mo (fr_f_X11_see e28) (fun a k q => by refine s1 _ _ ?_; unfold w1_f_X11_see at q; unfold w1_lp_X11_sum_9; exact Or.inl (q)) (fun _ _ q => False.elim q))
      rcases fr_ite h29 with h31 | h31
      ·
        obtain ⟨a37, e32, h33⟩ := Option.bind_eq_some_iff.mp h31
        rcases fr_ite h33 with h34 | h34
        ·
          obtain ⟨S51, e35, h36⟩ := Option.bind_eq_some_iff.mp h34
          have f37 : Fr v1 v2 S0 S51 := f30.tr (fr_pI e35 (by refine s1 _ _ ?_; unfold w1_lp_X11_sum_9; exact Or.inl (⟨rfl, rfl⟩)))
          obtain ⟨q54, e38, h39⟩ := Option.bind_eq_some_iff.mp h36
          have f40 : Fr v1 v2 S0 q54.2 := f37.tr (Fr.mo (fr_f_X11_term e38) (fun a k q => by refine s1 _ _ ?_; unfold w1_f_X11_term at q; unfold w1_lp_X11_sum_9; rcases q with q | q | q | q | q | q; exact Or.inl (q); exact Or.inr (Or.inl (q)); exact Or.inr (Or.inr (Or.inl (q))); exact Or.inr (Or.inr (Or.inr (Or.inl (q)))); exact Or.inr (Or.inr (Or.inr (Or.inr (Or.inl (q))))); exact Or.inr (Or.inr (Or.inr (Or.inr (Or.inr ((q))))))) (fun _ _ q => False.elim q))
          rcases fr_ite h39 with h41 | h41
          ·
            exact fr_e2 h41 f40
          ·
            obtain ⟨q58, e42, h43⟩ := Option.bind_eq_some_iff.mp h41
            have f44 : Fr v1 v2 S0 q58 := f40.tr (Fr.mo (fr_f_X11_puts e42) (fun a k q => by refine s1 _ _ ?_; unfold w1_f_X11_puts at q; unfold w1_lp_X11_sum_9; rcases q with q | q; exact Or.inr (Or.inr (Or.inr (Or.inr (Or.inl (q))))); exact Or.inr (Or.inr (Or.inr (Or.inr (Or.inr ((q))))))) (fun _ _ q => False.elim q))
            exact f44.tr (ih _ h43)
        ·
          obtain ⟨S41, e45, h46⟩ := Option.bind_eq_some_iff.mp h34
          have f47 : Fr v1 v2 S0 S41 := f30.tr (fr_pI e45 (by refine s1 _ _ ?_; unfold w1_lp_X11_sum_9; exact Or.inl (⟨rfl, rfl⟩)))
          obtain ⟨q44, e48, h49⟩ := Option.bind_eq_some_iff.mp h46
          have f50 : Fr v1 v2 S0 q44.2 := f47.tr (Fr.mo (fr_f_X11_term e48) (fun a k q => by refine s1 _ _ ?_; unfold w1_f_X11_term at q; unfold w1_lp_X11_sum_9; rcases q with q | q | q | q | q | q; exact Or.inl (q); exact Or.inr (Or.inl (q)); exact Or.inr (Or.inr (Or.inl (q))); exact Or.inr (Or.inr (Or.inr (Or.inl (q)))); exact Or.inr (Or.inr (Or.inr (Or.inr (Or.inl (q))))); exact Or.inr (Or.inr (Or.inr (Or.inr (Or.inr ((q))))))) (fun _ _ q => False.elim q))
          rcases fr_ite h49 with h51 | h51
          ·
            exact fr_e2 h51 f50
          ·
            obtain ⟨q48, e52, h53⟩ := Option.bind_eq_some_iff.mp h51
            have f54 : Fr v1 v2 S0 q48 := f50.tr (Fr.mo (fr_f_X11_puts e52) (fun a k q => by refine s1 _ _ ?_; unfold w1_f_X11_puts at q; unfold w1_lp_X11_sum_9; rcases q with q | q; exact Or.inr (Or.inr (Or.inr (Or.inr (Or.inl (q))))); exact Or.inr (Or.inr (Or.inr (Or.inr (Or.inr ((q))))))) (fun _ _ q => False.elim q))
            exact f54.tr (ih _ h53)
      ·
        exact f30.tr (hK _ h31)
def w1_f_X11_sum (a k : Nat) : Prop := (a = 145 ∧ k = 13) ∨ (a = 145 ∧ k = 14) ∨ (a = 145 ∧ k = 15) ∨ (a = 145 ∧ k = 17) ∨ a = 147 ∨ a = 148
def w2_f_X11_sum (a k : Nat) : Prop := False
theorem fr_f_X11_sum {S : fS} {r : Int32 × fS} (h : f_X11_sum S = some r) : Fr (w1_f_X11_sum) (w2_f_X11_sum) S r.2 := by
  unfold f_X11_sum at h
  obtain ⟨q1, e1, h2⟩ := Option.bind_eq_some_iff.mp h
  have f3 : Fr (w1_f_X11_sum) (w2_f_X11_sum) S q1.2 := (Fr.rf (S := S)).tr (Fr.mo (fr_f_X11_term e1) (fun a k q => by unfold w1_f_X11_term at q; unfold w1_f_X11_sum; rcases q with q | q | q | q | q | q; exact Or.inl (q); exact Or.inr (Or.inl (q)); exact Or.inr (Or.inr (Or.inl (q))); exact Or.inr (Or.inr (Or.inr (Or.inl (q)))); exact Or.inr (Or.inr (Or.inr (Or.inr (Or.inl (q))))); exact Or.inr (Or.inr (Or.inr (Or.inr (Or.inr ((q))))))) (fun _ _ q => False.elim q))
  rcases fr_ite h2 with h4 | h4
  ·
    exact fr_e2 h4 f3
  ·
    refine f3.tr (fr_lp_X11_sum_9 (v1 := w1_f_X11_sum) (v2 := w2_f_X11_sum) (fun a k q => by unfold w1_lp_X11_sum_9 at q; unfold w1_f_X11_sum; rcases q with q | q | q | q | q | q; exact Or.inl (q); exact Or.inr (Or.inl (q)); exact Or.inr (Or.inr (Or.inl (q))); exact Or.inr (Or.inr (Or.inr (Or.inl (q)))); exact Or.inr (Or.inr (Or.inr (Or.inr (Or.inl (q))))); exact Or.inr (Or.inr (Or.inr (Or.inr (Or.inr ((q))))))) (fun _ _ q => False.elim q) (fun S61 h5 => ?_) _ _ h4)
    exact fr_e2 h5 (Fr.rf (S := S61))
def w1_j_X11_compare_152 (a k : Nat) : Prop := (a = 145 ∧ k = 13) ∨ (a = 145 ∧ k = 14) ∨ (a = 145 ∧ k = 15) ∨ (a = 145 ∧ k = 17) ∨ a = 147 ∨ a = 148
def w2_j_X11_compare_152 (a k : Nat) : Prop := False
theorem fr_j_X11_compare_152 {s0 : Int32} {S : fS} {r : Int32 × fS} (h : j_X11_compare_152 s0 S = some r) : Fr (w1_j_X11_compare_152) (w2_j_X11_compare_152) S r.2 := by
  unfold j_X11_compare_152 at h
  obtain ⟨q21, e1, h2⟩ := Option.bind_eq_some_iff.mp h
  have f3 : Fr (w1_j_X11_compare_152) (w2_j_X11_compare_152) S q21.2 := (Fr.rf (S := S)).tr (Fr.mo (fr_f_X11_sum e1) (fun a k q => by unfold w1_f_X11_sum at q; unfold w1_j_X11_compare_152; rcases q with q | q | q | q | q | q; exact Or.inl (q); exact Or.inr (Or.inl (q)); exact Or.inr (Or.inr (Or.inl (q))); exact Or.inr (Or.inr (Or.inr (Or.inl (q)))); exact Or.inr (Or.inr (Or.inr (Or.inr (Or.inl (q))))); exact Or.inr (Or.inr (Or.inr (Or.inr (Or.inr ((q))))))) (fun _ _ q => False.elim q))
  rcases fr_ite h2 with h4 | h4
  ·
    exact fr_e2 h4 f3
  ·
    obtain ⟨q25, e5, h6⟩ := Option.bind_eq_some_iff.mp h4
    have f7 : Fr (w1_j_X11_compare_152) (w2_j_X11_compare_152) S q25 := f3.tr (Fr.mo (fr_f_X11_puts e5) (fun a k q => by unfold w1_f_X11_puts at q; unfold w1_j_X11_compare_152; rcases q with q | q; exact Or.inr (Or.inr (Or.inr (Or.inr (Or.inl (q))))); exact Or.inr (Or.inr (Or.inr (Or.inr (Or.inr ((q))))))) (fun _ _ q => False.elim q))
    exact fr_e2 h6 f7
def w1_j_X11_compare_105 (a k : Nat) : Prop := (a = 145 ∧ k = 13) ∨ (a = 145 ∧ k = 14) ∨ (a = 145 ∧ k = 15) ∨ (a = 145 ∧ k = 17) ∨ a = 147 ∨ a = 148
def w2_j_X11_compare_105 (a k : Nat) : Prop := False
theorem fr_j_X11_compare_105 {p1 : Int32} {p2 : Int32} {p3 : Int32} {S : fS} {r : Int32 × fS} (h : j_X11_compare_105 p1 p2 p3 S = some r) : Fr (w1_j_X11_compare_105) (w2_j_X11_compare_105) S r.2 := by
  unfold j_X11_compare_105 at h
  obtain ⟨q14, e1, h2⟩ := Option.bind_eq_some_iff.mp h
  have f3 : Fr (w1_j_X11_compare_105) (w2_j_X11_compare_105) S q14.2 := (Fr.rf (S := S)).tr (Fr.mo (fr_f_X11_makes e1) (fun a k q => by unfold w1_f_X11_makes at q; unfold w1_j_X11_compare_105; rcases q with q | q; exact Or.inr (Or.inl (q)); exact Or.inr (Or.inr (Or.inr (Or.inl (q))))) (fun _ _ q => False.elim q))
  rcases fr_ite h2 with h4 | h4
  ·
    exact fr_e2 h4 f3
  ·
    rcases fr_ite h4 with h5 | h5
    ·
      rcases fr_ite h5 with h6 | h6
      ·
        exact f3.tr (Fr.mo (fr_j_X11_compare_152 h6) (fun a k q => by unfold w1_j_X11_compare_152 at q; unfold w1_j_X11_compare_105; rcases q with q | q | q | q | q | q; exact Or.inl (q); exact Or.inr (Or.inl (q)); exact Or.inr (Or.inr (Or.inl (q))); exact Or.inr (Or.inr (Or.inr (Or.inl (q)))); exact Or.inr (Or.inr (Or.inr (Or.inr (Or.inl (q))))); exact Or.inr (Or.inr (Or.inr (Or.inr (Or.inr ((q))))))) (fun _ _ q => False.elim q))
      ·
        exact f3.tr (Fr.mo (fr_j_X11_compare_152 h6) (fun a k q => by unfold w1_j_X11_compare_152 at q; unfold w1_j_X11_compare_105; rcases q with q | q | q | q | q | q; exact Or.inl (q); exact Or.inr (Or.inl (q)); exact Or.inr (Or.inr (Or.inl (q))); exact Or.inr (Or.inr (Or.inr (Or.inl (q)))); exact Or.inr (Or.inr (Or.inr (Or.inr (Or.inl (q))))); exact Or.inr (Or.inr (Or.inr (Or.inr (Or.inr ((q))))))) (fun _ _ q => False.elim q))
    ·
      rcases fr_ite h5 with h7 | h7
      ·
        exact f3.tr (Fr.mo (fr_j_X11_compare_152 h7) (fun a k q => by unfold w1_j_X11_compare_152 at q; unfold w1_j_X11_compare_105; rcases q with q | q | q | q | q | q; exact Or.inl (q); exact Or.inr (Or.inl (q)); exact Or.inr (Or.inr (Or.inl (q))); exact Or.inr (Or.inr (Or.inr (Or.inl (q)))); exact Or.inr (Or.inr (Or.inr (Or.inr (Or.inl (q))))); exact Or.inr (Or.inr (Or.inr (Or.inr (Or.inr ((q))))))) (fun _ _ q => False.elim q))
      ·
        rcases fr_ite h7 with h8 | h8
        ·
          exact f3.tr (Fr.mo (fr_j_X11_compare_152 h8) (fun a k q => by unfold w1_j_X11_compare_152 at q; unfold w1_j_X11_compare_105; rcases q with q | q | q | q | q | q; exact Or.inl (q); exact Or.inr (Or.inl (q)); exact Or.inr (Or.inr (Or.inl (q))); exact Or.inr (Or.inr (Or.inr (Or.inl (q)))); exact Or.inr (Or.inr (Or.inr (Or.inr (Or.inl (q))))); exact Or.inr (Or.inr (Or.inr (Or.inr (Or.inr ((q))))))) (fun _ _ q => False.elim q))
        ·
          exact f3.tr (Fr.mo (fr_j_X11_compare_152 h8) (fun a k q => by unfold w1_j_X11_compare_152 at q; unfold w1_j_X11_compare_105; rcases q with q | q | q | q | q | q; exact Or.inl (q); exact Or.inr (Or.inl (q)); exact Or.inr (Or.inr (Or.inl (q))); exact Or.inr (Or.inr (Or.inr (Or.inl (q)))); exact Or.inr (Or.inr (Or.inr (Or.inr (Or.inl (q))))); exact Or.inr (Or.inr (Or.inr (Or.inr (Or.inr ((q))))))) (fun _ _ q => False.elim q))
def w1_j_X11_compare_90 (a k : Nat) : Prop := (a = 145 ∧ k = 13) ∨ (a = 145 ∧ k = 14) ∨ (a = 145 ∧ k = 15) ∨ (a = 145 ∧ k = 17) ∨ a = 147 ∨ a = 148
def w2_j_X11_compare_90 (a k : Nat) : Prop := False
theorem fr_j_X11_compare_90 {p1 : Int32} {p2 : Int32} {s0 : Int32} {S : fS} {r : Int32 × fS} (h : j_X11_compare_90 p1 p2 s0 S = some r) : Fr (w1_j_X11_compare_90) (w2_j_X11_compare_90) S r.2 := by
  unfold j_X11_compare_90 at h
  rcases fr_ite h with h1 | h1
  ·
    exact (Fr.rf (S := S)).tr (Fr.mo (fr_j_X11_compare_105 h1) (fun a k q => by unfold w1_j_X11_compare_105 at q; unfold w1_j_X11_compare_90; rcases q with q | q | q | q | q | q; exact Or.inl (q); exact Or.inr (Or.inl (q)); exact Or.inr (Or.inr (Or.inl (q))); exact Or.inr (Or.inr (Or.inr (Or.inl (q)))); exact Or.inr (Or.inr (Or.inr (Or.inr (Or.inl (q))))); exact Or.inr (Or.inr (Or.inr (Or.inr (Or.inr ((q))))))) (fun _ _ q => False.elim q))
  ·
    obtain ⟨S29, e2, h3⟩ := Option.bind_eq_some_iff.mp h1
    have f4 : Fr (w1_j_X11_compare_90) (w2_j_X11_compare_90) S S29 := (Fr.rf (S := S)).tr (fr_pI e2 (by unfold w1_j_X11_compare_90; exact Or.inl (⟨rfl, rfl⟩)))
    exact f4.tr (Fr.mo (fr_j_X11_compare_105 h3) (fun a k q => by unfold w1_j_X11_compare_105 at q; unfold w1_j_X11_compare_90; rcases q with q | q | q | q | q | q; exact Or.inl (q); exact Or.inr (Or.inl (q)); exact Or.inr (Or.inr (Or.inl (q))); exact Or.inr (Or.inr (Or.inr (Or.inl (q)))); exact Or.inr (Or.inr (Or.inr (Or.inr (Or.inl (q))))); exact Or.inr (Or.inr (Or.inr (Or.inr (Or.inr ((q))))))) (fun _ _ q => False.elim q))
def w1_j_X11_compare_89 (a k : Nat) : Prop := (a = 145 ∧ k = 13) ∨ (a = 145 ∧ k = 14) ∨ (a = 145 ∧ k = 15) ∨ (a = 145 ∧ k = 17) ∨ a = 147 ∨ a = 148
def w2_j_X11_compare_89 (a k : Nat) : Prop := False
theorem fr_j_X11_compare_89 {p1 : Int32} {p2 : Int32} {S : fS} {r : Int32 × fS} (h : j_X11_compare_89 p1 p2 S = some r) : Fr (w1_j_X11_compare_89) (w2_j_X11_compare_89) S r.2 := by
  unfold j_X11_compare_89 at h
  exact (Fr.rf (S := S)).tr (Fr.mo (fr_j_X11_compare_90 h) (fun a k q => by unfold w1_j_X11_compare_90 at q; unfold w1_j_X11_compare_89; rcases q with q | q | q | q | q | q; exact Or.inl (q); exact Or.inr (Or.inl (q)); exact Or.inr (Or.inr (Or.inl (q))); exact Or.inr (Or.inr (Or.inr (Or.inl (q)))); exact Or.inr (Or.inr (Or.inr (Or.inr (Or.inl (q))))); exact Or.inr (Or.inr (Or.inr (Or.inr (Or.inr ((q))))))) (fun _ _ q => False.elim q))
def w1_j_X11_compare_44 (a k : Nat) : Prop := (a = 145 ∧ k = 13) ∨ (a = 145 ∧ k = 14) ∨ (a = 145 ∧ k = 15) ∨ (a = 145 ∧ k = 17) ∨ a = 147 ∨ a = 148
def w2_j_X11_compare_44 (a k : Nat) : Prop := False
theorem fr_j_X11_compare_44 {p1 : Int32} {p2 : Int32} {S : fS} {r : Int32 × fS} (h : j_X11_compare_44 p1 p2 S = some r) : Fr (w1_j_X11_compare_44) (w2_j_X11_compare_44) S r.2 := by
  unfold j_X11_compare_44 at h
  obtain ⟨S9, e1, h2⟩ := Option.bind_eq_some_iff.mp h
  have f3 : Fr (w1_j_X11_compare_44) (w2_j_X11_compare_44) S S9 := (Fr.rf (S := S)).tr (fr_pI e1 (by unfold w1_j_X11_compare_44; exact Or.inl (⟨rfl, rfl⟩)))
  rcases fr_ite h2 with h4 | h4
  ·
    exact f3.tr (Fr.mo (fr_j_X11_compare_89 h4) (fun a k q => by unfold w1_j_X11_compare_89 at q; unfold w1_j_X11_compare_44; rcases q with q | q | q | q | q | q; exact Or.inl (q); exact Or.inr (Or.inl (q)); exact Or.inr (Or.inr (Or.inl (q))); exact Or.inr (Or.inr (Or.inr (Or.inl (q)))); exact Or.inr (Or.inr (Or.inr (Or.inr (Or.inl (q))))); exact Or.inr (Or.inr (Or.inr (Or.inr (Or.inr ((q))))))) (fun _ _ q => False.elim q))
  ·
    rcases fr_ite h4 with h5 | h5
    ·
      exact f3.tr (Fr.mo (fr_j_X11_compare_89 h5) (fun a k q => by unfold w1_j_X11_compare_89 at q; unfold w1_j_X11_compare_44; rcases q with q | q | q | q | q | q; exact Or.inl (q); exact Or.inr (Or.inl (q)); exact Or.inr (Or.inr (Or.inl (q))); exact Or.inr (Or.inr (Or.inr (Or.inl (q)))); exact Or.inr (Or.inr (Or.inr (Or.inr (Or.inl (q))))); exact Or.inr (Or.inr (Or.inr (Or.inr (Or.inr ((q))))))) (fun _ _ q => False.elim q))
    ·
      obtain ⟨a33, e6, h7⟩ := Option.bind_eq_some_iff.mp h5
      rcases fr_ite h7 with h8 | h8
      ·
        exact f3.tr (Fr.mo (fr_j_X11_compare_90 h8) (fun a k q => by unfold w1_j_X11_compare_90 at q; unfold w1_j_X11_compare_44; rcases q with q | q | q | q | q | q; exact Or.inl (q); exact Or.inr (Or.inl (q)); exact Or.inr (Or.inr (Or.inl (q))); exact Or.inr (Or.inr (Or.inr (Or.inl (q)))); exact Or.inr (Or.inr (Or.inr (Or.inr (Or.inl (q))))); exact Or.inr (Or.inr (Or.inr (Or.inr (Or.inr ((q))))))) (fun _ _ q => False.elim q))
      ·
        exact f3.tr (Fr.mo (fr_j_X11_compare_89 h8) (fun a k q => by unfold w1_j_X11_compare_89 at q; unfold w1_j_X11_compare_44; rcases q with q | q | q | q | q | q; exact Or.inl (q); exact Or.inr (Or.inl (q)); exact Or.inr (Or.inr (Or.inl (q))); exact Or.inr (Or.inr (Or.inr (Or.inl (q)))); exact Or.inr (Or.inr (Or.inr (Or.inr (Or.inl (q))))); exact Or.inr (Or.inr (Or.inr (Or.inr (Or.inr ((q))))))) (fun _ _ q => False.elim q))
def w1_f_X11_compare (a k : Nat) : Prop := (a = 145 ∧ k = 13) ∨ (a = 145 ∧ k = 14) ∨ (a = 145 ∧ k = 15) ∨ (a = 145 ∧ k = 17) ∨ a = 147 ∨ a = 148
def w2_f_X11_compare (a k : Nat) : Prop := False
theorem fr_f_X11_compare {S : fS} {r : Int32 × fS} (h : f_X11_compare S = some r) : Fr (w1_f_X11_compare) (w2_f_X11_compare) S r.2 := by
  unfold f_X11_compare at h
  obtain ⟨q1, e1, h2⟩ := Option.bind_eq_some_iff.mp h
  have f3 : Fr (w1_f_X11_compare) (w2_f_X11_compare) S q1.2 := (Fr.rf (S := S)).tr (Fr.mo (fr_f_X11_sum e1) (fun a k q => by unfold w1_f_X11_sum at q; unfold w1_f_X11_compare; rcases q with q | q | q | q | q | q; exact Or.inl (q); exact Or.inr (Or.inl (q)); exact Or.inr (Or.inr (Or.inl (q))); exact Or.inr (Or.inr (Or.inr (Or.inl (q)))); exact Or.inr (Or.inr (Or.inr (Or.inr (Or.inl (q))))); exact Or.inr (Or.inr (Or.inr (Or.inr (Or.inr ((q))))))) (fun _ _ q => False.elim q))
  rcases fr_ite h2 with h4 | h4
  ·
    exact fr_e2 h4 f3
  ·
    obtain ⟨q5, e5, h6⟩ := Option.bind_eq_some_iff.mp h4
    have f7 : Fr (w1_f_X11_compare) (w2_f_X11_compare) S q5.2 := f3.tr (Fr.mo (fr_f_X11_see e5) (fun a k q => by unfold w1_f_X11_see at q; unfold w1_f_X11_compare; exact Or.inl (q)) (fun _ _ q => False.elim q))
    rcases fr_ite h6 with h8 | h8
    ·
      exact f7.tr (Fr.mo (fr_j_X11_compare_44 h8) (fun a k q => by unfold w1_j_X11_compare_44 at q; unfold w1_f_X11_compare; rcases q with q | q | q | q | q | q; exact Or.inl (q); exact Or.inr (Or.inl (q)); exact Or.inr (Or.inr (Or.inl (q))); exact Or.inr (Or.inr (Or.inr (Or.inl (q)))); exact Or.inr (Or.inr (Or.inr (Or.inr (Or.inl (q))))); exact Or.inr (Or.inr (Or.inr (Or.inr (Or.inr ((q))))))) (fun _ _ q => False.elim q))
    ·
      rcases fr_ite h8 with h9 | h9
      ·
        exact f7.tr (Fr.mo (fr_j_X11_compare_44 h9) (fun a k q => by unfold w1_j_X11_compare_44 at q; unfold w1_f_X11_compare; rcases q with q | q | q | q | q | q; exact Or.inl (q); exact Or.inr (Or.inl (q)); exact Or.inr (Or.inr (Or.inl (q))); exact Or.inr (Or.inr (Or.inr (Or.inl (q)))); exact Or.inr (Or.inr (Or.inr (Or.inr (Or.inl (q))))); exact Or.inr (Or.inr (Or.inr (Or.inr (Or.inr ((q))))))) (fun _ _ q => False.elim q))
      ·
        rcases fr_ite h9 with h10 | h10
        ·
          exact f7.tr (Fr.mo (fr_j_X11_compare_44 h10) (fun a k q => by unfold w1_j_X11_compare_44 at q; unfold w1_f_X11_compare; rcases q with q | q | q | q | q | q; exact Or.inl (q); exact Or.inr (Or.inl (q)); exact Or.inr (Or.inr (Or.inl (q))); exact Or.inr (Or.inr (Or.inr (Or.inl (q)))); exact Or.inr (Or.inr (Or.inr (Or.inr (Or.inl (q))))); exact Or.inr (Or.inr (Or.inr (Or.inr (Or.inr ((q))))))) (fun _ _ q => False.elim q))
        ·
          obtain ⟨q39, e11, h12⟩ := Option.bind_eq_some_iff.mp h10
          have f13 : Fr (w1_f_X11_compare) (w2_f_X11_compare) S q39.2 := f7.tr (Fr.mo (fr_f_X11_fails e11) (fun a k q => by unfold w1_f_X11_fails at q; unfold w1_f_X11_compare; exact Or.inr (Or.inl (q))) (fun _ _ q => False.elim q))
          obtain ⟨z42, e14, h15⟩ := Option.bind_eq_some_iff.mp h12
          exact fr_e2 h15 f13
def w1_lp_X11_fact_2 (a k : Nat) : Prop := (a = 145 ∧ k = 13) ∨ (a = 145 ∧ k = 14) ∨ (a = 145 ∧ k = 18) ∨ (a = 145 ∧ k = 21) ∨ a = 154
def w2_lp_X11_fact_2 (a k : Nat) : Prop := False
theorem fr_lp_X11_fact_2 {K : fS → Option (Int32 × fS)} {r : Int32 × fS} {v1 v2 : Nat → Nat → Prop} (s1 : ∀ a k, w1_lp_X11_fact_2 a k → v1 a k) (s2 : ∀ a k, w2_lp_X11_fact_2 a k → v2 a k) (hK : ∀ (x0 : fS), K x0 = some r → Fr v1 v2 x0 r.2) : ∀ (n : Nat) (p1 : Int32) (S0 : fS), lp_X11_fact_2 K n p1 S0 = some r → Fr v1 v2 S0 r.2 := by
  intro n
  induction n with
  | zero => intro p1 S0 h; exact mm_no h
  | succ n ih =>
    intro p1 S0 h
    rw [lp_X11_fact_2.eq_2] at h
    rcases fr_ite h with h1 | h1
    ·
      exact (Fr.rf (S := S0)).tr (hK _ h1)
    ·
      obtain ⟨q2, e2, h3⟩ := Option.bind_eq_some_iff.mp h1
      have f4 : Fr v1 v2 S0 q2.2 := (Fr.rf (S := S0)).tr (Fr.mo (fr_f_X11_see e2) (fun a k q => by refine s1 _ _ ?_; unfold w1_f_X11_see at q; unfold w1_lp_X11_fact_2; exact Or.inl (q)) (fun _ _ q => False.elim q))
      obtain ⟨q5, e5, h6⟩ := Option.bind_eq_some_iff.mp h3
      have f7 : Fr v1 v2 S0 q5.2 := f4.tr (Fr.mo (fr_f_X11_isWord e5) (fun a k q => by refine s1 _ _ ?_; unfold w1_f_X11_isWord at q; unfold w1_lp_X11_fact_2; exact Or.inl (q)) (fun _ _ q => False.elim q))
      rcases fr_ite h6 with h8 | h8
      ·
        rcases fr_ite h8 with h9 | h9
        ·
          obtain ⟨q10, e10, h11⟩ := Option.bind_eq_some_iff.mp h9
          have f12 : Fr v1 v2 S0 q10.2 := f7.tr (Fr.mo (fr_f_X11_opens e10) (fun a k q => by refine s1 _ _ ?_; unfold w1_f_X11_opens at q; unfold w1_lp_X11_fact_2; rcases q with q | q | q | q; exact Or.inr (Or.inl (q)); exact Or.inr (Or.inr (Or.inl (q))); exact Or.inr (Or.inr (Or.inr (Or.inl (q)))); exact Or.inr (Or.inr (Or.inr (Or.inr ((q)))))) (fun _ _ q => False.elim q))
          rcases fr_ite h11 with h13 | h13
          ·
            exact fr_e2 h13 f12
          ·
            obtain ⟨S14, e14, h15⟩ := Option.bind_eq_some_iff.mp h13
            have f16 : Fr v1 v2 S0 S14 := f12.tr (fr_pI e14 (by refine s1 _ _ ?_; unfold w1_lp_X11_fact_2; exact Or.inl (⟨rfl, rfl⟩)))
            exact f16.tr (ih _ _ h15)
        ·
          exact f7.tr (ih _ _ h9)
      ·
        obtain ⟨q17, e17, h18⟩ := Option.bind_eq_some_iff.mp h8
        have f19 : Fr v1 v2 S0 q17.2 := f7.tr (Fr.mo (fr_f_X11_opens e17) (fun a k q => by refine s1 _ _ ?_; unfold w1_f_X11_opens at q; unfold w1_lp_X11_fact_2; rcases q with q | q | q | q; exact Or.inr (Or.inl (q)); exact Or.inr (Or.inr (Or.inl (q))); exact Or.inr (Or.inr (Or.inr (Or.inl (q)))); exact Or.inr (Or.inr (Or.inr (Or.inr ((q)))))) (fun _ _ q => False.elim q))
        rcases fr_ite h18 with h20 | h20
        ·
          exact fr_e2 h20 f19
        ·
          obtain ⟨q21, e21, h22⟩ := Option.bind_eq_some_iff.mp h20
          have f23 : Fr v1 v2 S0 q21 := f19.tr (Fr.mo (fr_f_X11_passWord e21) (fun a k q => by refine s1 _ _ ?_; unfold w1_f_X11_passWord at q; unfold w1_lp_X11_fact_2; exact Or.inl (q)) (fun _ _ q => False.elim q))
          exact f23.tr (ih _ _ h22)
def w1_f_X11_fact (a k : Nat) : Prop := (a = 145 ∧ k = 13) ∨ (a = 145 ∧ k = 14) ∨ (a = 145 ∧ k = 15) ∨ (a = 145 ∧ k = 17) ∨ (a = 145 ∧ k = 18) ∨ (a = 145 ∧ k = 21) ∨ a = 147 ∨ a = 148 ∨ a = 154
def w2_f_X11_fact (a k : Nat) : Prop := False
theorem fr_f_X11_fact {S : fS} {r : Int32 × fS} (h : f_X11_fact S = some r) : Fr (w1_f_X11_fact) (w2_f_X11_fact) S r.2 := by
  unfold f_X11_fact at h
  refine (Fr.rf (S := S)).tr (fr_lp_X11_fact_2 (v1 := w1_f_X11_fact) (v2 := w2_f_X11_fact) (fun a k q => by unfold w1_lp_X11_fact_2 at q; unfold w1_f_X11_fact; rcases q with q | q | q | q | q; exact Or.inl (q); exact Or.inr (Or.inl (q)); exact Or.inr (Or.inr (Or.inr (Or.inr (Or.inl (q))))); exact Or.inr (Or.inr (Or.inr (Or.inr (Or.inr (Or.inl (q)))))); exact Or.inr (Or.inr (Or.inr (Or.inr (Or.inr (Or.inr (Or.inr (Or.inr ((q)))))))))) (fun _ _ q => False.elim q) (fun S24 h1 => ?_) _ _ _ h)
  obtain ⟨q26, e2, h3⟩ := Option.bind_eq_some_iff.mp h1
  have f4 : Fr (w1_f_X11_fact) (w2_f_X11_fact) S24 q26.2 := (Fr.rf (S := S24)).tr (Fr.mo (fr_f_X11_compare e2) (fun a k q => by unfold w1_f_X11_compare at q; unfold w1_f_X11_fact; rcases q with q | q | q | q | q | q; exact Or.inl (q); exact Or.inr (Or.inl (q)); exact Or.inr (Or.inr (Or.inl (q))); exact Or.inr (Or.inr (Or.inr (Or.inl (q)))); exact Or.inr (Or.inr (Or.inr (Or.inr (Or.inr (Or.inr (Or.inl (q))))))); exact Or.inr (Or.inr (Or.inr (Or.inr (Or.inr (Or.inr (Or.inr (Or.inl (q))))))))) (fun _ _ q => False.elim q))
  obtain ⟨z29, e5, h6⟩ := Option.bind_eq_some_iff.mp h3
  exact fr_e2 h6 f4
def w1_lp_X11_settles_0 (a k : Nat) : Prop := (a = 145 ∧ k = 18) ∨ (a = 145 ∧ k = 21) ∨ a = 147 ∨ a = 148
def w2_lp_X11_settles_0 (a k : Nat) : Prop := False
theorem fr_lp_X11_settles_0 {p1 : Int32} {K : fS → Option (fS)} {r : fS} {v1 v2 : Nat → Nat → Prop} (s1 : ∀ a k, w1_lp_X11_settles_0 a k → v1 a k) (s2 : ∀ a k, w2_lp_X11_settles_0 a k → v2 a k) (hK : ∀ (x0 : fS), K x0 = some r → Fr v1 v2 x0 r) : ∀ (n : Nat) (S0 : fS), lp_X11_settles_0 p1 K n S0 = some r → Fr v1 v2 S0 r := by
  intro n
  induction n with
  | zero => intro S0 h; exact mm_no h
  | succ n ih =>
    intro S0 h
    rw [lp_X11_settles_0.eq_2] at h
    rcases fr_ite h with h1 | h1
    ·
      exact (Fr.rf (S := S0)).tr (hK _ h1)
    ·
      obtain ⟨a2, e2, h3⟩ := Option.bind_eq_some_iff.mp h1
      obtain ⟨q5, e4, h5⟩ := Option.bind_eq_some_iff.mp h3
      rcases fr_ite h5 with h6 | h6
      ·
        exact (Fr.rf (S := S0)).tr (hK _ h6)
      ·
        obtain ⟨S9, e7, h8⟩ := Option.bind_eq_some_iff.mp h6
        have f9 : Fr v1 v2 S0 S9 := (Fr.rf (S := S0)).tr (fr_pI e7 (by refine s1 _ _ ?_; unfold w1_lp_X11_settles_0; exact Or.inr (Or.inl (⟨rfl, rfl⟩))))
        obtain ⟨a12, e10, h11⟩ := Option.bind_eq_some_iff.mp h8
        obtain ⟨q15, e12, h13⟩ := Option.bind_eq_some_iff.mp h11
        have f14 : Fr v1 v2 S0 q15 := f9.tr (Fr.mo (fr_f_X11_puts e12) (fun a k q => by refine s1 _ _ ?_; unfold w1_f_X11_puts at q; unfold w1_lp_X11_settles_0; rcases q with q | q; exact Or.inr (Or.inr (Or.inl (q))); exact Or.inr (Or.inr (Or.inr ((q))))) (fun _ _ q => False.elim q))
        obtain ⟨a18, e15, h16⟩ := Option.bind_eq_some_iff.mp h13
        rcases fr_ite h16 with h17 | h17
        ·
          obtain ⟨S22, e18, h19⟩ := Option.bind_eq_some_iff.mp h17
          have f20 : Fr v1 v2 S0 S22 := f14.tr (fr_pI e18 (by refine s1 _ _ ?_; unfold w1_lp_X11_settles_0; exact Or.inl (⟨rfl, rfl⟩)))
          exact f20.tr (ih _ h19)
        ·
          exact f14.tr (ih _ h17)
def w1_f_X11_settles (a k : Nat) : Prop := (a = 145 ∧ k = 18) ∨ (a = 145 ∧ k = 21) ∨ a = 147 ∨ a = 148
def w2_f_X11_settles (a k : Nat) : Prop := False
theorem fr_f_X11_settles {v1 : Int32} {S : fS} {r : fS} (h : f_X11_settles v1 S = some r) : Fr (w1_f_X11_settles) (w2_f_X11_settles) S r := by
  unfold f_X11_settles at h
  refine (Fr.rf (S := S)).tr (fr_lp_X11_settles_0 (v1 := w1_f_X11_settles) (v2 := w2_f_X11_settles) (fun a k q => by unfold w1_lp_X11_settles_0 at q; unfold w1_f_X11_settles; rcases q with q | q | q | q; exact Or.inl (q); exact Or.inr (Or.inl (q)); exact Or.inr (Or.inr (Or.inl (q))); exact Or.inr (Or.inr (Or.inr ((q))))) (fun _ _ q => False.elim q) (fun S25 h1 => ?_) _ _ h)
  exact fr_e1 h1 (Fr.rf (S := S25))
def w1_lp_X11_closes_5 (a k : Nat) : Prop := (a = 145 ∧ k = 13) ∨ (a = 145 ∧ k = 18) ∨ (a = 145 ∧ k = 21) ∨ a = 147 ∨ a = 148
def w2_lp_X11_closes_5 (a k : Nat) : Prop := False
theorem fr_lp_X11_closes_5 {K : fS → Option (fS)} {r : fS} {v1 v2 : Nat → Nat → Prop} (s1 : ∀ a k, w1_lp_X11_closes_5 a k → v1 a k) (s2 : ∀ a k, w2_lp_X11_closes_5 a k → v2 a k) (hK : ∀ (x0 : fS), K x0 = some r → Fr v1 v2 x0 r) : ∀ (n : Nat) (S0 : fS), lp_X11_closes_5 K n S0 = some r → Fr v1 v2 S0 r := by
  intro n
  induction n with
  | zero => intro S0 h; exact mm_no h
  | succ n ih =>
    intro S0 h
    rw [lp_X11_closes_5.eq_2] at h
    obtain ⟨q4, e1, h2⟩ := Option.bind_eq_some_iff.mp h
    have f3 : Fr v1 v2 S0 q4.2 := (Fr.rf (S := S0)).tr (Fr.mo (fr_f_X11_see e1) (fun a k q => by refine s1 _ _ ?_; unfold w1_f_X11_see at q; unfold w1_lp_X11_closes_5; exact Or.inl (q)) (fun _ _ q => False.elim q))
    rcases fr_ite h2 with h4 | h4
    ·
      obtain ⟨q8, e5, h6⟩ := Option.bind_eq_some_iff.mp h4
      rcases fr_ite h6 with h7 | h7
      ·
        exact f3.tr (hK _ h7)
      ·
        obtain ⟨q12, e8, h9⟩ := Option.bind_eq_some_iff.mp h7
        have f10 : Fr v1 v2 S0 q12 := f3.tr (Fr.mo (fr_f_X11_settles e8) (fun a k q => by refine s1 _ _ ?_; unfold w1_f_X11_settles at q; unfold w1_lp_X11_closes_5; rcases q with q | q | q | q; exact Or.inr (Or.inl (q)); exact Or.inr (Or.inr (Or.inl (q))); exact Or.inr (Or.inr (Or.inr (Or.inl (q)))); exact Or.inr (Or.inr (Or.inr (Or.inr ((q)))))) (fun _ _ q => False.elim q))
        obtain ⟨S15, e11, h12⟩ := Option.bind_eq_some_iff.mp h9
        have f13 : Fr v1 v2 S0 S15 := f10.tr (fr_pI e11 (by refine s1 _ _ ?_; unfold w1_lp_X11_closes_5; exact Or.inr (Or.inr (Or.inl (⟨rfl, rfl⟩)))))
        obtain ⟨S18, e14, h15⟩ := Option.bind_eq_some_iff.mp h12
        have f16 : Fr v1 v2 S0 S18 := f13.tr (fr_pI e14 (by refine s1 _ _ ?_; unfold w1_lp_X11_closes_5; exact Or.inr (Or.inl (⟨rfl, rfl⟩))))
        obtain ⟨S21, e17, h18⟩ := Option.bind_eq_some_iff.mp h15
        have f19 : Fr v1 v2 S0 S21 := f16.tr (fr_pI e17 (by refine s1 _ _ ?_; unfold w1_lp_X11_closes_5; exact Or.inl (⟨rfl, rfl⟩)))
        obtain ⟨q24, e20, h21⟩ := Option.bind_eq_some_iff.mp h18
        have f22 : Fr v1 v2 S0 q24 := f19.tr (Fr.mo (fr_f_X11_settles e20) (fun a k q => by refine s1 _ _ ?_; unfold w1_f_X11_settles at q; unfold w1_lp_X11_closes_5; rcases q with q | q | q | q; exact Or.inr (Or.inl (q)); exact Or.inr (Or.inr (Or.inl (q))); exact Or.inr (Or.inr (Or.inr (Or.inl (q)))); exact Or.inr (Or.inr (Or.inr (Or.inr ((q)))))) (fun _ _ q => False.elim q))
        exact f22.tr (ih _ h21)
    ·
      exact f3.tr (hK _ h4)
def w1_f_X11_closes (a k : Nat) : Prop := (a = 145 ∧ k = 13) ∨ (a = 145 ∧ k = 18) ∨ (a = 145 ∧ k = 21) ∨ a = 147 ∨ a = 148
def w2_f_X11_closes (a k : Nat) : Prop := False
theorem fr_f_X11_closes {S : fS} {r : fS} (h : f_X11_closes S = some r) : Fr (w1_f_X11_closes) (w2_f_X11_closes) S r := by
  unfold f_X11_closes at h
  obtain ⟨q1, e1, h2⟩ := Option.bind_eq_some_iff.mp h
  have f3 : Fr (w1_f_X11_closes) (w2_f_X11_closes) S q1 := (Fr.rf (S := S)).tr (Fr.mo (fr_f_X11_settles e1) (fun a k q => by unfold w1_f_X11_settles at q; unfold w1_f_X11_closes; rcases q with q | q | q | q; exact Or.inr (Or.inl (q)); exact Or.inr (Or.inr (Or.inl (q))); exact Or.inr (Or.inr (Or.inr (Or.inl (q)))); exact Or.inr (Or.inr (Or.inr (Or.inr ((q)))))) (fun _ _ q => False.elim q))
  refine f3.tr (fr_lp_X11_closes_5 (v1 := w1_f_X11_closes) (v2 := w2_f_X11_closes) (fun a k q => by unfold w1_lp_X11_closes_5 at q; unfold w1_f_X11_closes; rcases q with q | q | q | q | q; exact Or.inl (q); exact Or.inr (Or.inl (q)); exact Or.inr (Or.inr (Or.inl (q))); exact Or.inr (Or.inr (Or.inr (Or.inl (q)))); exact Or.inr (Or.inr (Or.inr (Or.inr ((q)))))) (fun _ _ q => False.elim q) (fun S27 h4 => ?_) _ _ h2)
  exact fr_e1 h4 (Fr.rf (S := S27))
def w1_lp_X11_tested_12 (a k : Nat) : Prop := (a = 145 ∧ k = 13) ∨ (a = 145 ∧ k = 14) ∨ (a = 145 ∧ k = 15) ∨ (a = 145 ∧ k = 17) ∨ (a = 145 ∧ k = 18) ∨ (a = 145 ∧ k = 21) ∨ a = 147 ∨ a = 148 ∨ a = 154
def w2_lp_X11_tested_12 (a k : Nat) : Prop := False
theorem fr_lp_X11_tested_12 {K : fS → Option (Int32 × fS)} {r : Int32 × fS} {v1 v2 : Nat → Nat → Prop} (s1 : ∀ a k, w1_lp_X11_tested_12 a k → v1 a k) (s2 : ∀ a k, w2_lp_X11_tested_12 a k → v2 a k) (hK : ∀ (x0 : fS), K x0 = some r → Fr v1 v2 x0 r.2) : ∀ (n : Nat) (p1 : Int32) (S0 : fS), lp_X11_tested_12 K n p1 S0 = some r → Fr v1 v2 S0 r.2 := by
  intro n
  induction n with
  | zero => intro p1 S0 h; exact mm_no h
  | succ n ih =>
    intro p1 S0 h
    rw [lp_X11_tested_12.eq_2] at h
    rcases fr_ite h with h1 | h1
    ·
      exact (Fr.rf (S := S0)).tr (hK _ h1)
    ·
      obtain ⟨q8, e2, h3⟩ := Option.bind_eq_some_iff.mp h1
      have f4 : Fr v1 v2 S0 q8.2 := (Fr.rf (S := S0)).tr (Fr.mo (fr_f_X11_fact e2) (fun a k q => by refine s1 _ _ ?_; unfold w1_f_X11_fact at q; unfold w1_lp_X11_tested_12; rcases q with q | q | q | q | q | q | q | q | q; exact Or.inl (q); exact Or.inr (Or.inl (q)); exact Or.inr (Or.inr (Or.inl (q))); exact Or.inr (Or.inr (Or.inr (Or.inl (q)))); exact Or.inr (Or.inr (Or.inr (Or.inr (Or.inl (q))))); exact Or.inr (Or.inr (Or.inr (Or.inr (Or.inr (Or.inl (q)))))); exact Or.inr (Or.inr (Or.inr (Or.inr (Or.inr (Or.inr (Or.inl (q))))))); exact Or.inr (Or.inr (Or.inr (Or.inr (Or.inr (Or.inr (Or.inr (Or.inl (q)))))))); exact Or.inr (Or.inr (Or.inr (Or.inr (Or.inr (Or.inr (Or.inr (Or.inr ((q)))))))))) (fun _ _ q => False.elim q))
      rcases fr_ite h3 with h5 | h5
      ·
        exact fr_e2 h5 f4
      ·
        obtain ⟨q12, e6, h7⟩ := Option.bind_eq_some_iff.mp h5
        have f8 : Fr v1 v2 S0 q12 := f4.tr (Fr.mo (fr_f_X11_closes e6) (fun a k q => by refine s1 _ _ ?_; unfold w1_f_X11_closes at q; unfold w1_lp_X11_tested_12; rcases q with q | q | q | q | q; exact Or.inl (q); exact Or.inr (Or.inr (Or.inr (Or.inr (Or.inl (q))))); exact Or.inr (Or.inr (Or.inr (Or.inr (Or.inr (Or.inl (q)))))); exact Or.inr (Or.inr (Or.inr (Or.inr (Or.inr (Or.inr (Or.inl (q))))))); exact Or.inr (Or.inr (Or.inr (Or.inr (Or.inr (Or.inr (Or.inr (Or.inl (q))))))))) (fun _ _ q => False.elim q))
        obtain ⟨q15, e9, h10⟩ := Option.bind_eq_some_iff.mp h7
        have f11 : Fr v1 v2 S0 q15.2 := f8.tr (Fr.mo (fr_f_X11_isWord e9) (fun a k q => by refine s1 _ _ ?_; unfold w1_f_X11_isWord at q; unfold w1_lp_X11_tested_12; exact Or.inl (q)) (fun _ _ q => False.elim q))
        rcases fr_ite h10 with h12 | h12
        ·
          obtain ⟨q54, e13, h14⟩ := Option.bind_eq_some_iff.mp h12
          have f15 : Fr v1 v2 S0 q54.2 := f11.tr (Fr.mo (fr_f_X11_isWord e13) (fun a k q => by refine s1 _ _ ?_; unfold w1_f_X11_isWord at q; unfold w1_lp_X11_tested_12; exact Or.inl (q)) (fun _ _ q => False.elim q))
          rcases fr_ite h14 with h16 | h16
          ·
            rcases fr_ite h16 with h17 | h17
            ·
              exact f15.tr (ih _ _ h17)
            ·
              obtain ⟨q59, e18, h19⟩ := Option.bind_eq_some_iff.mp h17
              have f20 : Fr v1 v2 S0 q59.2 := f15.tr (Fr.mo (fr_f_X11_isWord e18) (fun a k q => by refine s1 _ _ ?_; unfold w1_f_X11_isWord at q; unfold w1_lp_X11_tested_12; exact Or.inl (q)) (fun _ _ q => False.elim q))
              rcases fr_ite h19 with h21 | h21
              ·
                obtain ⟨q63, e22, h23⟩ := Option.bind_eq_some_iff.mp h21
                have f24 : Fr v1 v2 S0 q63 := f20.tr (Fr.mo (fr_f_X11_passWord e22) (fun a k q => by refine s1 _ _ ?_; unfold w1_f_X11_passWord at q; unfold w1_lp_X11_tested_12; exact Or.inl (q)) (fun _ _ q => False.elim q))
                obtain ⟨q66, e25, h26⟩ := Option.bind_eq_some_iff.mp h23
                obtain ⟨q69, e27, h28⟩ := Option.bind_eq_some_iff.mp h26
                have f29 : Fr v1 v2 S0 q69 := f24.tr (Fr.mo (fr_f_X11_settles e27) (fun a k q => by refine s1 _ _ ?_; unfold w1_f_X11_settles at q; unfold w1_lp_X11_tested_12; rcases q with q | q | q | q; exact Or.inr (Or.inr (Or.inr (Or.inr (Or.inl (q))))); exact Or.inr (Or.inr (Or.inr (Or.inr (Or.inr (Or.inl (q)))))); exact Or.inr (Or.inr (Or.inr (Or.inr (Or.inr (Or.inr (Or.inl (q))))))); exact Or.inr (Or.inr (Or.inr (Or.inr (Or.inr (Or.inr (Or.inr (Or.inl (q))))))))) (fun _ _ q => False.elim q))
                obtain ⟨S72, e30, h31⟩ := Option.bind_eq_some_iff.mp h28
                have f32 : Fr v1 v2 S0 S72 := f29.tr (fr_sI e30 (fun k => by refine s1 _ _ ?_; unfold w1_lp_X11_tested_12; exact Or.inr (Or.inr (Or.inr (Or.inr (Or.inr (Or.inr (Or.inr (Or.inr ((rfl)))))))))))
                obtain ⟨S75, e33, h34⟩ := Option.bind_eq_some_iff.mp h31
                have f35 : Fr v1 v2 S0 S75 := f32.tr (fr_pI e33 (by refine s1 _ _ ?_; unfold w1_lp_X11_tested_12; exact Or.inr (Or.inr (Or.inr (Or.inr (Or.inr (Or.inl (⟨rfl, rfl⟩))))))))
                exact f35.tr (ih _ _ h34)
              ·
                obtain ⟨q78, e36, h37⟩ := Option.bind_eq_some_iff.mp h21
                have f38 : Fr v1 v2 S0 q78 := f20.tr (Fr.mo (fr_f_X11_passWord e36) (fun a k q => by refine s1 _ _ ?_; unfold w1_f_X11_passWord at q; unfold w1_lp_X11_tested_12; exact Or.inl (q)) (fun _ _ q => False.elim q))
                obtain ⟨q81, e39, h40⟩ := Option.bind_eq_some_iff.mp h37
                obtain ⟨q84, e41, h42⟩ := Option.bind_eq_some_iff.mp h40
                have f43 : Fr v1 v2 S0 q84 := f38.tr (Fr.mo (fr_f_X11_settles e41) (fun a k q => by refine s1 _ _ ?_; unfold w1_f_X11_settles at q; unfold w1_lp_X11_tested_12; rcases q with q | q | q | q; exact Or.inr (Or.inr (Or.inr (Or.inr (Or.inl (q))))); exact Or.inr (Or.inr (Or.inr (Or.inr (Or.inr (Or.inl (q)))))); exact Or.inr (Or.inr (Or.inr (Or.inr (Or.inr (Or.inr (Or.inl (q))))))); exact Or.inr (Or.inr (Or.inr (Or.inr (Or.inr (Or.inr (Or.inr (Or.inl (q))))))))) (fun _ _ q => False.elim q))
                obtain ⟨S87, e44, h45⟩ := Option.bind_eq_some_iff.mp h42
                have f46 : Fr v1 v2 S0 S87 := f43.tr (fr_sI e44 (fun k => by refine s1 _ _ ?_; unfold w1_lp_X11_tested_12; exact Or.inr (Or.inr (Or.inr (Or.inr (Or.inr (Or.inr (Or.inr (Or.inr ((rfl)))))))))))
                obtain ⟨S90, e47, h48⟩ := Option.bind_eq_some_iff.mp h45
                have f49 : Fr v1 v2 S0 S90 := f46.tr (fr_pI e47 (by refine s1 _ _ ?_; unfold w1_lp_X11_tested_12; exact Or.inr (Or.inr (Or.inr (Or.inr (Or.inr (Or.inl (⟨rfl, rfl⟩))))))))
                exact f49.tr (ih _ _ h48)
          ·
            rcases fr_ite h16 with h50 | h50
            ·
              exact f15.tr (ih _ _ h50)
            ·
              obtain ⟨q94, e51, h52⟩ := Option.bind_eq_some_iff.mp h50
              have f53 : Fr v1 v2 S0 q94.2 := f15.tr (Fr.mo (fr_f_X11_isWord e51) (fun a k q => by refine s1 _ _ ?_; unfold w1_f_X11_isWord at q; unfold w1_lp_X11_tested_12; exact Or.inl (q)) (fun _ _ q => False.elim q))
              rcases fr_ite h52 with h54 | h54
              ·
                obtain ⟨q98, e55, h56⟩ := Option.bind_eq_some_iff.mp h54
                have f57 : Fr v1 v2 S0 q98 := f53.tr (Fr.mo (fr_f_X11_passWord e55) (fun a k q => by refine s1 _ _ ?_; unfold w1_f_X11_passWord at q; unfold w1_lp_X11_tested_12; exact Or.inl (q)) (fun _ _ q => False.elim q))
                obtain ⟨q101, e58, h59⟩ := Option.bind_eq_some_iff.mp h56
                obtain ⟨q104, e60, h61⟩ := Option.bind_eq_some_iff.mp h59
                have f62 : Fr v1 v2 S0 q104 := f57.tr (Fr.mo (fr_f_X11_settles e60) (fun a k q => by refine s1 _ _ ?_; unfold w1_f_X11_settles at q; unfold w1_lp_X11_tested_12; rcases q with q | q | q | q; exact Or.inr (Or.inr (Or.inr (Or.inr (Or.inl (q))))); exact Or.inr (Or.inr (Or.inr (Or.inr (Or.inr (Or.inl (q)))))); exact Or.inr (Or.inr (Or.inr (Or.inr (Or.inr (Or.inr (Or.inl (q))))))); exact Or.inr (Or.inr (Or.inr (Or.inr (Or.inr (Or.inr (Or.inr (Or.inl (q))))))))) (fun _ _ q => False.elim q))
                obtain ⟨S107, e63, h64⟩ := Option.bind_eq_some_iff.mp h61
                have f65 : Fr v1 v2 S0 S107 := f62.tr (fr_sI e63 (fun k => by refine s1 _ _ ?_; unfold w1_lp_X11_tested_12; exact Or.inr (Or.inr (Or.inr (Or.inr (Or.inr (Or.inr (Or.inr (Or.inr ((rfl)))))))))))
                obtain ⟨S110, e66, h67⟩ := Option.bind_eq_some_iff.mp h64
                have f68 : Fr v1 v2 S0 S110 := f65.tr (fr_pI e66 (by refine s1 _ _ ?_; unfold w1_lp_X11_tested_12; exact Or.inr (Or.inr (Or.inr (Or.inr (Or.inr (Or.inl (⟨rfl, rfl⟩))))))))
                exact f68.tr (ih _ _ h67)
              ·
                obtain ⟨q113, e69, h70⟩ := Option.bind_eq_some_iff.mp h54
                have f71 : Fr v1 v2 S0 q113 := f53.tr (Fr.mo (fr_f_X11_passWord e69) (fun a k q => by refine s1 _ _ ?_; unfold w1_f_X11_passWord at q; unfold w1_lp_X11_tested_12; exact Or.inl (q)) (fun _ _ q => False.elim q))
                obtain ⟨q116, e72, h73⟩ := Option.bind_eq_some_iff.mp h70
                obtain ⟨q119, e74, h75⟩ := Option.bind_eq_some_iff.mp h73
                have f76 : Fr v1 v2 S0 q119 := f71.tr (Fr.mo (fr_f_X11_settles e74) (fun a k q => by refine s1 _ _ ?_; unfold w1_f_X11_settles at q; unfold w1_lp_X11_tested_12; rcases q with q | q | q | q; exact Or.inr (Or.inr (Or.inr (Or.inr (Or.inl (q))))); exact Or.inr (Or.inr (Or.inr (Or.inr (Or.inr (Or.inl (q)))))); exact Or.inr (Or.inr (Or.inr (Or.inr (Or.inr (Or.inr (Or.inl (q))))))); exact Or.inr (Or.inr (Or.inr (Or.inr (Or.inr (Or.inr (Or.inr (Or.inl (q))))))))) (fun _ _ q => False.elim q))
                obtain ⟨S122, e77, h78⟩ := Option.bind_eq_some_iff.mp h75
                have f79 : Fr v1 v2 S0 S122 := f76.tr (fr_sI e77 (fun k => by refine s1 _ _ ?_; unfold w1_lp_X11_tested_12; exact Or.inr (Or.inr (Or.inr (Or.inr (Or.inr (Or.inr (Or.inr (Or.inr ((rfl)))))))))))
                obtain ⟨S125, e80, h81⟩ := Option.bind_eq_some_iff.mp h78
                have f82 : Fr v1 v2 S0 S125 := f79.tr (fr_pI e80 (by refine s1 _ _ ?_; unfold w1_lp_X11_tested_12; exact Or.inr (Or.inr (Or.inr (Or.inr (Or.inr (Or.inl (⟨rfl, rfl⟩))))))))
                exact f82.tr (ih _ _ h81)
        ·
          rcases fr_ite h12 with h83 | h83
          ·
            exact f11.tr (ih _ _ h83)
          ·
            obtain ⟨q20, e84, h85⟩ := Option.bind_eq_some_iff.mp h83
            have f86 : Fr v1 v2 S0 q20.2 := f11.tr (Fr.mo (fr_f_X11_isWord e84) (fun a k q => by refine s1 _ _ ?_; unfold w1_f_X11_isWord at q; unfold w1_lp_X11_tested_12; exact Or.inl (q)) (fun _ _ q => False.elim q))
            rcases fr_ite h85 with h87 | h87
            ·
              obtain ⟨q24, e88, h89⟩ := Option.bind_eq_some_iff.mp h87
              have f90 : Fr v1 v2 S0 q24 := f86.tr (Fr.mo (fr_f_X11_passWord e88) (fun a k q => by refine s1 _ _ ?_; unfold w1_f_X11_passWord at q; unfold w1_lp_X11_tested_12; exact Or.inl (q)) (fun _ _ q => False.elim q))
              obtain ⟨q27, e91, h92⟩ := Option.bind_eq_some_iff.mp h89
              obtain ⟨q30, e93, h94⟩ := Option.bind_eq_some_iff.mp h92
              have f95 : Fr v1 v2 S0 q30 := f90.tr (Fr.mo (fr_f_X11_settles e93) (fun a k q => by refine s1 _ _ ?_; unfold w1_f_X11_settles at q; unfold w1_lp_X11_tested_12; rcases q with q | q | q | q; exact Or.inr (Or.inr (Or.inr (Or.inr (Or.inl (q))))); exact Or.inr (Or.inr (Or.inr (Or.inr (Or.inr (Or.inl (q)))))); exact Or.inr (Or.inr (Or.inr (Or.inr (Or.inr (Or.inr (Or.inl (q))))))); exact Or.inr (Or.inr (Or.inr (Or.inr (Or.inr (Or.inr (Or.inr (Or.inl (q))))))))) (fun _ _ q => False.elim q))
              obtain ⟨S33, e96, h97⟩ := Option.bind_eq_some_iff.mp h94
              have f98 : Fr v1 v2 S0 S33 := f95.tr (fr_sI e96 (fun k => by refine s1 _ _ ?_; unfold w1_lp_X11_tested_12; exact Or.inr (Or.inr (Or.inr (Or.inr (Or.inr (Or.inr (Or.inr (Or.inr ((rfl)))))))))))
              obtain ⟨S36, e99, h100⟩ := Option.bind_eq_some_iff.mp h97
              have f101 : Fr v1 v2 S0 S36 := f98.tr (fr_pI e99 (by refine s1 _ _ ?_; unfold w1_lp_X11_tested_12; exact Or.inr (Or.inr (Or.inr (Or.inr (Or.inr (Or.inl (⟨rfl, rfl⟩))))))))
              exact f101.tr (ih _ _ h100)
            ·
              obtain ⟨q39, e102, h103⟩ := Option.bind_eq_some_iff.mp h87
              have f104 : Fr v1 v2 S0 q39 := f86.tr (Fr.mo (fr_f_X11_passWord e102) (fun a k q => by refine s1 _ _ ?_; unfold w1_f_X11_passWord at q; unfold w1_lp_X11_tested_12; exact Or.inl (q)) (fun _ _ q => False.elim q))
              obtain ⟨q42, e105, h106⟩ := Option.bind_eq_some_iff.mp h103
              obtain ⟨q45, e107, h108⟩ := Option.bind_eq_some_iff.mp h106
              have f109 : Fr v1 v2 S0 q45 := f104.tr (Fr.mo (fr_f_X11_settles e107) (fun a k q => by refine s1 _ _ ?_; unfold w1_f_X11_settles at q; unfold w1_lp_X11_tested_12; rcases q with q | q | q | q; exact Or.inr (Or.inr (Or.inr (Or.inr (Or.inl (q))))); exact Or.inr (Or.inr (Or.inr (Or.inr (Or.inr (Or.inl (q)))))); exact Or.inr (Or.inr (Or.inr (Or.inr (Or.inr (Or.inr (Or.inl (q))))))); exact Or.inr (Or.inr (Or.inr (Or.inr (Or.inr (Or.inr (Or.inr (Or.inl (q))))))))) (fun _ _ q => False.elim q))
              obtain ⟨S48, e110, h111⟩ := Option.bind_eq_some_iff.mp h108
              have f112 : Fr v1 v2 S0 S48 := f109.tr (fr_sI e110 (fun k => by refine s1 _ _ ?_; unfold w1_lp_X11_tested_12; exact Or.inr (Or.inr (Or.inr (Or.inr (Or.inr (Or.inr (Or.inr (Or.inr ((rfl)))))))))))
              obtain ⟨S51, e113, h114⟩ := Option.bind_eq_some_iff.mp h111
              have f115 : Fr v1 v2 S0 S51 := f112.tr (fr_pI e113 (by refine s1 _ _ ?_; unfold w1_lp_X11_tested_12; exact Or.inr (Or.inr (Or.inr (Or.inr (Or.inr (Or.inl (⟨rfl, rfl⟩))))))))
              exact f115.tr (ih _ _ h114)
def w1_f_X11_tested (a k : Nat) : Prop := (a = 145 ∧ k = 13) ∨ (a = 145 ∧ k = 14) ∨ (a = 145 ∧ k = 15) ∨ (a = 145 ∧ k = 17) ∨ (a = 145 ∧ k = 18) ∨ (a = 145 ∧ k = 21) ∨ a = 147 ∨ a = 148 ∨ a = 154
def w2_f_X11_tested (a k : Nat) : Prop := False
theorem fr_f_X11_tested {S : fS} {r : Int32 × fS} (h : f_X11_tested S = some r) : Fr (w1_f_X11_tested) (w2_f_X11_tested) S r.2 := by
  unfold f_X11_tested at h
  obtain ⟨S1, e1, h2⟩ := Option.bind_eq_some_iff.mp h
  have f3 : Fr (w1_f_X11_tested) (w2_f_X11_tested) S S1 := (Fr.rf (S := S)).tr (fr_pI e1 (by unfold w1_f_X11_tested; exact Or.inr (Or.inr (Or.inr (Or.inr (Or.inr (Or.inl (⟨rfl, rfl⟩))))))))
  obtain ⟨S4, e4, h5⟩ := Option.bind_eq_some_iff.mp h2
  have f6 : Fr (w1_f_X11_tested) (w2_f_X11_tested) S S4 := f3.tr (fr_pI e4 (by unfold w1_f_X11_tested; exact Or.inr (Or.inr (Or.inr (Or.inr (Or.inl (⟨rfl, rfl⟩)))))))
  refine f6.tr (fr_lp_X11_tested_12 (v1 := w1_f_X11_tested) (v2 := w2_f_X11_tested) (fun a k q => by unfold w1_lp_X11_tested_12 at q; unfold w1_f_X11_tested; rcases q with q | q | q | q | q | q | q | q | q; exact Or.inl (q); exact Or.inr (Or.inl (q)); exact Or.inr (Or.inr (Or.inl (q))); exact Or.inr (Or.inr (Or.inr (Or.inl (q)))); exact Or.inr (Or.inr (Or.inr (Or.inr (Or.inl (q))))); exact Or.inr (Or.inr (Or.inr (Or.inr (Or.inr (Or.inl (q)))))); exact Or.inr (Or.inr (Or.inr (Or.inr (Or.inr (Or.inr (Or.inl (q))))))); exact Or.inr (Or.inr (Or.inr (Or.inr (Or.inr (Or.inr (Or.inr (Or.inl (q)))))))); exact Or.inr (Or.inr (Or.inr (Or.inr (Or.inr (Or.inr (Or.inr (Or.inr ((q)))))))))) (fun _ _ q => False.elim q) (fun S128 h7 => ?_) _ _ _ h5)
  obtain ⟨q130, e8, h9⟩ := Option.bind_eq_some_iff.mp h7
  rcases fr_ite h9 with h10 | h10
  ·
    obtain ⟨q134, e11, h12⟩ := Option.bind_eq_some_iff.mp h10
    have f13 : Fr (w1_f_X11_tested) (w2_f_X11_tested) S128 q134 := (Fr.rf (S := S128)).tr (Fr.mo (fr_f_X11_settles e11) (fun a k q => by unfold w1_f_X11_settles at q; unfold w1_f_X11_tested; rcases q with q | q | q | q; exact Or.inr (Or.inr (Or.inr (Or.inr (Or.inl (q))))); exact Or.inr (Or.inr (Or.inr (Or.inr (Or.inr (Or.inl (q)))))); exact Or.inr (Or.inr (Or.inr (Or.inr (Or.inr (Or.inr (Or.inl (q))))))); exact Or.inr (Or.inr (Or.inr (Or.inr (Or.inr (Or.inr (Or.inr (Or.inl (q))))))))) (fun _ _ q => False.elim q))
    exact fr_e2 h12 f13
  ·
    obtain ⟨q137, e14, h15⟩ := Option.bind_eq_some_iff.mp h10
    have f16 : Fr (w1_f_X11_tested) (w2_f_X11_tested) S128 q137.2 := (Fr.rf (S := S128)).tr (Fr.mo (fr_f_X11_see e14) (fun a k q => by unfold w1_f_X11_see at q; unfold w1_f_X11_tested; exact Or.inl (q)) (fun _ _ q => False.elim q))
    obtain ⟨q140, e17, h18⟩ := Option.bind_eq_some_iff.mp h15
    have f19 : Fr (w1_f_X11_tested) (w2_f_X11_tested) S128 q140.2 := f16.tr (Fr.mo (fr_f_X11_fails e17) (fun a k q => by unfold w1_f_X11_fails at q; unfold w1_f_X11_tested; exact Or.inr (Or.inl (q))) (fun _ _ q => False.elim q))
    obtain ⟨z143, e20, h21⟩ := Option.bind_eq_some_iff.mp h18
    exact fr_e2 h21 f19
def w1_f_X11_isToHere (a k : Nat) : Prop := (a = 145 ∧ k = 13) ∨ (a = 145 ∧ k = 14) ∨ (a = 145 ∧ k = 15) ∨ (a = 145 ∧ k = 17) ∨ (a = 145 ∧ k = 18) ∨ (a = 145 ∧ k = 21) ∨ a = 147 ∨ a = 148 ∨ a = 149 ∨ a = 150 ∨ a = 154
def w2_f_X11_isToHere (a k : Nat) : Prop := False
theorem fr_f_X11_isToHere {S : fS} {r : Int32 × fS} (h : f_X11_isToHere S = some r) : Fr (w1_f_X11_isToHere) (w2_f_X11_isToHere) S r.2 := by
  unfold f_X11_isToHere at h
  obtain ⟨q1, e1, h2⟩ := Option.bind_eq_some_iff.mp h
  have f3 : Fr (w1_f_X11_isToHere) (w2_f_X11_isToHere) S q1 := (Fr.rf (S := S)).tr (Fr.mo (fr_f_X11_passWord e1) (fun a k q => by unfold w1_f_X11_passWord at q; unfold w1_f_X11_isToHere; exact Or.inl (q)) (fun _ _ q => False.elim q))
  obtain ⟨q4, e4, h5⟩ := Option.bind_eq_some_iff.mp h2
  have f6 : Fr (w1_f_X11_isToHere) (w2_f_X11_isToHere) S q4.2 := f3.tr (Fr.mo (fr_f_X11_numberHere e4) (fun a k q => by unfold w1_f_X11_numberHere at q; unfold w1_f_X11_isToHere; rcases q with q | q | q; exact Or.inl (q); exact Or.inr (Or.inl (q)); exact Or.inr (Or.inr (Or.inl (q)))) (fun _ _ q => False.elim q))
  rcases fr_ite h5 with h7 | h7
  ·
    exact fr_e2 h7 f6
  ·
    obtain ⟨a8, e8, h9⟩ := Option.bind_eq_some_iff.mp h7
    obtain ⟨S11, e10, h11⟩ := Option.bind_eq_some_iff.mp h9
    have f12 : Fr (w1_f_X11_isToHere) (w2_f_X11_isToHere) S S11 := f6.tr (fr_sI e10 (fun k => by unfold w1_f_X11_isToHere; exact Or.inr (Or.inr (Or.inr (Or.inr (Or.inr (Or.inr (Or.inr (Or.inr (Or.inl (rfl)))))))))))
    obtain ⟨S14, e13, h14⟩ := Option.bind_eq_some_iff.mp h11
    have f15 : Fr (w1_f_X11_isToHere) (w2_f_X11_isToHere) S S14 := f12.tr (fr_sI e13 (fun k => by unfold w1_f_X11_isToHere; exact Or.inr (Or.inr (Or.inr (Or.inr (Or.inr (Or.inr (Or.inr (Or.inr (Or.inl (rfl)))))))))))
    obtain ⟨q17, e16, h17⟩ := Option.bind_eq_some_iff.mp h14
    have f18 : Fr (w1_f_X11_isToHere) (w2_f_X11_isToHere) S q17.2 := f15.tr (Fr.mo (fr_f_X11_takesWord e16) (fun a k q => by unfold w1_f_X11_takesWord at q; unfold w1_f_X11_isToHere; exact Or.inl (q)) (fun _ _ q => False.elim q))
    rcases fr_ite h17 with h19 | h19
    ·
      obtain ⟨a21, e20, h21⟩ := Option.bind_eq_some_iff.mp h19
      obtain ⟨S24, e22, h23⟩ := Option.bind_eq_some_iff.mp h21
      have f24 : Fr (w1_f_X11_isToHere) (w2_f_X11_isToHere) S S24 := f18.tr (fr_sI e22 (fun k => by unfold w1_f_X11_isToHere; exact Or.inr (Or.inr (Or.inr (Or.inr (Or.inr (Or.inr (Or.inr (Or.inr (Or.inl (rfl)))))))))))
      obtain ⟨a27, e25, h26⟩ := Option.bind_eq_some_iff.mp h23
      obtain ⟨S30, e27, h28⟩ := Option.bind_eq_some_iff.mp h26
      have f29 : Fr (w1_f_X11_isToHere) (w2_f_X11_isToHere) S S30 := f24.tr (fr_sI e27 (fun k => by unfold w1_f_X11_isToHere; exact Or.inr (Or.inr (Or.inr (Or.inr (Or.inr (Or.inr (Or.inr (Or.inr (Or.inr (Or.inl (rfl))))))))))))
      exact fr_e2 h28 f29
    ·
      obtain ⟨a33, e30, h31⟩ := Option.bind_eq_some_iff.mp h19
      obtain ⟨S36, e32, h33⟩ := Option.bind_eq_some_iff.mp h31
      have f34 : Fr (w1_f_X11_isToHere) (w2_f_X11_isToHere) S S36 := f18.tr (fr_sI e32 (fun k => by unfold w1_f_X11_isToHere; exact Or.inr (Or.inr (Or.inr (Or.inr (Or.inr (Or.inr (Or.inr (Or.inr (Or.inl (rfl)))))))))))
      obtain ⟨q39, e35, h36⟩ := Option.bind_eq_some_iff.mp h33
      have f37 : Fr (w1_f_X11_isToHere) (w2_f_X11_isToHere) S q39.2 := f34.tr (Fr.mo (fr_f_X11_tested e35) (fun a k q => by unfold w1_f_X11_tested at q; unfold w1_f_X11_isToHere; rcases q with q | q | q | q | q | q | q | q | q; exact Or.inl (q); exact Or.inr (Or.inl (q)); exact Or.inr (Or.inr (Or.inl (q))); exact Or.inr (Or.inr (Or.inr (Or.inl (q)))); exact Or.inr (Or.inr (Or.inr (Or.inr (Or.inl (q))))); exact Or.inr (Or.inr (Or.inr (Or.inr (Or.inr (Or.inl (q)))))); exact Or.inr (Or.inr (Or.inr (Or.inr (Or.inr (Or.inr (Or.inl (q))))))); exact Or.inr (Or.inr (Or.inr (Or.inr (Or.inr (Or.inr (Or.inr (Or.inl (q)))))))); exact Or.inr (Or.inr (Or.inr (Or.inr (Or.inr (Or.inr (Or.inr (Or.inr (Or.inr (Or.inr ((q)))))))))))) (fun _ _ q => False.elim q))
      rcases fr_ite h36 with h38 | h38
      ·
        exact fr_e2 h38 f37
      ·
        obtain ⟨a43, e39, h40⟩ := Option.bind_eq_some_iff.mp h38
        obtain ⟨S46, e41, h42⟩ := Option.bind_eq_some_iff.mp h40
        have f43 : Fr (w1_f_X11_isToHere) (w2_f_X11_isToHere) S S46 := f37.tr (fr_sI e41 (fun k => by unfold w1_f_X11_isToHere; exact Or.inr (Or.inr (Or.inr (Or.inr (Or.inr (Or.inr (Or.inr (Or.inr (Or.inl (rfl)))))))))))
        obtain ⟨a49, e44, h45⟩ := Option.bind_eq_some_iff.mp h42
        obtain ⟨S52, e46, h47⟩ := Option.bind_eq_some_iff.mp h45
        have f48 : Fr (w1_f_X11_isToHere) (w2_f_X11_isToHere) S S52 := f43.tr (fr_sI e46 (fun k => by unfold w1_f_X11_isToHere; exact Or.inr (Or.inr (Or.inr (Or.inr (Or.inr (Or.inr (Or.inr (Or.inr (Or.inr (Or.inl (rfl))))))))))))
        exact fr_e2 h47 f48
