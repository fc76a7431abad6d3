def w1_lp_X11_isFloorHere_22 (a k : Nat) : Prop := (a = 145 ∧ k = 13) ∨ (a = 145 ∧ k = 14) ∨ (a = 145 ∧ k = 15) ∨ a = 151
def w2_lp_X11_isFloorHere_22 (a k : Nat) : Prop := False
theorem fr_lp_X11_isFloorHere_22 {K : fS → Option (Int32 × fS)} {r : Int32 × fS} {v1 v2 : Nat → Nat → Prop} (s1 : ∀ a k, w1_lp_X11_isFloorHere_22 a k → v1 a k) (s2 : ∀ a k, w2_lp_X11_isFloorHere_22 a k → v2 a k) (hK : ∀ (x0 : fS), K x0 = some r → Fr v1 v2 x0 r.2) : ∀ (n : Nat) (p2 : Int32) (S0 : fS), lp_X11_isFloorHere_22 K n p2 S0 = some r → Fr v1 v2 S0 r.2 := by
  intro n
  induction n with
  | zero => intro p2 S0 h; exact mm_no h
  | succ n ih =>
    intro p2 S0 h
    rw [lp_X11_isFloorHere_22.eq_2] at h
    rcases fr_ite h with h1 | h1
    ·
      exact (Fr.rf (S := S0)).tr (hK _ h1)
    ·
      obtain ⟨q6, e2, h3⟩ := Option.bind_eq_some_iff.mp h1
      have f4 : Fr v1 v2 S0 q6.2 := (Fr.rf (S := S0)).tr (Fr.mo (fr_f_X11_numberHere e2) (fun a k q => by refine s1 _ _ ?_; unfold w1_f_X11_numberHere at q; unfold w1_lp_X11_isFloorHere_22; rcases q with q | q | q; exact Or.inl (q); exact Or.inr (Or.inl (q)); exact Or.inr (Or.inr (Or.inl (q)))) (fun _ _ q => False.elim q))
      rcases fr_ite h3 with h5 | h5
      ·
        exact fr_e2 h5 f4
      ·
        obtain ⟨S10, e6, h7⟩ := Option.bind_eq_some_iff.mp h5
        have f8 : Fr v1 v2 S0 S10 := f4.tr (fr_sI e6 (fun k => by refine s1 _ _ ?_; unfold w1_lp_X11_isFloorHere_22; exact Or.inr (Or.inr (Or.inr ((rfl))))))
        exact f8.tr (ih _ _ h7)
def w1_f_X11_isFloorHere (a k : Nat) : Prop := (a = 145 ∧ k = 7) ∨ (a = 145 ∧ k = 13) ∨ (a = 145 ∧ k = 14) ∨ (a = 145 ∧ k = 15) ∨ a = 151
def w2_f_X11_isFloorHere (a k : Nat) : Prop := False
theorem fr_f_X11_isFloorHere {v1 : Int32} {S : fS} {r : Int32 × fS} (h : f_X11_isFloorHere v1 S = some r) : Fr (w1_f_X11_isFloorHere) (w2_f_X11_isFloorHere) S r.2 := by
  unfold f_X11_isFloorHere at h
  rcases fr_ite h with h1 | h1
  ·
    obtain ⟨q18, e2, h3⟩ := Option.bind_eq_some_iff.mp h1
    have f4 : Fr (w1_f_X11_isFloorHere) (w2_f_X11_isFloorHere) S q18.2 := (Fr.rf (S := S)).tr (Fr.mo (fr_f_X11_fails e2) (fun a k q => by unfold w1_f_X11_fails at q; unfold w1_f_X11_isFloorHere; exact Or.inr (Or.inr (Or.inl (q)))) (fun _ _ q => False.elim q))
    obtain ⟨z21, e5, h6⟩ := Option.bind_eq_some_iff.mp h3
    exact fr_e2 h6 f4
  ·
    obtain ⟨q2, e7, h8⟩ := Option.bind_eq_some_iff.mp h1
    have f9 : Fr (w1_f_X11_isFloorHere) (w2_f_X11_isFloorHere) S q2 := (Fr.rf (S := S)).tr (Fr.mo (fr_f_X11_passWord e7) (fun a k q => by unfold w1_f_X11_passWord at q; unfold w1_f_X11_isFloorHere; exact Or.inr (Or.inl (q))) (fun _ _ q => False.elim q))
    refine f9.tr (fr_lp_X11_isFloorHere_22 (v1 := w1_f_X11_isFloorHere) (v2 := w2_f_X11_isFloorHere) (fun a k q => by unfold w1_lp_X11_isFloorHere_22 at q; unfold w1_f_X11_isFloorHere; rcases q with q | q | q | q; exact Or.inr (Or.inl (q)); exact Or.inr (Or.inr (Or.inl (q))); exact Or.inr (Or.inr (Or.inr (Or.inl (q)))); exact Or.inr (Or.inr (Or.inr (Or.inr ((q)))))) (fun _ _ q => False.elim q) (fun S13 h10 => ?_) _ _ _ h8)
    obtain ⟨S15, e11, h12⟩ := Option.bind_eq_some_iff.mp h10
    have f13 : Fr (w1_f_X11_isFloorHere) (w2_f_X11_isFloorHere) S13 S15 := (Fr.rf (S := S13)).tr (fr_pI e11 (by unfold w1_f_X11_isFloorHere; exact Or.inl (⟨rfl, rfl⟩)))
    exact fr_e2 h12 f13
def w1_lp_X11_isStairHere_114 (a k : Nat) : Prop := (a = 145 ∧ k = 13) ∨ (a = 145 ∧ k = 14) ∨ (a = 145 ∧ k = 15) ∨ a = 152
def w2_lp_X11_isStairHere_114 (a k : Nat) : Prop := False
theorem fr_lp_X11_isStairHere_114 {p2 : Int32} {K : fS → Option (Int32 × fS)} {r : Int32 × fS} {v1 v2 : Nat → Nat → Prop} (s1 : ∀ a k, w1_lp_X11_isStairHere_114 a k → v1 a k) (s2 : ∀ a k, w2_lp_X11_isStairHere_114 a k → v2 a k) (hK : ∀ (x0 : fS), K x0 = some r → Fr v1 v2 x0 r.2) : ∀ (n : Nat) (p4 : Int32) (S0 : fS), lp_X11_isStairHere_114 p2 K n p4 S0 = some r → Fr v1 v2 S0 r.2 := by
  intro n
  induction n with
  | zero => intro p4 S0 h; exact mm_no h
  | succ n ih =>
    intro p4 S0 h
    rw [lp_X11_isStairHere_114.eq_2] at h
    rcases fr_ite h with h1 | h1
    ·
      exact (Fr.rf (S := S0)).tr (hK _ h1)
    ·
      rcases fr_ite h1 with h2 | h2
      ·
        obtain ⟨q35, e3, h4⟩ := Option.bind_eq_some_iff.mp h2
        have f5 : Fr v1 v2 S0 q35.2 := (Fr.rf (S := S0)).tr (Fr.mo (fr_f_X11_numberHere e3) (fun a k q => by refine s1 _ _ ?_; unfold w1_f_X11_numberHere at q; unfold w1_lp_X11_isStairHere_114; rcases q with q | q | q; exact Or.inl (q); exact Or.inr (Or.inl (q)); exact Or.inr (Or.inr (Or.inl (q)))) (fun _ _ q => False.elim q))
        rcases fr_ite h4 with h6 | h6
        ·
          exact fr_e2 h6 f5
        ·
          obtain ⟨S39, e7, h8⟩ := Option.bind_eq_some_iff.mp h6
          have f9 : Fr v1 v2 S0 S39 := f5.tr (fr_sI e7 (fun k => by refine s1 _ _ ?_; unfold w1_lp_X11_isStairHere_114; exact Or.inr (Or.inr (Or.inr ((rfl))))))
          exact f9.tr (ih _ _ h8)
      ·
        obtain ⟨q28, e10, h11⟩ := Option.bind_eq_some_iff.mp h2
        have f12 : Fr v1 v2 S0 q28.2 := (Fr.rf (S := S0)).tr (Fr.mo (fr_f_X11_numberHere e10) (fun a k q => by refine s1 _ _ ?_; unfold w1_f_X11_numberHere at q; unfold w1_lp_X11_isStairHere_114; rcases q with q | q | q; exact Or.inl (q); exact Or.inr (Or.inl (q)); exact Or.inr (Or.inr (Or.inl (q)))) (fun _ _ q => False.elim q))
        rcases fr_ite h11 with h13 | h13
        ·
          exact fr_e2 h13 f12
        ·
          obtain ⟨S32, e14, h15⟩ := Option.bind_eq_some_iff.mp h13
          have f16 : Fr v1 v2 S0 S32 := f12.tr (fr_sI e14 (fun k => by refine s1 _ _ ?_; unfold w1_lp_X11_isStairHere_114; exact Or.inr (Or.inr (Or.inr ((rfl))))))
          exact f16.tr (ih _ _ h15)
def w1_f_X11_isStairHere (a k : Nat) : Prop := (a = 145 ∧ k = 8) ∨ (a = 145 ∧ k = 13) ∨ (a = 145 ∧ k = 14) ∨ (a = 145 ∧ k = 15) ∨ a = 152
def w2_f_X11_isStairHere (a k : Nat) : Prop := False
theorem fr_f_X11_isStairHere {v1 : Int32} {S : fS} {r : Int32 × fS} (h : f_X11_isStairHere v1 S = some r) : Fr (w1_f_X11_isStairHere) (w2_f_X11_isStairHere) S r.2 := by
  unfold f_X11_isStairHere at h
  rcases fr_ite h with h1 | h1
  ·
    obtain ⟨q55, e2, h3⟩ := Option.bind_eq_some_iff.mp h1
    have f4 : Fr (w1_f_X11_isStairHere) (w2_f_X11_isStairHere) S q55.2 := (Fr.rf (S := S)).tr (Fr.mo (fr_f_X11_fails e2) (fun a k q => by unfold w1_f_X11_fails at q; unfold w1_f_X11_isStairHere; exact Or.inr (Or.inr (Or.inl (q)))) (fun _ _ q => False.elim q))
    obtain ⟨z58, e5, h6⟩ := Option.bind_eq_some_iff.mp h3
    exact fr_e2 h6 f4
  ·
    obtain ⟨q2, e7, h8⟩ := Option.bind_eq_some_iff.mp h1
    have f9 : Fr (w1_f_X11_isStairHere) (w2_f_X11_isStairHere) S q2 := (Fr.rf (S := S)).tr (Fr.mo (fr_f_X11_passWord e7) (fun a k q => by unfold w1_f_X11_passWord at q; unfold w1_f_X11_isStairHere; exact Or.inr (Or.inl (q))) (fun _ _ q => False.elim q))
    obtain ⟨q5, e10, h11⟩ := Option.bind_eq_some_iff.mp h8
    have f12 : Fr (w1_f_X11_isStairHere) (w2_f_X11_isStairHere) S q5.2 := f9.tr (Fr.mo (fr_f_X11_numberHere e10) (fun a k q => by unfold w1_f_X11_numberHere at q; unfold w1_f_X11_isStairHere; rcases q with q | q | q; exact Or.inr (Or.inl (q)); exact Or.inr (Or.inr (Or.inl (q))); exact Or.inr (Or.inr (Or.inr (Or.inl (q))))) (fun _ _ q => False.elim q))
    rcases fr_ite h11 with h13 | h13
    ·
      exact fr_e2 h13 f12
    ·
      obtain ⟨S9, e14, h15⟩ := Option.bind_eq_some_iff.mp h13
      have f16 : Fr (w1_f_X11_isStairHere) (w2_f_X11_isStairHere) S S9 := f12.tr (fr_sI e14 (fun k => by unfold w1_f_X11_isStairHere; exact Or.inr (Or.inr (Or.inr (Or.inr ((rfl)))))))
      obtain ⟨q12, e17, h18⟩ := Option.bind_eq_some_iff.mp h15
      have f19 : Fr (w1_f_X11_isStairHere) (w2_f_X11_isStairHere) S q12.2 := f16.tr (Fr.mo (fr_f_X11_see e17) (fun a k q => by unfold w1_f_X11_see at q; unfold w1_f_X11_isStairHere; exact Or.inr (Or.inl (q))) (fun _ _ q => False.elim q))
      obtain ⟨q15, e20, h21⟩ := Option.bind_eq_some_iff.mp h18
      have f22 : Fr (w1_f_X11_isStairHere) (w2_f_X11_isStairHere) S q15.2 := f19.tr (Fr.mo (fr_f_X11_numberHere e20) (fun a k q => by unfold w1_f_X11_numberHere at q; unfold w1_f_X11_isStairHere; rcases q with q | q | q; exact Or.inr (Or.inl (q)); exact Or.inr (Or.inr (Or.inl (q))); exact Or.inr (Or.inr (Or.inr (Or.inl (q))))) (fun _ _ q => False.elim q))
      rcases fr_ite h21 with h23 | h23
      ·
        exact fr_e2 h23 f22
      ·
        obtain ⟨a19, e24, h25⟩ := Option.bind_eq_some_iff.mp h23
        rcases fr_ite h25 with h26 | h26
        ·
          obtain ⟨q47, e27, h28⟩ := Option.bind_eq_some_iff.mp h26
          have f29 : Fr (w1_f_X11_isStairHere) (w2_f_X11_isStairHere) S q47.2 := f22.tr (Fr.mo (fr_f_X11_fails e27) (fun a k q => by unfold w1_f_X11_fails at q; unfold w1_f_X11_isStairHere; exact Or.inr (Or.inr (Or.inl (q)))) (fun _ _ q => False.elim q))
          obtain ⟨z50, e30, h31⟩ := Option.bind_eq_some_iff.mp h28
          exact fr_e2 h31 f29
        ·
          obtain ⟨S23, e32, h33⟩ := Option.bind_eq_some_iff.mp h26
          have f34 : Fr (w1_f_X11_isStairHere) (w2_f_X11_isStairHere) S S23 := f22.tr (fr_sI e32 (fun k => by unfold w1_f_X11_isStairHere; exact Or.inr (Or.inr (Or.inr (Or.inr ((rfl)))))))
          refine f34.tr (fr_lp_X11_isStairHere_114 (v1 := w1_f_X11_isStairHere) (v2 := w2_f_X11_isStairHere) (fun a k q => by unfold w1_lp_X11_isStairHere_114 at q; unfold w1_f_X11_isStairHere; rcases q with q | q | q | q; exact Or.inr (Or.inl (q)); exact Or.inr (Or.inr (Or.inl (q))); exact Or.inr (Or.inr (Or.inr (Or.inl (q)))); exact Or.inr (Or.inr (Or.inr (Or.inr ((q)))))) (fun _ _ q => False.elim q) (fun S42 h35 => ?_) _ _ _ h33)
          obtain ⟨S44, e36, h37⟩ := Option.bind_eq_some_iff.mp h35
          have f38 : Fr (w1_f_X11_isStairHere) (w2_f_X11_isStairHere) S42 S44 := (Fr.rf (S := S42)).tr (fr_pI e36 (by unfold w1_f_X11_isStairHere; exact Or.inl (⟨rfl, rfl⟩)))
          exact fr_e2 h37 f38
def w1_f_X11_isThingHere (a k : Nat) : Prop := (a = 145 ∧ k = 9) ∨ (a = 145 ∧ k = 13) ∨ (a = 145 ∧ k = 14) ∨ (a = 145 ∧ k = 15) ∨ a = 153
def w2_f_X11_isThingHere (a k : Nat) : Prop := False
theorem fr_f_X11_isThingHere {v1 : Int32} {S : fS} {r : Int32 × fS} (h : f_X11_isThingHere v1 S = some r) : Fr (w1_f_X11_isThingHere) (w2_f_X11_isThingHere) S r.2 := by
  unfold f_X11_isThingHere at h
  rcases fr_ite h with h1 | h1
  ·
    obtain ⟨q15, e2, h3⟩ := Option.bind_eq_some_iff.mp h1
    have f4 : Fr (w1_f_X11_isThingHere) (w2_f_X11_isThingHere) S q15.2 := (Fr.rf (S := S)).tr (Fr.mo (fr_f_X11_fails e2) (fun a k q => by unfold w1_f_X11_fails at q; unfold w1_f_X11_isThingHere; exact Or.inr (Or.inr (Or.inl (q)))) (fun _ _ q => False.elim q))
    obtain ⟨z18, e5, h6⟩ := Option.bind_eq_some_iff.mp h3
    exact fr_e2 h6 f4
  ·
    obtain ⟨q2, e7, h8⟩ := Option.bind_eq_some_iff.mp h1
    have f9 : Fr (w1_f_X11_isThingHere) (w2_f_X11_isThingHere) S q2 := (Fr.rf (S := S)).tr (Fr.mo (fr_f_X11_passWord e7) (fun a k q => by unfold w1_f_X11_passWord at q; unfold w1_f_X11_isThingHere; exact Or.inr (Or.inl (q))) (fun _ _ q => False.elim q))
    obtain ⟨q5, e10, h11⟩ := Option.bind_eq_some_iff.mp h8
    have f12 : Fr (w1_f_X11_isThingHere) (w2_f_X11_isThingHere) S q5.2 := f9.tr (Fr.mo (fr_f_X11_numberHere e10) (fun a k q => by unfold w1_f_X11_numberHere at q; unfold w1_f_X11_isThingHere; rcases q with q | q | q; exact Or.inr (Or.inl (q)); exact Or.inr (Or.inr (Or.inl (q))); exact Or.inr (Or.inr (Or.inr (Or.inl (q))))) (fun _ _ q => False.elim q))
    rcases fr_ite h11 with h13 | h13
    ·
      exact fr_e2 h13 f12
    ·
      obtain ⟨S9, e14, h15⟩ := Option.bind_eq_some_iff.mp h13
      have f16 : Fr (w1_f_X11_isThingHere) (w2_f_X11_isThingHere) S S9 := f12.tr (fr_sI e14 (fun k => by unfold w1_f_X11_isThingHere; exact Or.inr (Or.inr (Or.inr (Or.inr ((rfl)))))))
      obtain ⟨S12, e17, h18⟩ := Option.bind_eq_some_iff.mp h15
      have f19 : Fr (w1_f_X11_isThingHere) (w2_f_X11_isThingHere) S S12 := f16.tr (fr_pI e17 (by unfold w1_f_X11_isThingHere; exact Or.inl (⟨rfl, rfl⟩)))
      exact fr_e2 h18 f19
def w1_j_X11_clauseHere_171 (a k : Nat) : Prop := False
def w2_j_X11_clauseHere_171 (a k : Nat) : Prop := False
theorem fr_j_X11_clauseHere_171 {s0 : Int32} {S : fS} {r : Int32 × fS} (h : j_X11_clauseHere_171 s0 S = some r) : Fr (w1_j_X11_clauseHere_171) (w2_j_X11_clauseHere_171) S r.2 := by
  unfold j_X11_clauseHere_171 at h
  obtain ⟨z27, e1, h2⟩ := Option.bind_eq_some_iff.mp h
  exact fr_e2 h2 (Fr.rf (S := S))
def w1_j_X11_clauseHere_101 (a k : Nat) : Prop := (a = 145 ∧ k = 7) ∨ (a = 145 ∧ k = 8) ∨ (a = 145 ∧ k = 9) ∨ (a = 145 ∧ k = 13) ∨ (a = 145 ∧ k = 14) ∨ (a = 145 ∧ k = 15) ∨ (a = 145 ∧ k = 17) ∨ (a = 145 ∧ k = 18) ∨ (a = 145 ∧ k = 19) ∨ (a = 145 ∧ k = 21) ∨ a = 147 ∨ a = 148 ∨ a = 149 ∨ a = 150 ∨ a = 151 ∨ a = 152 ∨ a = 153 ∨ a = 154
def w2_j_X11_clauseHere_101 (a k : Nat) : Prop := False
theorem fr_j_X11_clauseHere_101 {p1 : Int32} {p2 : Int32} {s0 : Int32} {s1 : Int32} {S : fS} {r : Int32 × fS} (h : j_X11_clauseHere_101 p1 p2 s0 s1 S = some r) : Fr (w1_j_X11_clauseHere_101) (w2_j_X11_clauseHere_101) S r.2 := by
  unfold j_X11_clauseHere_101 at h
  rcases fr_ite h with h1 | h1
  ·
    obtain ⟨q46, e2, h3⟩ := Option.bind_eq_some_iff.mp h1
    have f4 : Fr (w1_j_X11_clauseHere_101) (w2_j_X11_clauseHere_101) S q46.2 := (Fr.rf (S := S)).tr (Fr.mo (fr_f_X11_fails e2) (fun a k q => by unfold w1_f_X11_fails at q; unfold w1_j_X11_clauseHere_101; exact Or.inr (Or.inr (Or.inr (Or.inr (Or.inl (q)))))) (fun _ _ q => False.elim q))
    obtain ⟨z49, e5, h6⟩ := Option.bind_eq_some_iff.mp h3
    exact fr_e2 h6 f4
  ·
    obtain ⟨S12, e7, h8⟩ := Option.bind_eq_some_iff.mp h1
    have f9 : Fr (w1_j_X11_clauseHere_101) (w2_j_X11_clauseHere_101) S S12 := (Fr.rf (S := S)).tr (fr_pI e7 (by unfold w1_j_X11_clauseHere_101; exact Or.inr (Or.inr (Or.inr (Or.inr (Or.inr (Or.inr (Or.inr (Or.inr (Or.inl (⟨rfl, rfl⟩)))))))))))
    rcases fr_ite h8 with h10 | h10
    ·
      obtain ⟨q38, e11, h12⟩ := Option.bind_eq_some_iff.mp h10
      have f13 : Fr (w1_j_X11_clauseHere_101) (w2_j_X11_clauseHere_101) S q38.2 := f9.tr (Fr.mo (fr_f_X11_isToHere e11) (fun a k q => by unfold w1_f_X11_isToHere at q; unfold w1_j_X11_clauseHere_101; rcases q with q | q | q | q | q | q | q | q | q | q | q; exact Or.inr (Or.inr (Or.inr (Or.inl (q)))); exact Or.inr (Or.inr (Or.inr (Or.inr (Or.inl (q))))); exact Or.inr (Or.inr (Or.inr (Or.inr (Or.inr (Or.inl (q)))))); exact Or.inr (Or.inr (Or.inr (Or.inr (Or.inr (Or.inr (Or.inl (q))))))); exact Or.inr (Or.inr (Or.inr (Or.inr (Or.inr (Or.inr (Or.inr (Or.inl (q)))))))); exact Or.inr (Or.inr (Or.inr (Or.inr (Or.inr (Or.inr (Or.inr (Or.inr (Or.inr (Or.inl (q)))))))))); exact Or.inr (Or.inr (Or.inr (Or.inr (Or.inr (Or.inr (Or.inr (Or.inr (Or.inr (Or.inr (Or.inl (q))))))))))); exact Or.inr (Or.inr (Or.inr (Or.inr (Or.inr (Or.inr (Or.inr (Or.inr (Or.inr (Or.inr (Or.inr (Or.inl (q)))))))))))); exact Or.inr (Or.inr (Or.inr (Or.inr (Or.inr (Or.inr (Or.inr (Or.inr (Or.inr (Or.inr (Or.inr (Or.inr (Or.inl (q))))))))))))); exact Or.inr (Or.inr (Or.inr (Or.inr (Or.inr (Or.inr (Or.inr (Or.inr (Or.inr (Or.inr (Or.inr (Or.inr (Or.inr (Or.inl (q)))))))))))))); exact Or.inr (Or.inr (Or.inr (Or.inr (Or.inr (Or.inr (Or.inr (Or.inr (Or.inr (Or.inr (Or.inr (Or.inr (Or.inr (Or.inr (Or.inr (Or.inr (Or.inr ((q))))))))))))))))))) (fun _ _ q => False.elim q))
      obtain ⟨z41, e14, h15⟩ := Option.bind_eq_some_iff.mp h12
      exact fr_e2 h15 f13
    ·
      obtain ⟨q16, e16, h17⟩ := Option.bind_eq_some_iff.mp h10
      have f18 : Fr (w1_j_X11_clauseHere_101) (w2_j_X11_clauseHere_101) S q16.2 := f9.tr (Fr.mo (fr_f_X11_isWord e16) (fun a k q => by unfold w1_f_X11_isWord at q; unfold w1_j_X11_clauseHere_101; exact Or.inr (Or.inr (Or.inr (Or.inl (q))))) (fun _ _ q => False.elim q))
      rcases fr_ite h17 with h19 | h19
      ·
        obtain ⟨q20, e20, h21⟩ := Option.bind_eq_some_iff.mp h19
        have f22 : Fr (w1_j_X11_clauseHere_101) (w2_j_X11_clauseHere_101) S q20.2 := f18.tr (Fr.mo (fr_f_X11_isWord e20) (fun a k q => by unfold w1_f_X11_isWord at q; unfold w1_j_X11_clauseHere_101; exact Or.inr (Or.inr (Or.inr (Or.inl (q))))) (fun _ _ q => False.elim q))
        rcases fr_ite h21 with h23 | h23
        ·
          obtain ⟨q24, e24, h25⟩ := Option.bind_eq_some_iff.mp h23
          have f26 : Fr (w1_j_X11_clauseHere_101) (w2_j_X11_clauseHere_101) S q24.2 := f22.tr (Fr.mo (fr_f_X11_isThingHere e24) (fun a k q => by unfold w1_f_X11_isThingHere at q; unfold w1_j_X11_clauseHere_101; rcases q with q | q | q | q | q; exact Or.inr (Or.inr (Or.inl (q))); exact Or.inr (Or.inr (Or.inr (Or.inl (q)))); exact Or.inr (Or.inr (Or.inr (Or.inr (Or.inl (q))))); exact Or.inr (Or.inr (Or.inr (Or.inr (Or.inr (Or.inl (q)))))); exact Or.inr (Or.inr (Or.inr (Or.inr (Or.inr (Or.inr (Or.inr (Or.inr (Or.inr (Or.inr (Or.inr (Or.inr (Or.inr (Or.inr (Or.inr (Or.inr (Or.inl (q)))))))))))))))))) (fun _ _ q => False.elim q))
          exact f26.tr (Fr.mo (fr_j_X11_clauseHere_171 h25) (fun _ _ q => False.elim q) (fun _ _ q => False.elim q))
        ·
          obtain ⟨q32, e27, h28⟩ := Option.bind_eq_some_iff.mp h23
          have f29 : Fr (w1_j_X11_clauseHere_101) (w2_j_X11_clauseHere_101) S q32.2 := f22.tr (Fr.mo (fr_f_X11_isStairHere e27) (fun a k q => by unfold w1_f_X11_isStairHere at q; unfold w1_j_X11_clauseHere_101; rcases q with q | q | q | q | q; exact Or.inr (Or.inl (q)); exact Or.inr (Or.inr (Or.inr (Or.inl (q)))); exact Or.inr (Or.inr (Or.inr (Or.inr (Or.inl (q))))); exact Or.inr (Or.inr (Or.inr (Or.inr (Or.inr (Or.inl (q)))))); exact Or.inr (Or.inr (Or.inr (Or.inr (Or.inr (Or.inr (Or.inr (Or.inr (Or.inr (Or.inr (Or.inr (Or.inr (Or.inr (Or.inr (Or.inr (Or.inl (q))))))))))))))))) (fun _ _ q => False.elim q))
          exact f29.tr (Fr.mo (fr_j_X11_clauseHere_171 h28) (fun _ _ q => False.elim q) (fun _ _ q => False.elim q))
      ·
        obtain ⟨q35, e30, h31⟩ := Option.bind_eq_some_iff.mp h19
        have f32 : Fr (w1_j_X11_clauseHere_101) (w2_j_X11_clauseHere_101) S q35.2 := f18.tr (Fr.mo (fr_f_X11_isFloorHere e30) (fun a k q => by unfold w1_f_X11_isFloorHere at q; unfold w1_j_X11_clauseHere_101; rcases q with q | q | q | q | q; exact Or.inl (q); exact Or.inr (Or.inr (Or.inr (Or.inl (q)))); exact Or.inr (Or.inr (Or.inr (Or.inr (Or.inl (q))))); exact Or.inr (Or.inr (Or.inr (Or.inr (Or.inr (Or.inl (q)))))); exact Or.inr (Or.inr (Or.inr (Or.inr (Or.inr (Or.inr (Or.inr (Or.inr (Or.inr (Or.inr (Or.inr (Or.inr (Or.inr (Or.inr (Or.inl (q)))))))))))))))) (fun _ _ q => False.elim q))
        exact f32.tr (Fr.mo (fr_j_X11_clauseHere_171 h31) (fun _ _ q => False.elim q) (fun _ _ q => False.elim q))
def w1_j_X11_clauseHere_74 (a k : Nat) : Prop := (a = 145 ∧ k = 7) ∨ (a = 145 ∧ k = 8) ∨ (a = 145 ∧ k = 9) ∨ (a = 145 ∧ k = 13) ∨ (a = 145 ∧ k = 14) ∨ (a = 145 ∧ k = 15) ∨ (a = 145 ∧ k = 17) ∨ (a = 145 ∧ k = 18) ∨ (a = 145 ∧ k = 19) ∨ (a = 145 ∧ k = 21) ∨ a = 147 ∨ a = 148 ∨ a = 149 ∨ a = 150 ∨ a = 151 ∨ a = 152 ∨ a = 153 ∨ a = 154
def w2_j_X11_clauseHere_74 (a k : Nat) : Prop := False
theorem fr_j_X11_clauseHere_74 {p1 : Int32} {p2 : Int32} {s0 : Int32} {S : fS} {r : Int32 × fS} (h : j_X11_clauseHere_74 p1 p2 s0 S = some r) : Fr (w1_j_X11_clauseHere_74) (w2_j_X11_clauseHere_74) S r.2 := by
  unfold j_X11_clauseHere_74 at h
  rcases fr_ite h with h1 | h1
  ·
    obtain ⟨q54, e2, h3⟩ := Option.bind_eq_some_iff.mp h1
    have f4 : Fr (w1_j_X11_clauseHere_74) (w2_j_X11_clauseHere_74) S q54.2 := (Fr.rf (S := S)).tr (Fr.mo (fr_f_X11_fails e2) (fun a k q => by unfold w1_f_X11_fails at q; unfold w1_j_X11_clauseHere_74; exact Or.inr (Or.inr (Or.inr (Or.inr (Or.inl (q)))))) (fun _ _ q => False.elim q))
    obtain ⟨z57, e5, h6⟩ := Option.bind_eq_some_iff.mp h3
    exact fr_e2 h6 f4
  ·
    rcases fr_ite h1 with h7 | h7
    ·
      exact (Fr.rf (S := S)).tr (Fr.mo (fr_j_X11_clauseHere_101 h7) (fun a k q => by unfold w1_j_X11_clauseHere_101 at q; unfold w1_j_X11_clauseHere_74; rcases q with q | q | q | q | q | q | q | q | q | q | q | q | q | q | q | q | q | q; exact Or.inl (q); exact Or.inr (Or.inl (q)); exact Or.inr (Or.inr (Or.inl (q))); exact Or.inr (Or.inr (Or.inr (Or.inl (q)))); exact Or.inr (Or.inr (Or.inr (Or.inr (Or.inl (q))))); exact Or.inr (Or.inr (Or.inr (Or.inr (Or.inr (Or.inl (q)))))); exact Or.inr (Or.inr (Or.inr (Or.inr (Or.inr (Or.inr (Or.inl (q))))))); exact Or.inr (Or.inr (Or.inr (Or.inr (Or.inr (Or.inr (Or.inr (Or.inl (q)))))))); exact Or.inr (Or.inr (Or.inr (Or.inr (Or.inr (Or.inr (Or.inr (Or.inr (Or.inl (q))))))))); exact Or.inr (Or.inr (Or.inr (Or.inr (Or.inr (Or.inr (Or.inr (Or.inr (Or.inr (Or.inl (q)))))))))); exact Or.inr (Or.inr (Or.inr (Or.inr (Or.inr (Or.inr (Or.inr (Or.inr (Or.inr (Or.inr (Or.inl (q))))))))))); exact Or.inr (Or.inr (Or.inr (Or.inr (Or.inr (Or.inr (Or.inr (Or.inr (Or.inr (Or.inr (Or.inr (Or.inl (q)))))))))))); exact Or.inr (Or.inr (Or.inr (Or.inr (Or.inr (Or.inr (Or.inr (Or.inr (Or.inr (Or.inr (Or.inr (Or.inr (Or.inl (q))))))))))))); exact Or.inr (Or.inr (Or.inr (Or.inr (Or.inr (Or.inr (Or.inr (Or.inr (Or.inr (Or.inr (Or.inr (Or.inr (Or.inr (Or.inl (q)))))))))))))); exact Or.inr (Or.inr (Or.inr (Or.inr (Or.inr (Or.inr (Or.inr (Or.inr (Or.inr (Or.inr (Or.inr (Or.inr (Or.inr (Or.inr (Or.inl (q))))))))))))))); exact Or.inr (Or.inr (Or.inr (Or.inr (Or.inr (Or.inr (Or.inr (Or.inr (Or.inr (Or.inr (Or.inr (Or.inr (Or.inr (Or.inr (Or.inr (Or.inl (q)))))))))))))))); exact Or.inr (Or.inr (Or.inr (Or.inr (Or.inr (Or.inr (Or.inr (Or.inr (Or.inr (Or.inr (Or.inr (Or.inr (Or.inr (Or.inr (Or.inr (Or.inr (Or.inl (q))))))))))))))))); exact Or.inr (Or.inr (Or.inr (Or.inr (Or.inr (Or.inr (Or.inr (Or.inr (Or.inr (Or.inr (Or.inr (Or.inr (Or.inr (Or.inr (Or.inr (Or.inr (Or.inr ((q))))))))))))))))))) (fun _ _ q => False.elim q))
    ·
      exact (Fr.rf (S := S)).tr (Fr.mo (fr_j_X11_clauseHere_101 h7) (fun a k q => by unfold w1_j_X11_clauseHere_101 at q; unfold w1_j_X11_clauseHere_74; rcases q with q | q | q | q | q | q | q | q | q | q | q | q | q | q | q | q | q | q; exact Or.inl (q); exact Or.inr (Or.inl (q)); exact Or.inr (Or.inr (Or.inl (q))); exact Or.inr (Or.inr (Or.inr (Or.inl (q)))); exact Or.inr (Or.inr (Or.inr (Or.inr (Or.inl (q))))); exact Or.inr (Or.inr (Or.inr (Or.inr (Or.inr (Or.inl (q)))))); exact Or.inr (Or.inr (Or.inr (Or.inr (Or.inr (Or.inr (Or.inl (q))))))); exact Or.inr (Or.inr (Or.inr (Or.inr (Or.inr (Or.inr (Or.inr (Or.inl (q)))))))); exact Or.inr (Or.inr (Or.inr (Or.inr (Or.inr (Or.inr (Or.inr (Or.inr (Or.inl (q))))))))); exact Or.inr (Or.inr (Or.inr (Or.inr (Or.inr (Or.inr (Or.inr (Or.inr (Or.inr (Or.inl (q)))))))))); exact Or.inr (Or.inr (Or.inr (Or.inr (Or.inr (Or.inr (Or.inr (Or.inr (Or.inr (Or.inr (Or.inl (q))))))))))); exact Or.inr (Or.inr (Or.inr (Or.inr (Or.inr (Or.inr (Or.inr (Or.inr (Or.inr (Or.inr (Or.inr (Or.inl (q)))))))))))); exact Or.inr (Or.inr (Or.inr (Or.inr (Or.inr (Or.inr (Or.inr (Or.inr (Or.inr (Or.inr (Or.inr (Or.inr (Or.inl (q))))))))))))); exact Or.inr (Or.inr (Or.inr (Or.inr (Or.inr (Or.inr (Or.inr (Or.inr (Or.inr (Or.inr (Or.inr (Or.inr (Or.inr (Or.inl (q)))))))))))))); exact Or.inr (Or.inr (Or.inr (Or.inr (Or.inr (Or.inr (Or.inr (Or.inr (Or.inr (Or.inr (Or.inr (Or.inr (Or.inr (Or.inr (Or.inl (q))))))))))))))); exact Or.inr (Or.inr (Or.inr (Or.inr (Or.inr (Or.inr (Or.inr (Or.inr (Or.inr (Or.inr (Or.inr (Or.inr (Or.inr (Or.inr (Or.inr (Or.inl (q)))))))))))))))); exact Or.inr (Or.inr (Or.inr (Or.inr (Or.inr (Or.inr (Or.inr (Or.inr (Or.inr (Or.inr (Or.inr (Or.inr (Or.inr (Or.inr (Or.inr (Or.inr (Or.inl (q))))))))))))))))); exact Or.inr (Or.inr (Or.inr (Or.inr (Or.inr (Or.inr (Or.inr (Or.inr (Or.inr (Or.inr (Or.inr (Or.inr (Or.inr (Or.inr (Or.inr (Or.inr (Or.inr ((q))))))))))))))))))) (fun _ _ q => False.elim q))
def w1_j_X11_clauseHere_59 (a k : Nat) : Prop := (a = 145 ∧ k = 7) ∨ (a = 145 ∧ k = 8) ∨ (a = 145 ∧ k = 9) ∨ (a = 145 ∧ k = 13) ∨ (a = 145 ∧ k = 14) ∨ (a = 145 ∧ k = 15) ∨ (a = 145 ∧ k = 17) ∨ (a = 145 ∧ k = 18) ∨ (a = 145 ∧ k = 19) ∨ (a = 145 ∧ k = 21) ∨ a = 147 ∨ a = 148 ∨ a = 149 ∨ a = 150 ∨ a = 151 ∨ a = 152 ∨ a = 153 ∨ a = 154
def w2_j_X11_clauseHere_59 (a k : Nat) : Prop := False
theorem fr_j_X11_clauseHere_59 {p1 : Int32} {p2 : Int32} {S : fS} {r : Int32 × fS} (h : j_X11_clauseHere_59 p1 p2 S = some r) : Fr (w1_j_X11_clauseHere_59) (w2_j_X11_clauseHere_59) S r.2 := by
  unfold j_X11_clauseHere_59 at h
  exact (Fr.rf (S := S)).tr (Fr.mo (fr_j_X11_clauseHere_74 h) (fun a k q => by unfold w1_j_X11_clauseHere_74 at q; unfold w1_j_X11_clauseHere_59; rcases q with q | q | q | q | q | q | q | q | q | q | q | q | q | q | q | q | q | q; exact Or.inl (q); exact Or.inr (Or.inl (q)); exact Or.inr (Or.inr (Or.inl (q))); exact Or.inr (Or.inr (Or.inr (Or.inl (q)))); exact Or.inr (Or.inr (Or.inr (Or.inr (Or.inl (q))))); exact Or.inr (Or.inr (Or.inr (Or.inr (Or.inr (Or.inl (q)))))); exact Or.inr (Or.inr (Or.inr (Or.inr (Or.inr (Or.inr (Or.inl (q))))))); exact Or.inr (Or.inr (Or.inr (Or.inr (Or.inr (Or.inr (Or.inr (Or.inl (q)))))))); exact Or.inr (Or.inr (Or.inr (Or.inr (Or.inr (Or.inr (Or.inr (Or.inr (Or.inl (q))))))))); exact Or.inr (Or.inr (Or.inr (Or.inr (Or.inr (Or.inr (Or.inr (Or.inr (Or.inr (Or.inl (q)))))))))); exact Or.inr (Or.inr (Or.inr (Or.inr (Or.inr (Or.inr (Or.inr (Or.inr (Or.inr (Or.inr (Or.inl (q))))))))))); exact Or.inr (Or.inr (Or.inr (Or.inr (Or.inr (Or.inr (Or.inr (Or.inr (Or.inr (Or.inr (Or.inr (Or.inl (q)))))))))))); exact Or.inr (Or.inr (Or.inr (Or.inr (Or.inr (Or.inr (Or.inr (Or.inr (Or.inr (Or.inr (Or.inr (Or.inr (Or.inl (q))))))))))))); exact Or.inr (Or.inr (Or.inr (Or.inr (Or.inr (Or.inr (Or.inr (Or.inr (Or.inr (Or.inr (Or.inr (Or.inr (Or.inr (Or.inl (q)))))))))))))); exact Or.inr (Or.inr (Or.inr (Or.inr (Or.inr (Or.inr (Or.inr (Or.inr (Or.inr (Or.inr (Or.inr (Or.inr (Or.inr (Or.inr (Or.inl (q))))))))))))))); exact Or.inr (Or.inr (Or.inr (Or.inr (Or.inr (Or.inr (Or.inr (Or.inr (Or.inr (Or.inr (Or.inr (Or.inr (Or.inr (Or.inr (Or.inr (Or.inl (q)))))))))))))))); exact Or.inr (Or.inr (Or.inr (Or.inr (Or.inr (Or.inr (Or.inr (Or.inr (Or.inr (Or.inr (Or.inr (Or.inr (Or.inr (Or.inr (Or.inr (Or.inr (Or.inl (q))))))))))))))))); exact Or.inr (Or.inr (Or.inr (Or.inr (Or.inr (Or.inr (Or.inr (Or.inr (Or.inr (Or.inr (Or.inr (Or.inr (Or.inr (Or.inr (Or.inr (Or.inr (Or.inr ((q))))))))))))))))))) (fun _ _ q => False.elim q))
def w1_j_X11_clauseHere_24 (a k : Nat) : Prop := (a = 145 ∧ k = 7) ∨ (a = 145 ∧ k = 8) ∨ (a = 145 ∧ k = 9) ∨ (a = 145 ∧ k = 13) ∨ (a = 145 ∧ k = 14) ∨ (a = 145 ∧ k = 15) ∨ (a = 145 ∧ k = 17) ∨ (a = 145 ∧ k = 18) ∨ (a = 145 ∧ k = 19) ∨ (a = 145 ∧ k = 21) ∨ a = 147 ∨ a = 148 ∨ a = 149 ∨ a = 150 ∨ a = 151 ∨ a = 152 ∨ a = 153 ∨ a = 154
def w2_j_X11_clauseHere_24 (a k : Nat) : Prop := False
theorem fr_j_X11_clauseHere_24 {p1 : Int32} {s0 : Int32} {S : fS} {r : Int32 × fS} (h : j_X11_clauseHere_24 p1 s0 S = some r) : Fr (w1_j_X11_clauseHere_24) (w2_j_X11_clauseHere_24) S r.2 := by
  unfold j_X11_clauseHere_24 at h
  rcases fr_ite h with h1 | h1
  ·
    obtain ⟨q6, e2, h3⟩ := Option.bind_eq_some_iff.mp h1
    have f4 : Fr (w1_j_X11_clauseHere_24) (w2_j_X11_clauseHere_24) S q6.2 := (Fr.rf (S := S)).tr (Fr.mo (fr_f_X11_isWord e2) (fun a k q => by unfold w1_f_X11_isWord at q; unfold w1_j_X11_clauseHere_24; exact Or.inr (Or.inr (Or.inr (Or.inl (q))))) (fun _ _ q => False.elim q))
    exact f4.tr (Fr.mo (fr_j_X11_clauseHere_74 h3) (fun a k q => by unfold w1_j_X11_clauseHere_74 at q; unfold w1_j_X11_clauseHere_24; rcases q with q | q | q | q | q | q | q | q | q | q | q | q | q | q | q | q | q | q; exact Or.inl (q); exact Or.inr (Or.inl (q)); exact Or.inr (Or.inr (Or.inl (q))); exact Or.inr (Or.inr (Or.inr (Or.inl (q)))); exact Or.inr (Or.inr (Or.inr (Or.inr (Or.inl (q))))); exact Or.inr (Or.inr (Or.inr (Or.inr (Or.inr (Or.inl (q)))))); exact Or.inr (Or.inr (Or.inr (Or.inr (Or.inr (Or.inr (Or.inl (q))))))); exact Or.inr (Or.inr (Or.inr (Or.inr (Or.inr (Or.inr (Or.inr (Or.inl (q)))))))); exact Or.inr (Or.inr (Or.inr (Or.inr (Or.inr (Or.inr (Or.inr (Or.inr (Or.inl (q))))))))); exact Or.inr (Or.inr (Or.inr (Or.inr (Or.inr (Or.inr (Or.inr (Or.inr (Or.inr (Or.inl (q)))))))))); exact Or.inr (Or.inr (Or.inr (Or.inr (Or.inr (Or.inr (Or.inr (Or.inr (Or.inr (Or.inr (Or.inl (q))))))))))); exact Or.inr (Or.inr (Or.inr (Or.inr (Or.inr (Or.inr (Or.inr (Or.inr (Or.inr (Or.inr (Or.inr (Or.inl (q)))))))))))); exact Or.inr (Or.inr (Or.inr (Or.inr (Or.inr (Or.inr (Or.inr (Or.inr (Or.inr (Or.inr (Or.inr (Or.inr (Or.inl (q))))))))))))); exact Or.inr (Or.inr (Or.inr (Or.inr (Or.inr (Or.inr (Or.inr (Or.inr (Or.inr (Or.inr (Or.inr (Or.inr (Or.inr (Or.inl (q)))))))))))))); exact Or.inr (Or.inr (Or.inr (Or.inr (Or.inr (Or.inr (Or.inr (Or.inr (Or.inr (Or.inr (Or.inr (Or.inr (Or.inr (Or.inr (Or.inl (q))))))))))))))); exact Or.inr (Or.inr (Or.inr (Or.inr (Or.inr (Or.inr (Or.inr (Or.inr (Or.inr (Or.inr (Or.inr (Or.inr (Or.inr (Or.inr (Or.inr (Or.inl (q)))))))))))))))); exact Or.inr (Or.inr (Or.inr (Or.inr (Or.inr (Or.inr (Or.inr (Or.inr (Or.inr (Or.inr (Or.inr (Or.inr (Or.inr (Or.inr (Or.inr (Or.inr (Or.inl (q))))))))))))))))); exact Or.inr (Or.inr (Or.inr (Or.inr (Or.inr (Or.inr (Or.inr (Or.inr (Or.inr (Or.inr (Or.inr (Or.inr (Or.inr (Or.inr (Or.inr (Or.inr (Or.inr ((q))))))))))))))))))) (fun _ _ q => False.elim q))
  ·
    obtain ⟨q62, e5, h6⟩ := Option.bind_eq_some_iff.mp h1
    have f7 : Fr (w1_j_X11_clauseHere_24) (w2_j_X11_clauseHere_24) S q62.2 := (Fr.rf (S := S)).tr (Fr.mo (fr_f_X11_isWord e5) (fun a k q => by unfold w1_f_X11_isWord at q; unfold w1_j_X11_clauseHere_24; exact Or.inr (Or.inr (Or.inr (Or.inl (q))))) (fun _ _ q => False.elim q))
    rcases fr_ite h6 with h8 | h8
    ·
      obtain ⟨q66, e9, h10⟩ := Option.bind_eq_some_iff.mp h8
      have f11 : Fr (w1_j_X11_clauseHere_24) (w2_j_X11_clauseHere_24) S q66.2 := f7.tr (Fr.mo (fr_f_X11_isWord e9) (fun a k q => by unfold w1_f_X11_isWord at q; unfold w1_j_X11_clauseHere_24; exact Or.inr (Or.inr (Or.inr (Or.inl (q))))) (fun _ _ q => False.elim q))
      rcases fr_ite h10 with h12 | h12
      ·
        obtain ⟨q70, e13, h14⟩ := Option.bind_eq_some_iff.mp h12
        have f15 : Fr (w1_j_X11_clauseHere_24) (w2_j_X11_clauseHere_24) S q70.2 := f11.tr (Fr.mo (fr_f_X11_isWord e13) (fun a k q => by unfold w1_f_X11_isWord at q; unfold w1_j_X11_clauseHere_24; exact Or.inr (Or.inr (Or.inr (Or.inl (q))))) (fun _ _ q => False.elim q))
        rcases fr_ite h14 with h16 | h16
        ·
          exact f15.tr (Fr.mo (fr_j_X11_clauseHere_74 h16) (fun a k q => by unfold w1_j_X11_clauseHere_74 at q; unfold w1_j_X11_clauseHere_24; rcases q with q | q | q | q | q | q | q | q | q | q | q | q | q | q | q | q | q | q; exact Or.inl (q); exact Or.inr (Or.inl (q)); exact Or.inr (Or.inr (Or.inl (q))); exact Or.inr (Or.inr (Or.inr (Or.inl (q)))); exact Or.inr (Or.inr (Or.inr (Or.inr (Or.inl (q))))); exact Or.inr (Or.inr (Or.inr (Or.inr (Or.inr (Or.inl (q)))))); exact Or.inr (Or.inr (Or.inr (Or.inr (Or.inr (Or.inr (Or.inl (q))))))); exact Or.inr (Or.inr (Or.inr (Or.inr (Or.inr (Or.inr (Or.inr (Or.inl (q)))))))); exact Or.inr (Or.inr (Or.inr (Or.inr (Or.inr (Or.inr (Or.inr (Or.inr (Or.inl (q))))))))); exact Or.inr (Or.inr (Or.inr (Or.inr (Or.inr (Or.inr (Or.inr (Or.inr (Or.inr (Or.inl (q)))))))))); exact Or.inr (Or.inr (Or.inr (Or.inr (Or.inr (Or.inr (Or.inr (Or.inr (Or.inr (Or.inr (Or.inl (q))))))))))); exact Or.inr (Or.inr (Or.inr (Or.inr (Or.inr (Or.inr (Or.inr (Or.inr (Or.inr (Or.inr (Or.inr (Or.inl (q)))))))))))); exact Or.inr (Or.inr (Or.inr (Or.inr (Or.inr (Or.inr (Or.inr (Or.inr (Or.inr (Or.inr (Or.inr (Or.inr (Or.inl (q))))))))))))); exact Or.inr (Or.inr (Or.inr (Or.inr (Or.inr (Or.inr (Or.inr (Or.inr (Or.inr (Or.inr (Or.inr (Or.inr (Or.inr (Or.inl (q)))))))))))))); exact Or.inr (Or.inr (Or.inr (Or.inr (Or.inr (Or.inr (Or.inr (Or.inr (Or.inr (Or.inr (Or.inr (Or.inr (Or.inr (Or.inr (Or.inl (q))))))))))))))); exact Or.inr (Or.inr (Or.inr (Or.inr (Or.inr (Or.inr (Or.inr (Or.inr (Or.inr (Or.inr (Or.inr (Or.inr (Or.inr (Or.inr (Or.inr (Or.inl (q)))))))))))))))); exact Or.inr (Or.inr (Or.inr (Or.inr (Or.inr (Or.inr (Or.inr (Or.inr (Or.inr (Or.inr (Or.inr (Or.inr (Or.inr (Or.inr (Or.inr (Or.inr (Or.inl (q))))))))))))))))); exact Or.inr (Or.inr (Or.inr (Or.inr (Or.inr (Or.inr (Or.inr (Or.inr (Or.inr (Or.inr (Or.inr (Or.inr (Or.inr (Or.inr (Or.inr (Or.inr (Or.inr ((q))))))))))))))))))) (fun _ _ q => False.elim q))
        ·
          exact f15.tr (Fr.mo (fr_j_X11_clauseHere_59 h16) (fun a k q => by unfold w1_j_X11_clauseHere_59 at q; unfold w1_j_X11_clauseHere_24; rcases q with q | q | q | q | q | q | q | q | q | q | q | q | q | q | q | q | q | q; exact Or.inl (q); exact Or.inr (Or.inl (q)); exact Or.inr (Or.inr (Or.inl (q))); exact Or.inr (Or.inr (Or.inr (Or.inl (q)))); exact Or.inr (Or.inr (Or.inr (Or.inr (Or.inl (q))))); exact Or.inr (Or.inr (Or.inr (Or.inr (Or.inr (Or.inl (q)))))); exact Or.inr (Or.inr (Or.inr (Or.inr (Or.inr (Or.inr (Or.inl (q))))))); exact Or.inr (Or.inr (Or.inr (Or.inr (Or.inr (Or.inr (Or.inr (Or.inl (q)))))))); exact Or.inr (Or.inr (Or.inr (Or.inr (Or.inr (Or.inr (Or.inr (Or.inr (Or.inl (q))))))))); exact Or.inr (Or.inr (Or.inr (Or.inr (Or.inr (Or.inr (Or.inr (Or.inr (Or.inr (Or.inl (q)))))))))); exact Or.inr (Or.inr (Or.inr (Or.inr (Or.inr (Or.inr (Or.inr (Or.inr (Or.inr (Or.inr (Or.inl (q))))))))))); exact Or.inr (Or.inr (Or.inr (Or.inr (Or.inr (Or.inr (Or.inr (Or.inr (Or.inr (Or.inr (Or.inr (Or.inl (q)))))))))))); exact Or.inr (Or.inr (Or.inr (Or.inr (Or.inr (Or.inr (Or.inr (Or.inr (Or.inr (Or.inr (Or.inr (Or.inr (Or.inl (q))))))))))))); exact Or.inr (Or.inr (Or.inr (Or.inr (Or.inr (Or.inr (Or.inr (Or.inr (Or.inr (Or.inr (Or.inr (Or.inr (Or.inr (Or.inl (q)))))))))))))); exact Or.inr (Or.inr (Or.inr (Or.inr (Or.inr (Or.inr (Or.inr (Or.inr (Or.inr (Or.inr (Or.inr (Or.inr (Or.inr (Or.inr (Or.inl (q))))))))))))))); exact Or.inr (Or.inr (Or.inr (Or.inr (Or.inr (Or.inr (Or.inr (Or.inr (Or.inr (Or.inr (Or.inr (Or.inr (Or.inr (Or.inr (Or.inr (Or.inl (q)))))))))))))))); exact Or.inr (Or.inr (Or.inr (Or.inr (Or.inr (Or.inr (Or.inr (Or.inr (Or.inr (Or.inr (Or.inr (Or.inr (Or.inr (Or.inr (Or.inr (Or.inr (Or.inl (q))))))))))))))))); exact Or.inr (Or.inr (Or.inr (Or.inr (Or.inr (Or.inr (Or.inr (Or.inr (Or.inr (Or.inr (Or.inr (Or.inr (Or.inr (Or.inr (Or.inr (Or.inr (Or.inr ((q))))))))))))))))))) (fun _ _ q => False.elim q))
      ·
        exact f11.tr (Fr.mo (fr_j_X11_clauseHere_59 h12) (fun a k q => by unfold w1_j_X11_clauseHere_59 at q; unfold w1_j_X11_clauseHere_24; rcases q with q | q | q | q | q | q | q | q | q | q | q | q | q | q | q | q | q | q; exact Or.inl (q); exact Or.inr (Or.inl (q)); exact Or.inr (Or.inr (Or.inl (q))); exact Or.inr (Or.inr (Or.inr (Or.inl (q)))); exact Or.inr (Or.inr (Or.inr (Or.inr (Or.inl (q))))); exact Or.inr (Or.inr (Or.inr (Or.inr (Or.inr (Or.inl (q)))))); exact Or.inr (Or.inr (Or.inr (Or.inr (Or.inr (Or.inr (Or.inl (q))))))); exact Or.inr (Or.inr (Or.inr (Or.inr (Or.inr (Or.inr (Or.inr (Or.inl (q)))))))); exact Or.inr (Or.inr (Or.inr (Or.inr (Or.inr (Or.inr (Or.inr (Or.inr (Or.inl (q))))))))); exact Or.inr (Or.inr (Or.inr (Or.inr (Or.inr (Or.inr (Or.inr (Or.inr (Or.inr (Or.inl (q)))))))))); exact Or.inr (Or.inr (Or.inr (Or.inr (Or.inr (Or.inr (Or.inr (Or.inr (Or.inr (Or.inr (Or.inl (q))))))))))); exact Or.inr (Or.inr (Or.inr (Or.inr (Or.inr (Or.inr (Or.inr (Or.inr (Or.inr (Or.inr (Or.inr (Or.inl (q)))))))))))); exact Or.inr (Or.inr (Or.inr (Or.inr (Or.inr (Or.inr (Or.inr (Or.inr (Or.inr (Or.inr (Or.inr (Or.inr (Or.inl (q))))))))))))); exact Or.inr (Or.inr (Or.inr (Or.inr (Or.inr (Or.inr (Or.inr (Or.inr (Or.inr (Or.inr (Or.inr (Or.inr (Or.inr (Or.inl (q)))))))))))))); exact Or.inr (Or.inr (Or.inr (Or.inr (Or.inr (Or.inr (Or.inr (Or.inr (Or.inr (Or.inr (Or.inr (Or.inr (Or.inr (Or.inr (Or.inl (q))))))))))))))); exact Or.inr (Or.inr (Or.inr (Or.inr (Or.inr (Or.inr (Or.inr (Or.inr (Or.inr (Or.inr (Or.inr (Or.inr (Or.inr (Or.inr (Or.inr (Or.inl (q)))))))))))))))); exact Or.inr (Or.inr (Or.inr (Or.inr (Or.inr (Or.inr (Or.inr (Or.inr (Or.inr (Or.inr (Or.inr (Or.inr (Or.inr (Or.inr (Or.inr (Or.inr (Or.inl (q))))))))))))))))); exact Or.inr (Or.inr (Or.inr (Or.inr (Or.inr (Or.inr (Or.inr (Or.inr (Or.inr (Or.inr (Or.inr (Or.inr (Or.inr (Or.inr (Or.inr (Or.inr (Or.inr ((q))))))))))))))))))) (fun _ _ q => False.elim q))
    ·
      exact f7.tr (Fr.mo (fr_j_X11_clauseHere_59 h8) (fun a k q => by unfold w1_j_X11_clauseHere_59 at q; unfold w1_j_X11_clauseHere_24; rcases q with q | q | q | q | q | q | q | q | q | q | q | q | q | q | q | q | q | q; exact Or.inl (q); exact Or.inr (Or.inl (q)); exact Or.inr (Or.inr (Or.inl (q))); exact Or.inr (Or.inr (Or.inr (Or.inl (q)))); exact Or.inr (Or.inr (Or.inr (Or.inr (Or.inl (q))))); exact Or.inr (Or.inr (Or.inr (Or.inr (Or.inr (Or.inl (q)))))); exact Or.inr (Or.inr (Or.inr (Or.inr (Or.inr (Or.inr (Or.inl (q))))))); exact Or.inr (Or.inr (Or.inr (Or.inr (Or.inr (Or.inr (Or.inr (Or.inl (q)))))))); exact Or.inr (Or.inr (Or.inr (Or.inr (Or.inr (Or.inr (Or.inr (Or.inr (Or.inl (q))))))))); exact Or.inr (Or.inr (Or.inr (Or.inr (Or.inr (Or.inr (Or.inr (Or.inr (Or.inr (Or.inl (q)))))))))); exact Or.inr (Or.inr (Or.inr (Or.inr (Or.inr (Or.inr (Or.inr (Or.inr (Or.inr (Or.inr (Or.inl (q))))))))))); exact Or.inr (Or.inr (Or.inr (Or.inr (Or.inr (Or.inr (Or.inr (Or.inr (Or.inr (Or.inr (Or.inr (Or.inl (q)))))))))))); exact Or.inr (Or.inr (Or.inr (Or.inr (Or.inr (Or.inr (Or.inr (Or.inr (Or.inr (Or.inr (Or.inr (Or.inr (Or.inl (q))))))))))))); exact Or.inr (Or.inr (Or.inr (Or.inr (Or.inr (Or.inr (Or.inr (Or.inr (Or.inr (Or.inr (Or.inr (Or.inr (Or.inr (Or.inl (q)))))))))))))); exact Or.inr (Or.inr (Or.inr (Or.inr (Or.inr (Or.inr (Or.inr (Or.inr (Or.inr (Or.inr (Or.inr (Or.inr (Or.inr (Or.inr (Or.inl (q))))))))))))))); exact Or.inr (Or.inr (Or.inr (Or.inr (Or.inr (Or.inr (Or.inr (Or.inr (Or.inr (Or.inr (Or.inr (Or.inr (Or.inr (Or.inr (Or.inr (Or.inl (q)))))))))))))))); exact Or.inr (Or.inr (Or.inr (Or.inr (Or.inr (Or.inr (Or.inr (Or.inr (Or.inr (Or.inr (Or.inr (Or.inr (Or.inr (Or.inr (Or.inr (Or.inr (Or.inl (q))))))))))))))))); exact Or.inr (Or.inr (Or.inr (Or.inr (Or.inr (Or.inr (Or.inr (Or.inr (Or.inr (Or.inr (Or.inr (Or.inr (Or.inr (Or.inr (Or.inr (Or.inr (Or.inr ((q))))))))))))))))))) (fun _ _ q => False.elim q))
def w1_f_X11_clauseHere (a k : Nat) : Prop := (a = 145 ∧ k = 7) ∨ (a = 145 ∧ k = 8) ∨ (a = 145 ∧ k = 9) ∨ (a = 145 ∧ k = 13) ∨ (a = 145 ∧ k = 14) ∨ (a = 145 ∧ k = 15) ∨ (a = 145 ∧ k = 17) ∨ (a = 145 ∧ k = 18) ∨ (a = 145 ∧ k = 19) ∨ (a = 145 ∧ k = 21) ∨ a = 147 ∨ a = 148 ∨ a = 149 ∨ a = 150 ∨ a = 151 ∨ a = 152 ∨ a = 153 ∨ a = 154
def w2_f_X11_clauseHere (a k : Nat) : Prop := False
theorem fr_f_X11_clauseHere {S : fS} {r : Int32 × fS} (h : f_X11_clauseHere S = some r) : Fr (w1_f_X11_clauseHere) (w2_f_X11_clauseHere) S r.2 := by
  unfold f_X11_clauseHere at h
  obtain ⟨q1, e1, h2⟩ := Option.bind_eq_some_iff.mp h
  have f3 : Fr (w1_f_X11_clauseHere) (w2_f_X11_clauseHere) S q1.2 := (Fr.rf (S := S)).tr (Fr.mo (fr_f_X11_see e1) (fun a k q => by unfold w1_f_X11_see at q; unfold w1_f_X11_clauseHere; exact Or.inr (Or.inr (Or.inr (Or.inl (q))))) (fun _ _ q => False.elim q))
  rcases fr_ite h2 with h4 | h4
  ·
    exact f3.tr (Fr.mo (fr_j_X11_clauseHere_24 h4) (fun a k q => by unfold w1_j_X11_clauseHere_24 at q; unfold w1_f_X11_clauseHere; rcases q with q | q | q | q | q | q | q | q | q | q | q | q | q | q | q | q | q | q; exact Or.inl (q); exact Or.inr (Or.inl (q)); exact Or.inr (Or.inr (Or.inl (q))); exact Or.inr (Or.inr (Or.inr (Or.inl (q)))); exact Or.inr (Or.inr (Or.inr (Or.inr (Or.inl (q))))); exact Or.inr (Or.inr (Or.inr (Or.inr (Or.inr (Or.inl (q)))))); exact Or.inr (Or.inr (Or.inr (Or.inr (Or.inr (Or.inr (Or.inl (q))))))); exact Or.inr (Or.inr (Or.inr (Or.inr (Or.inr (Or.inr (Or.inr (Or.inl (q)))))))); exact Or.inr (Or.inr (Or.inr (Or.inr (Or.inr (Or.inr (Or.inr (Or.inr (Or.inl (q))))))))); exact Or.inr (Or.inr (Or.inr (Or.inr (Or.inr (Or.inr (Or.inr (Or.inr (Or.inr (Or.inl (q)))))))))); exact Or.inr (Or.inr (Or.inr (Or.inr (Or.inr (Or.inr (Or.inr (Or.inr (Or.inr (Or.inr (Or.inl (q))))))))))); exact Or.inr (Or.inr (Or.inr (Or.inr (Or.inr (Or.inr (Or.inr (Or.inr (Or.inr (Or.inr (Or.inr (Or.inl (q)))))))))))); exact Or.inr (Or.inr (Or.inr (Or.inr (Or.inr (Or.inr (Or.inr (Or.inr (Or.inr (Or.inr (Or.inr (Or.inr (Or.inl (q))))))))))))); exact Or.inr (Or.inr (Or.inr (Or.inr (Or.inr (Or.inr (Or.inr (Or.inr (Or.inr (Or.inr (Or.inr (Or.inr (Or.inr (Or.inl (q)))))))))))))); exact Or.inr (Or.inr (Or.inr (Or.inr (Or.inr (Or.inr (Or.inr (Or.inr (Or.inr (Or.inr (Or.inr (Or.inr (Or.inr (Or.inr (Or.inl (q))))))))))))))); exact Or.inr (Or.inr (Or.inr (Or.inr (Or.inr (Or.inr (Or.inr (Or.inr (Or.inr (Or.inr (Or.inr (Or.inr (Or.inr (Or.inr (Or.inr (Or.inl (q)))))))))))))))); exact Or.inr (Or.inr (Or.inr (Or.inr (Or.inr (Or.inr (Or.inr (Or.inr (Or.inr (Or.inr (Or.inr (Or.inr (Or.inr (Or.inr (Or.inr (Or.inr (Or.inl (q))))))))))))))))); exact Or.inr (Or.inr (Or.inr (Or.inr (Or.inr (Or.inr (Or.inr (Or.inr (Or.inr (Or.inr (Or.inr (Or.inr (Or.inr (Or.inr (Or.inr (Or.inr (Or.inr ((q))))))))))))))))))) (fun _ _ q => False.elim q))
  ·
    exact f3.tr (Fr.mo (fr_j_X11_clauseHere_24 h4) (fun a k q => by unfold w1_j_X11_clauseHere_24 at q; unfold w1_f_X11_clauseHere; rcases q with q | q | q | q | q | q | q | q | q | q | q | q | q | q | q | q | q | q; exact Or.inl (q); exact Or.inr (Or.inl (q)); exact Or.inr (Or.inr (Or.inl (q))); exact Or.inr (Or.inr (Or.inr (Or.inl (q)))); exact Or.inr (Or.inr (Or.inr (Or.inr (Or.inl (q))))); exact Or.inr (Or.inr (Or.inr (Or.inr (Or.inr (Or.inl (q)))))); exact Or.inr (Or.inr (Or.inr (Or.inr (Or.inr (Or.inr (Or.inl (q))))))); exact Or.inr (Or.inr (Or.inr (Or.inr (Or.inr (Or.inr (Or.inr (Or.inl (q)))))))); exact Or.inr (Or.inr (Or.inr (Or.inr (Or.inr (Or.inr (Or.inr (Or.inr (Or.inl (q))))))))); exact Or.inr (Or.inr (Or.inr (Or.inr (Or.inr (Or.inr (Or.inr (Or.inr (Or.inr (Or.inl (q)))))))))); exact Or.inr (Or.inr (Or.inr (Or.inr (Or.inr (Or.inr (Or.inr (Or.inr (Or.inr (Or.inr (Or.inl (q))))))))))); exact Or.inr (Or.inr (Or.inr (Or.inr (Or.inr (Or.inr (Or.inr (Or.inr (Or.inr (Or.inr (Or.inr (Or.inl (q)))))))))))); exact Or.inr (Or.inr (Or.inr (Or.inr (Or.inr (Or.inr (Or.inr (Or.inr (Or.inr (Or.inr (Or.inr (Or.inr (Or.inl (q))))))))))))); exact Or.inr (Or.inr (Or.inr (Or.inr (Or.inr (Or.inr (Or.inr (Or.inr (Or.inr (Or.inr (Or.inr (Or.inr (Or.inr (Or.inl (q)))))))))))))); exact Or.inr (Or.inr (Or.inr (Or.inr (Or.inr (Or.inr (Or.inr (Or.inr (Or.inr (Or.inr (Or.inr (Or.inr (Or.inr (Or.inr (Or.inl (q))))))))))))))); exact Or.inr (Or.inr (Or.inr (Or.inr (Or.inr (Or.inr (Or.inr (Or.inr (Or.inr (Or.inr (Or.inr (Or.inr (Or.inr (Or.inr (Or.inr (Or.inl (q)))))))))))))))); exact Or.inr (Or.inr (Or.inr (Or.inr (Or.inr (Or.inr (Or.inr (Or.inr (Or.inr (Or.inr (Or.inr (Or.inr (Or.inr (Or.inr (Or.inr (Or.inr (Or.inl (q))))))))))))))))); exact Or.inr (Or.inr (Or.inr (Or.inr (Or.inr (Or.inr (Or.inr (Or.inr (Or.inr (Or.inr (Or.inr (Or.inr (Or.inr (Or.inr (Or.inr (Or.inr (Or.inr ((q))))))))))))))))))) (fun _ _ q => False.elim q))
def w1_lp_X11_readsAll_35 (a k : Nat) : Prop := (a = 145 ∧ k = 7) ∨ (a = 145 ∧ k = 8) ∨ (a = 145 ∧ k = 9) ∨ (a = 145 ∧ k = 13) ∨ (a = 145 ∧ k = 14) ∨ (a = 145 ∧ k = 15) ∨ (a = 145 ∧ k = 17) ∨ (a = 145 ∧ k = 18) ∨ (a = 145 ∧ k = 19) ∨ (a = 145 ∧ k = 21) ∨ a = 147 ∨ a = 148 ∨ a = 149 ∨ a = 150 ∨ a = 151 ∨ a = 152 ∨ a = 153 ∨ a = 154
def w2_lp_X11_readsAll_35 (a k : Nat) : Prop := False
theorem fr_lp_X11_readsAll_35 {K : Int32 → fS → Option (Int32 × fS)} {r : Int32 × fS} {v1 v2 : Nat → Nat → Prop} (s1 : ∀ a k, w1_lp_X11_readsAll_35 a k → v1 a k) (s2 : ∀ a k, w2_lp_X11_readsAll_35 a k → v2 a k) (hK : ∀ (x0 : Int32) (x1 : fS), K x0 x1 = some r → Fr v1 v2 x1 r.2) : ∀ (n : Nat) (p1 : Int32) (S0 : fS), lp_X11_readsAll_35 K n p1 S0 = some r → Fr v1 v2 S0 r.2 := by
  intro n
  induction n with
  | zero => intro p1 S0 h; exact mm_no h
  | succ n ih =>
    intro p1 S0 h
    rw [lp_X11_readsAll_35.eq_2] at h
    rcases fr_ite h with h1 | h1
    ·
      exact (Fr.rf (S := S0)).tr (hK _ _ h1)
    ·
      obtain ⟨q20, e2, h3⟩ := Option.bind_eq_some_iff.mp h1
      have f4 : Fr v1 v2 S0 q20.2 := (Fr.rf (S := S0)).tr (Fr.mo (fr_f_X11_see e2) (fun a k q => by refine s1 _ _ ?_; unfold w1_f_X11_see at q; unfold w1_lp_X11_readsAll_35; exact Or.inr (Or.inr (Or.inr (Or.inl (q))))) (fun _ _ q => False.elim q))
      rcases fr_ite h3 with h5 | h5
      ·
        obtain ⟨S24, e6, h7⟩ := Option.bind_eq_some_iff.mp h5
        have f8 : Fr v1 v2 S0 S24 := f4.tr (fr_pI e6 (by refine s1 _ _ ?_; unfold w1_lp_X11_readsAll_35; exact Or.inr (Or.inr (Or.inr (Or.inl (⟨rfl, rfl⟩))))))
        obtain ⟨q27, e9, h10⟩ := Option.bind_eq_some_iff.mp h7
        have f11 : Fr v1 v2 S0 q27.2 := f8.tr (Fr.mo (fr_f_X11_clauseHere e9) (fun a k q => by refine s1 _ _ ?_; unfold w1_f_X11_clauseHere at q; unfold w1_lp_X11_readsAll_35; rcases q with q | q | q | q | q | q | q | q | q | q | q | q | q | q | q | q | q | q; exact Or.inl (q); exact Or.inr (Or.inl (q)); exact Or.inr (Or.inr (Or.inl (q))); exact Or.inr (Or.inr (Or.inr (Or.inl (q)))); exact Or.inr (Or.inr (Or.inr (Or.inr (Or.inl (q))))); exact Or.inr (Or.inr (Or.inr (Or.inr (Or.inr (Or.inl (q)))))); exact Or.inr (Or.inr (Or.inr (Or.inr (Or.inr (Or.inr (Or.inl (q))))))); exact Or.inr (Or.inr (Or.inr (Or.inr (Or.inr (Or.inr (Or.inr (Or.inl (q)))))))); exact Or.inr (Or.inr (Or.inr (Or.inr (Or.inr (Or.inr (Or.inr (Or.inr (Or.inl (q))))))))); exact Or.inr (Or.inr (Or.inr (Or.inr (Or.inr (Or.inr (Or.inr (Or.inr (Or.inr (Or.inl (q)))))))))); exact Or.inr (Or.inr (Or.inr (Or.inr (Or.inr (Or.inr (Or.inr (Or.inr (Or.inr (Or.inr (Or.inl (q))))))))))); exact Or.inr (Or.inr (Or.inr (Or.inr (Or.inr (Or.inr (Or.inr (Or.inr (Or.inr (Or.inr (Or.inr (Or.inl (q)))))))))))); exact Or.inr (Or.inr (Or.inr (Or.inr (Or.inr (Or.inr (Or.inr (Or.inr (Or.inr (Or.inr (Or.inr (Or.inr (Or.inl (q))))))))))))); exact Or.inr (Or.inr (Or.inr (Or.inr (Or.inr (Or.inr (Or.inr (Or.inr (Or.inr (Or.inr (Or.inr (Or.inr (Or.inr (Or.inl (q)))))))))))))); exact Or.inr (Or.inr (Or.inr (Or.inr (Or.inr (Or.inr (Or.inr (Or.inr (Or.inr (Or.inr (Or.inr (Or.inr (Or.inr (Or.inr (Or.inl (q))))))))))))))); exact Or.inr (Or.inr (Or.inr (Or.inr (Or.inr (Or.inr (Or.inr (Or.inr (Or.inr (Or.inr (Or.inr (Or.inr (Or.inr (Or.inr (Or.inr (Or.inl (q)))))))))))))))); exact Or.inr (Or.inr (Or.inr (Or.inr (Or.inr (Or.inr (Or.inr (Or.inr (Or.inr (Or.inr (Or.inr (Or.inr (Or.inr (Or.inr (Or.inr (Or.inr (Or.inl (q))))))))))))))))); exact Or.inr (Or.inr (Or.inr (Or.inr (Or.inr (Or.inr (Or.inr (Or.inr (Or.inr (Or.inr (Or.inr (Or.inr (Or.inr (Or.inr (Or.inr (Or.inr (Or.inr ((q))))))))))))))))))) (fun _ _ q => False.elim q))
        exact f11.tr (ih _ _ h10)
      ·
        exact f4.tr (hK _ _ h5)
def w1_f_X11_readsAll (a k : Nat) : Prop := (a = 145 ∧ k = 1) ∨ (a = 145 ∧ k = 7) ∨ (a = 145 ∧ k = 8) ∨ (a = 145 ∧ k = 9) ∨ (a = 145 ∧ k = 13) ∨ (a = 145 ∧ k = 14) ∨ (a = 145 ∧ k = 15) ∨ (a = 145 ∧ k = 17) ∨ (a = 145 ∧ k = 18) ∨ (a = 145 ∧ k = 19) ∨ (a = 145 ∧ k = 21) ∨ a = 147 ∨ a = 148 ∨ a = 149 ∨ a = 150 ∨ a = 151 ∨ a = 152 ∨ a = 153 ∨ a = 154
def w2_f_X11_readsAll (a k : Nat) : Prop := False
theorem fr_f_X11_readsAll {S : fS} {r : Int32 × fS} (h : f_X11_readsAll S = some r) : Fr (w1_f_X11_readsAll) (w2_f_X11_readsAll) S r.2 := by
  unfold f_X11_readsAll at h
  obtain ⟨S1, e1, h2⟩ := Option.bind_eq_some_iff.mp h
  have f3 : Fr (w1_f_X11_readsAll) (w2_f_X11_readsAll) S S1 := (Fr.rf (S := S)).tr (fr_sI e1 (fun k => by unfold w1_f_X11_readsAll; exact Or.inr (Or.inr (Or.inr (Or.inr (Or.inr (Or.inr (Or.inr (Or.inr (Or.inr (Or.inr (Or.inr (Or.inr (Or.inl (rfl)))))))))))))))
  obtain ⟨S4, e4, h5⟩ := Option.bind_eq_some_iff.mp h2
  have f6 : Fr (w1_f_X11_readsAll) (w2_f_X11_readsAll) S S4 := f3.tr (fr_pI e4 (by unfold w1_f_X11_readsAll; exact Or.inr (Or.inr (Or.inr (Or.inr (Or.inr (Or.inr (Or.inr (Or.inr (Or.inr (Or.inl (⟨rfl, rfl⟩))))))))))))
  obtain ⟨S7, e7, h8⟩ := Option.bind_eq_some_iff.mp h5
  have f9 : Fr (w1_f_X11_readsAll) (w2_f_X11_readsAll) S S7 := f6.tr (fr_pI e7 (by unfold w1_f_X11_readsAll; exact Or.inr (Or.inr (Or.inr (Or.inr (Or.inl (⟨rfl, rfl⟩)))))))
  obtain ⟨S10, e10, h11⟩ := Option.bind_eq_some_iff.mp h8
  have f12 : Fr (w1_f_X11_readsAll) (w2_f_X11_readsAll) S S10 := f9.tr (fr_pI e10 (by unfold w1_f_X11_readsAll; exact Or.inr (Or.inr (Or.inr (Or.inr (Or.inr (Or.inl (⟨rfl, rfl⟩))))))))
  obtain ⟨S13, e13, h14⟩ := Option.bind_eq_some_iff.mp h11
  have f15 : Fr (w1_f_X11_readsAll) (w2_f_X11_readsAll) S S13 := f12.tr (fr_pI e13 (by unfold w1_f_X11_readsAll; exact Or.inr (Or.inr (Or.inr (Or.inr (Or.inr (Or.inr (Or.inr (Or.inl (⟨rfl, rfl⟩))))))))))
  obtain ⟨q16, e16, h17⟩ := Option.bind_eq_some_iff.mp h14
  have f18 : Fr (w1_f_X11_readsAll) (w2_f_X11_readsAll) S q16.2 := f15.tr (Fr.mo (fr_f_X11_clauseHere e16) (fun a k q => by unfold w1_f_X11_clauseHere at q; unfold w1_f_X11_readsAll; rcases q with q | q | q | q | q | q | q | q | q | q | q | q | q | q | q | q | q | q; exact Or.inr (Or.inl (q)); exact Or.inr (Or.inr (Or.inl (q))); exact Or.inr (Or.inr (Or.inr (Or.inl (q)))); exact Or.inr (Or.inr (Or.inr (Or.inr (Or.inl (q))))); exact Or.inr (Or.inr (Or.inr (Or.inr (Or.inr (Or.inl (q)))))); exact Or.inr (Or.inr (Or.inr (Or.inr (Or.inr (Or.inr (Or.inl (q))))))); exact Or.inr (Or.inr (Or.inr (Or.inr (Or.inr (Or.inr (Or.inr (Or.inl (q)))))))); exact Or.inr (Or.inr (Or.inr (Or.inr (Or.inr (Or.inr (Or.inr (Or.inr (Or.inl (q))))))))); exact Or.inr (Or.inr (Or.inr (Or.inr (Or.inr (Or.inr (Or.inr (Or.inr (Or.inr (Or.inl (q)))))))))); exact Or.inr (Or.inr (Or.inr (Or.inr (Or.inr (Or.inr (Or.inr (Or.inr (Or.inr (Or.inr (Or.inl (q))))))))))); exact Or.inr (Or.inr (Or.inr (Or.inr (Or.inr (Or.inr (Or.inr (Or.inr (Or.inr (Or.inr (Or.inr (Or.inl (q)))))))))))); exact Or.inr (Or.inr (Or.inr (Or.inr (Or.inr (Or.inr (Or.inr (Or.inr (Or.inr (Or.inr (Or.inr (Or.inr (Or.inl (q))))))))))))); exact Or.inr (Or.inr (Or.inr (Or.inr (Or.inr (Or.inr (Or.inr (Or.inr (Or.inr (Or.inr (Or.inr (Or.inr (Or.inr (Or.inl (q)))))))))))))); exact Or.inr (Or.inr (Or.inr (Or.inr (Or.inr (Or.inr (Or.inr (Or.inr (Or.inr (Or.inr (Or.inr (Or.inr (Or.inr (Or.inr (Or.inl (q))))))))))))))); exact Or.inr (Or.inr (Or.inr (Or.inr (Or.inr (Or.inr (Or.inr (Or.inr (Or.inr (Or.inr (Or.inr (Or.inr (Or.inr (Or.inr (Or.inr (Or.inl (q)))))))))))))))); exact Or.inr (Or.inr (Or.inr (Or.inr (Or.inr (Or.inr (Or.inr (Or.inr (Or.inr (Or.inr (Or.inr (Or.inr (Or.inr (Or.inr (Or.inr (Or.inr (Or.inl (q))))))))))))))))); exact Or.inr (Or.inr (Or.inr (Or.inr (Or.inr (Or.inr (Or.inr (Or.inr (Or.inr (Or.inr (Or.inr (Or.inr (Or.inr (Or.inr (Or.inr (Or.inr (Or.inr (Or.inl (q)))))))))))))))))); exact Or.inr (Or.inr (Or.inr (Or.inr (Or.inr (Or.inr (Or.inr (Or.inr (Or.inr (Or.inr (Or.inr (Or.inr (Or.inr (Or.inr (Or.inr (Or.inr (Or.inr (Or.inr ((q)))))))))))))))))))) (fun _ _ q => False.elim q))
  refine f18.tr (fr_lp_X11_readsAll_35 (v1 := w1_f_X11_readsAll) (v2 := w2_f_X11_readsAll) (fun a k q => by unfold w1_lp_X11_readsAll_35 at q; unfold w1_f_X11_readsAll; rcases q with q | q | q | q | q | q | q | q | q | q | q | q | q | q | q | q | q | q; exact Or.inr (Or.inl (q)); exact Or.inr (Or.inr (Or.inl (q))); exact Or.inr (Or.inr (Or.inr (Or.inl (q)))); exact Or.inr (Or.inr (Or.inr (Or.inr (Or.inl (q))))); exact Or.inr (Or.inr (Or.inr (Or.inr (Or.inr (Or.inl (q)))))); exact Or.inr (Or.inr (Or.inr (Or.inr (Or.inr (Or.inr (Or.inl (q))))))); exact Or.inr (Or.inr (Or.inr (Or.inr (Or.inr (Or.inr (Or.inr (Or.inl (q)))))))); exact Or.inr (Or.inr (Or.inr (Or.inr (Or.inr (Or.inr (Or.inr (Or.inr (Or.inl (q))))))))); exact Or.inr (Or.inr (Or.inr (Or.inr (Or.inr (Or.inr (Or.inr (Or.inr (Or.inr (Or.inl (q)))))))))); exact Or.inr (Or.inr (Or.inr (Or.inr (Or.inr (Or.inr (Or.inr (Or.inr (Or.inr (Or.inr (Or.inl (q))))))))))); exact Or.inr (Or.inr (Or.inr (Or.inr (Or.inr (Or.inr (Or.inr (Or.inr (Or.inr (Or.inr (Or.inr (Or.inl (q)))))))))))); exact Or.inr (Or.inr (Or.inr (Or.inr (Or.inr (Or.inr (Or.inr (Or.inr (Or.inr (Or.inr (Or.inr (Or.inr (Or.inl (q))))))))))))); exact Or.inr (Or.inr (Or.inr (Or.inr (Or.inr (Or.inr (Or.inr (Or.inr (Or.inr (Or.inr (Or.inr (Or.inr (Or.inr (Or.inl (q)))))))))))))); exact Or.inr (Or.inr (Or.inr (Or.inr (Or.inr (Or.inr (Or.inr (Or.inr (Or.inr (Or.inr (Or.inr (Or.inr (Or.inr (Or.inr (Or.inl (q))))))))))))))); exact Or.inr (Or.inr (Or.inr (Or.inr (Or.inr (Or.inr (Or.inr (Or.inr (Or.inr (Or.inr (Or.inr (Or.inr (Or.inr (Or.inr (Or.inr (Or.inl (q)))))))))))))))); exact Or.inr (Or.inr (Or.inr (Or.inr (Or.inr (Or.inr (Or.inr (Or.inr (Or.inr (Or.inr (Or.inr (Or.inr (Or.inr (Or.inr (Or.inr (Or.inr (Or.inl (q))))))))))))))))); exact Or.inr (Or.inr (Or.inr (Or.inr (Or.inr (Or.inr (Or.inr (Or.inr (Or.inr (Or.inr (Or.inr (Or.inr (Or.inr (Or.inr (Or.inr (Or.inr (Or.inr (Or.inl (q)))))))))))))))))); exact Or.inr (Or.inr (Or.inr (Or.inr (Or.inr (Or.inr (Or.inr (Or.inr (Or.inr (Or.inr (Or.inr (Or.inr (Or.inr (Or.inr (Or.inr (Or.inr (Or.inr (Or.inr ((q)))))))))))))))))))) (fun _ _ q => False.elim q) (fun u30 S31 h19 => ?_) _ _ _ h17)
  rcases fr_ite h19 with h20 | h20
  ·
    rcases fr_ite h20 with h21 | h21
    ·
      obtain ⟨S35, e22, h23⟩ := Option.bind_eq_some_iff.mp h21
      have f24 : Fr (w1_f_X11_readsAll) (w2_f_X11_readsAll) S31 S35 := (Fr.rf (S := S31)).tr (fr_pI e22 (by unfold w1_f_X11_readsAll; exact Or.inl (⟨rfl, rfl⟩)))
      rcases fr_ite h23 with h25 | h25
      ·
        exact fr_e2 h25 f24
      ·
        exact fr_e2 h25 f24
    ·
      rcases fr_ite h21 with h26 | h26
      ·
        rcases fr_ite h26 with h27 | h27
        ·
          obtain ⟨q49, e28, h29⟩ := Option.bind_eq_some_iff.mp h27
          have f30 : Fr (w1_f_X11_readsAll) (w2_f_X11_readsAll) S31 q49.2 := (Fr.rf (S := S31)).tr (Fr.mo (fr_f_X11_fails e28) (fun a k q => by unfold w1_f_X11_fails at q; unfold w1_f_X11_readsAll; exact Or.inr (Or.inr (Or.inr (Or.inr (Or.inr (Or.inl (q))))))) (fun _ _ q => False.elim q))
          obtain ⟨S52, e31, h32⟩ := Option.bind_eq_some_iff.mp h29
          have f33 : Fr (w1_f_X11_readsAll) (w2_f_X11_readsAll) S31 S52 := f30.tr (fr_pI e31 (by unfold w1_f_X11_readsAll; exact Or.inl (⟨rfl, rfl⟩)))
          rcases fr_ite h32 with h34 | h34
          ·
            exact fr_e2 h34 f33
          ·
            exact fr_e2 h34 f33
        ·
          obtain ⟨S45, e35, h36⟩ := Option.bind_eq_some_iff.mp h27
          have f37 : Fr (w1_f_X11_readsAll) (w2_f_X11_readsAll) S31 S45 := (Fr.rf (S := S31)).tr (fr_pI e35 (by unfold w1_f_X11_readsAll; exact Or.inl (⟨rfl, rfl⟩)))
          rcases fr_ite h36 with h38 | h38
          ·
            exact fr_e2 h38 f37
          ·
            exact fr_e2 h38 f37
      ·
        obtain ⟨S40, e39, h40⟩ := Option.bind_eq_some_iff.mp h26
        have f41 : Fr (w1_f_X11_readsAll) (w2_f_X11_readsAll) S31 S40 := (Fr.rf (S := S31)).tr (fr_pI e39 (by unfold w1_f_X11_readsAll; exact Or.inl (⟨rfl, rfl⟩)))
        rcases fr_ite h40 with h42 | h42
        ·
          exact fr_e2 h42 f41
        ·
          exact fr_e2 h42 f41
  ·
    obtain ⟨q56, e43, h44⟩ := Option.bind_eq_some_iff.mp h20
    have f45 : Fr (w1_f_X11_readsAll) (w2_f_X11_readsAll) S31 q56.2 := (Fr.rf (S := S31)).tr (Fr.mo (fr_f_X11_see e43) (fun a k q => by unfold w1_f_X11_see at q; unfold w1_f_X11_readsAll; exact Or.inr (Or.inr (Or.inr (Or.inr (Or.inl (q)))))) (fun _ _ q => False.elim q))
    rcases fr_ite h44 with h46 | h46
    ·
      rcases fr_ite h46 with h47 | h47
      ·
        obtain ⟨S61, e48, h49⟩ := Option.bind_eq_some_iff.mp h47
        have f50 : Fr (w1_f_X11_readsAll) (w2_f_X11_readsAll) S31 S61 := f45.tr (fr_pI e48 (by unfold w1_f_X11_readsAll; exact Or.inl (⟨rfl, rfl⟩)))
        rcases fr_ite h49 with h51 | h51
        ·
          exact fr_e2 h51 f50
        ·
          exact fr_e2 h51 f50
      ·
        rcases fr_ite h47 with h52 | h52
        ·
          rcases fr_ite h52 with h53 | h53
          ·
            obtain ⟨q75, e54, h55⟩ := Option.bind_eq_some_iff.mp h53
            have f56 : Fr (w1_f_X11_readsAll) (w2_f_X11_readsAll) S31 q75.2 := f45.tr (Fr.mo (fr_f_X11_fails e54) (fun a k q => by unfold w1_f_X11_fails at q; unfold w1_f_X11_readsAll; exact Or.inr (Or.inr (Or.inr (Or.inr (Or.inr (Or.inl (q))))))) (fun _ _ q => False.elim q))
            obtain ⟨S78, e57, h58⟩ := Option.bind_eq_some_iff.mp h55
            have f59 : Fr (w1_f_X11_readsAll) (w2_f_X11_readsAll) S31 S78 := f56.tr (fr_pI e57 (by unfold w1_f_X11_readsAll; exact Or.inl (⟨rfl, rfl⟩)))
            rcases fr_ite h58 with h60 | h60
            ·
              exact fr_e2 h60 f59
            ·
              exact fr_e2 h60 f59
          ·
            obtain ⟨S71, e61, h62⟩ := Option.bind_eq_some_iff.mp h53
            have f63 : Fr (w1_f_X11_readsAll) (w2_f_X11_readsAll) S31 S71 := f45.tr (fr_pI e61 (by unfold w1_f_X11_readsAll; exact Or.inl (⟨rfl, rfl⟩)))
            rcases fr_ite h62 with h64 | h64
            ·
              exact fr_e2 h64 f63
            ·
              exact fr_e2 h64 f63
        ·
          obtain ⟨S66, e65, h66⟩ := Option.bind_eq_some_iff.mp h52
          have f67 : Fr (w1_f_X11_readsAll) (w2_f_X11_readsAll) S31 S66 := f45.tr (fr_pI e65 (by unfold w1_f_X11_readsAll; exact Or.inl (⟨rfl, rfl⟩)))
          rcases fr_ite h66 with h68 | h68
          ·
            exact fr_e2 h68 f67
          ·
            exact fr_e2 h68 f67
    ·
      obtain ⟨q82, e69, h70⟩ := Option.bind_eq_some_iff.mp h46
      have f71 : Fr (w1_f_X11_readsAll) (w2_f_X11_readsAll) S31 q82.2 := f45.tr (Fr.mo (fr_f_X11_fails e69) (fun a k q => by unfold w1_f_X11_fails at q; unfold w1_f_X11_readsAll; exact Or.inr (Or.inr (Or.inr (Or.inr (Or.inr (Or.inl (q))))))) (fun _ _ q => False.elim q))
      rcases fr_ite h70 with h72 | h72
      ·
        obtain ⟨S86, e73, h74⟩ := Option.bind_eq_some_iff.mp h72
        have f75 : Fr (w1_f_X11_readsAll) (w2_f_X11_readsAll) S31 S86 := f71.tr (fr_pI e73 (by unfold w1_f_X11_readsAll; exact Or.inl (⟨rfl, rfl⟩)))
        rcases fr_ite h74 with h76 | h76
        ·
          exact fr_e2 h76 f75
        ·
          exact fr_e2 h76 f75
      ·
        rcases fr_ite h72 with h77 | h77
        ·
          rcases fr_ite h77 with h78 | h78
          ·
            obtain ⟨q100, e79, h80⟩ := Option.bind_eq_some_iff.mp h78
            have f81 : Fr (w1_f_X11_readsAll) (w2_f_X11_readsAll) S31 q100.2 := f71.tr (Fr.mo (fr_f_X11_fails e79) (fun a k q => by unfold w1_f_X11_fails at q; unfold w1_f_X11_readsAll; exact Or.inr (Or.inr (Or.inr (Or.inr (Or.inr (Or.inl (q))))))) (fun _ _ q => False.elim q))
            obtain ⟨S103, e82, h83⟩ := Option.bind_eq_some_iff.mp h80
            have f84 : Fr (w1_f_X11_readsAll) (w2_f_X11_readsAll) S31 S103 := f81.tr (fr_pI e82 (by unfold w1_f_X11_readsAll; exact Or.inl (⟨rfl, rfl⟩)))
            rcases fr_ite h83 with h85 | h85
            ·
              exact fr_e2 h85 f84
            ·
              exact fr_e2 h85 f84
          ·
            obtain ⟨S96, e86, h87⟩ := Option.bind_eq_some_iff.mp h78
            have f88 : Fr (w1_f_X11_readsAll) (w2_f_X11_readsAll) S31 S96 := f71.tr (fr_pI e86 (by unfold w1_f_X11_readsAll; exact Or.inl (⟨rfl, rfl⟩)))
            rcases fr_ite h87 with h89 | h89
            ·
              exact fr_e2 h89 f88
            ·
              exact fr_e2 h89 f88
        ·
          obtain ⟨S91, e90, h91⟩ := Option.bind_eq_some_iff.mp h77
          have f92 : Fr (w1_f_X11_readsAll) (w2_f_X11_readsAll) S31 S91 := f71.tr (fr_pI e90 (by unfold w1_f_X11_readsAll; exact Or.inl (⟨rfl, rfl⟩)))
          rcases fr_ite h91 with h93 | h93
          ·
            exact fr_e2 h93 f92
          ·
            exact fr_e2 h93 f92
def w1_f_X11_rule (a k : Nat) : Prop := (a = 145 ∧ k = 1) ∨ (a = 145 ∧ k = 2) ∨ (a = 145 ∧ k = 7) ∨ (a = 145 ∧ k = 8) ∨ (a = 145 ∧ k = 9) ∨ (a = 145 ∧ k = 13) ∨ (a = 145 ∧ k = 14) ∨ (a = 145 ∧ k = 15) ∨ (a = 145 ∧ k = 16) ∨ (a = 145 ∧ k = 17) ∨ (a = 145 ∧ k = 18) ∨ (a = 145 ∧ k = 19) ∨ (a = 145 ∧ k = 21) ∨ a = 147 ∨ a = 148 ∨ a = 149 ∨ a = 150 ∨ a = 151 ∨ a = 152 ∨ a = 153 ∨ a = 154
def w2_f_X11_rule (a k : Nat) : Prop := False
theorem fr_f_X11_rule {S : fS} {r : Int32 × fS} (h : f_X11_rule S = some r) : Fr (w1_f_X11_rule) (w2_f_X11_rule) S r.2 := by
  unfold f_X11_rule at h
  rcases fr_ite h with h1 | h1
  ·
    exact fr_e2 h1 (Fr.rf (S := S))
  ·
    obtain ⟨S2, e2, h3⟩ := Option.bind_eq_some_iff.mp h1
    have f4 : Fr (w1_f_X11_rule) (w2_f_X11_rule) S S2 := (Fr.rf (S := S)).tr (fr_pI e2 (by unfold w1_f_X11_rule; exact Or.inr (Or.inr (Or.inr (Or.inr (Or.inr (Or.inr (Or.inr (Or.inr (Or.inl (⟨rfl, rfl⟩)))))))))))
    obtain ⟨S5, e5, h6⟩ := Option.bind_eq_some_iff.mp h3
    have f7 : Fr (w1_f_X11_rule) (w2_f_X11_rule) S S5 := f4.tr (fr_sI e5 (fun k => by unfold w1_f_X11_rule; exact Or.inr (Or.inr (Or.inr (Or.inr (Or.inr (Or.inr (Or.inr (Or.inr (Or.inr (Or.inr (Or.inr (Or.inr (Or.inr (Or.inr (Or.inr (Or.inr (Or.inl (rfl)))))))))))))))))))
    obtain ⟨q8, e8, h9⟩ := Option.bind_eq_some_iff.mp h6
    have f10 : Fr (w1_f_X11_rule) (w2_f_X11_rule) S q8.2 := f7.tr (Fr.mo (fr_f_X11_readsAll e8) (fun a k q => by unfold w1_f_X11_readsAll at q; unfold w1_f_X11_rule; rcases q with q | q | q | q | q | q | q | q | q | q | q | q | q | q | q | q | q | q | q; exact Or.inl (q); exact Or.inr (Or.inr (Or.inl (q))); exact Or.inr (Or.inr (Or.inr (Or.inl (q)))); exact Or.inr (Or.inr (Or.inr (Or.inr (Or.inl (q))))); exact Or.inr (Or.inr (Or.inr (Or.inr (Or.inr (Or.inl (q)))))); exact Or.inr (Or.inr (Or.inr (Or.inr (Or.inr (Or.inr (Or.inl (q))))))); exact Or.inr (Or.inr (Or.inr (Or.inr (Or.inr (Or.inr (Or.inr (Or.inl (q)))))))); exact Or.inr (Or.inr (Or.inr (Or.inr (Or.inr (Or.inr (Or.inr (Or.inr (Or.inr (Or.inl (q)))))))))); exact Or.inr (Or.inr (Or.inr (Or.inr (Or.inr (Or.inr (Or.inr (Or.inr (Or.inr (Or.inr (Or.inl (q))))))))))); exact Or.inr (Or.inr (Or.inr (Or.inr (Or.inr (Or.inr (Or.inr (Or.inr (Or.inr (Or.inr (Or.inr (Or.inl (q)))))))))))); exact Or.inr (Or.inr (Or.inr (Or.inr (Or.inr (Or.inr (Or.inr (Or.inr (Or.inr (Or.inr (Or.inr (Or.inr (Or.inl (q))))))))))))); exact Or.inr (Or.inr (Or.inr (Or.inr (Or.inr (Or.inr (Or.inr (Or.inr (Or.inr (Or.inr (Or.inr (Or.inr (Or.inr (Or.inl (q)))))))))))))); exact Or.inr (Or.inr (Or.inr (Or.inr (Or.inr (Or.inr (Or.inr (Or.inr (Or.inr (Or.inr (Or.inr (Or.inr (Or.inr (Or.inr (Or.inl (q))))))))))))))); exact Or.inr (Or.inr (Or.inr (Or.inr (Or.inr (Or.inr (Or.inr (Or.inr (Or.inr (Or.inr (Or.inr (Or.inr (Or.inr (Or.inr (Or.inr (Or.inl (q)))))))))))))))); exact Or.inr (Or.inr (Or.inr (Or.inr (Or.inr (Or.inr (Or.inr (Or.inr (Or.inr (Or.inr (Or.inr (Or.inr (Or.inr (Or.inr (Or.inr (Or.inr (Or.inl (q))))))))))))))))); exact Or.inr (Or.inr (Or.inr (Or.inr (Or.inr (Or.inr (Or.inr (Or.inr (Or.inr (Or.inr (Or.inr (Or.inr (Or.inr (Or.inr (Or.inr (Or.inr (Or.inr (Or.inl (q)))))))))))))))))); exact Or.inr (Or.inr (Or.inr (Or.inr (Or.inr (Or.inr (Or.inr (Or.inr (Or.inr (Or.inr (Or.inr (Or.inr (Or.inr (Or.inr (Or.inr (Or.inr (Or.inr (Or.inr (Or.inl (q))))))))))))))))))); exact Or.inr (Or.inr (Or.inr (Or.inr (Or.inr (Or.inr (Or.inr (Or.inr (Or.inr (Or.inr (Or.inr (Or.inr (Or.inr (Or.inr (Or.inr (Or.inr (Or.inr (Or.inr (Or.inr (Or.inl (q)))))))))))))))))))); exact Or.inr (Or.inr (Or.inr (Or.inr (Or.inr (Or.inr (Or.inr (Or.inr (Or.inr (Or.inr (Or.inr (Or.inr (Or.inr (Or.inr (Or.inr (Or.inr (Or.inr (Or.inr (Or.inr (Or.inr ((q)))))))))))))))))))))) (fun _ _ q => False.elim q))
    rcases fr_ite h9 with h11 | h11
    ·
      exact fr_e2 h11 f10
    ·
      obtain ⟨S12, e12, h13⟩ := Option.bind_eq_some_iff.mp h11
      have f14 : Fr (w1_f_X11_rule) (w2_f_X11_rule) S S12 := f10.tr (fr_pI e12 (by unfold w1_f_X11_rule; exact Or.inr (Or.inl (⟨rfl, rfl⟩))))
      exact fr_e2 h13 f14
