def w1_lp_X11_plan_218 (a k : Nat) : Prop := False
def w2_lp_X11_plan_218 (a k : Nat) : Prop := False
theorem fr_lp_X11_plan_218 {p3 : Int32} {p6 : Int32} {p7 : Int64} {K : Int32 → fS → Option (Int64 × fS)} {r : Int64 × fS} {v1 v2 : Nat → Nat → Prop} (s1 : ∀ a k, w1_lp_X11_plan_218 a k → v1 a k) (s2 : ∀ a k, w2_lp_X11_plan_218 a k → v2 a k) (hK : ∀ (x0 : Int32) (x1 : fS), K x0 x1 = some r → Fr v1 v2 x1 r.2) : ∀ (n : Nat) (p9 : Int32) (S0 : fS), lp_X11_plan_218 p3 p6 p7 K n p9 S0 = some r → Fr v1 v2 S0 r.2 := by
  intro n
  induction n with
  | zero => intro p9 S0 h; exact mm_no h
  | succ n ih =>
    intro p9 S0 h
    rw [lp_X11_plan_218.eq_2] at h
    obtain ⟨q55, e1, h2⟩ := Option.bind_eq_some_iff.mp h
    rcases fr_ite h2 with h3 | h3
    ·
      exact (Fr.rf (S := S0)).tr (hK _ _ h3)
    ·
      exact (Fr.rf (S := S0)).tr (ih _ _ h3)
def w1_f_X11_plan (a k : Nat) : Prop := False
def w2_f_X11_plan (a k : Nat) : Prop := a = 162
theorem fr_f_X11_plan {v1 : Int32} {v2 : Int32} {v3 : Int32} {v4 : Int32} {v5 : Int32} {S : fS} {r : Int64 × fS} (h : f_X11_plan v1 v2 v3 v4 v5 S = some r) : Fr (w1_f_X11_plan) (w2_f_X11_plan) S r.2 := by
  unfold f_X11_plan at h
  obtain ⟨q1, e1, h2⟩ := Option.bind_eq_some_iff.mp h
  rcases fr_ite h2 with h3 | h3
  ·
    exact fr_e2 h3 (Fr.rf (S := S))
  ·
    obtain ⟨q5, e4, h5⟩ := Option.bind_eq_some_iff.mp h3
    rcases fr_ite h5 with h6 | h6
    ·
      exact fr_e2 h6 (Fr.rf (S := S))
    ·
      obtain ⟨q9, e7, h8⟩ := Option.bind_eq_some_iff.mp h6
      rcases fr_ite h8 with h9 | h9
      ·
        exact fr_e2 h9 (Fr.rf (S := S))
      ·
        obtain ⟨q13, e10, h11⟩ := Option.bind_eq_some_iff.mp h9
        rcases fr_ite h11 with h12 | h12
        ·
          exact fr_e2 h12 (Fr.rf (S := S))
        ·
          obtain ⟨q17, e13, h14⟩ := Option.bind_eq_some_iff.mp h12
          rcases fr_ite h14 with h15 | h15
          ·
            exact fr_e2 h15 (Fr.rf (S := S))
          ·
            refine (Fr.rf (S := S)).tr (fr_lp_X11_plan_57 (v1 := w1_f_X11_plan) (v2 := w2_f_X11_plan) (fun _ _ q => False.elim q) (fun a k q => by unfold w2_lp_X11_plan_57 at q; unfold w2_f_X11_plan; exact q) (fun S29 h16 => ?_) _ _ _ h15)
            refine (Fr.rf (S := S29)).tr (fr_lp_X11_plan_100 (v1 := w1_f_X11_plan) (v2 := w2_f_X11_plan) (fun _ _ q => False.elim q) (fun a k q => by unfold w2_lp_X11_plan_100 at q; unfold w2_f_X11_plan; exact q) (fun S44 h17 => ?_) _ _ _ h16)
            obtain ⟨q46, e18, h19⟩ := Option.bind_eq_some_iff.mp h17
            obtain ⟨a49, e20, h21⟩ := Option.bind_eq_some_iff.mp h19
            rcases fr_ite h21 with h22 | h22
            ·
              rcases fr_ite h22 with h23 | h23
              ·
                rcases fr_ite h23 with h24 | h24
                ·
                  exact fr_e2 h24 (Fr.rf (S := S44))
                ·
                  refine (Fr.rf (S := S44)).tr (fr_lp_X11_plan_218 (v1 := w1_f_X11_plan) (v2 := w2_f_X11_plan) (fun _ _ q => False.elim q) (fun _ _ q => False.elim q) (fun u59 S60 h25 => ?_) _ _ _ h24)
                  rcases fr_ite h25 with h26 | h26
                  ·
                    exact fr_e2 h26 (Fr.rf (S := S60))
                  ·
                    exact fr_e2 h26 (Fr.rf (S := S60))
              ·
                obtain ⟨a63, e27, h28⟩ := Option.bind_eq_some_iff.mp h23
                obtain ⟨q66, e29, h30⟩ := Option.bind_eq_some_iff.mp h28
                exact fr_e2 h30 (Fr.rf (S := S44))
            ·
              exact fr_e2 h22 (Fr.rf (S := S44))
def w1_lp_X11_waiting_56 (a k : Nat) : Prop := False
def w2_lp_X11_waiting_56 (a k : Nat) : Prop := a = 162
theorem fr_lp_X11_waiting_56 {p1 : Int32} {p2 : Int32} {p3 : Int32} {p4 : Int32} {p5 : Int64} {p7 : Int32} {K : fS → Option (Int32 × fS)} {r : Int32 × fS} {v1 v2 : Nat → Nat → Prop} (s1 : ∀ a k, w1_lp_X11_waiting_56 a k → v1 a k) (s2 : ∀ a k, w2_lp_X11_waiting_56 a k → v2 a k) (hK : ∀ (x0 : fS), K x0 = some r → Fr v1 v2 x0 r.2) : ∀ (n : Nat) (p8 : Int32) (S0 : fS), lp_X11_waiting_56 p1 p2 p3 p4 p5 p7 K n p8 S0 = some r → Fr v1 v2 S0 r.2 := by
  intro n
  induction n with
  | zero => intro p8 S0 h; exact mm_no h
  | succ n ih =>
    intro p8 S0 h
    rw [lp_X11_waiting_56.eq_2] at h
    rcases fr_ite h with h1 | h1
    ·
      exact (Fr.rf (S := S0)).tr (hK _ h1)
    ·
      rcases fr_ite h1 with h2 | h2
      ·
        obtain ⟨S22, e3, h4⟩ := Option.bind_eq_some_iff.mp h2
        have f5 : Fr v1 v2 S0 S22 := (Fr.rf (S := S0)).tr (fr_sL e3 (fun k => by refine s2 _ _ ?_; unfold w2_lp_X11_waiting_56; exact rfl))
        exact f5.tr (ih _ _ h4)
      ·
        obtain ⟨S19, e6, h7⟩ := Option.bind_eq_some_iff.mp h2
        have f8 : Fr v1 v2 S0 S19 := (Fr.rf (S := S0)).tr (fr_sL e6 (fun k => by refine s2 _ _ ?_; unfold w2_lp_X11_waiting_56; exact rfl))
        exact f8.tr (ih _ _ h7)
def w1_lp_X11_waiting_108 (a k : Nat) : Prop := False
def w2_lp_X11_waiting_108 (a k : Nat) : Prop := a = 162
theorem fr_lp_X11_waiting_108 {p1 : Int32} {p2 : Int32} {p3 : Int32} {p4 : Int32} {p5 : Int64} {p7 : Int32} {p8 : Int32} {K : fS → Option (Int32 × fS)} {r : Int32 × fS} {v1 v2 : Nat → Nat → Prop} (s1 : ∀ a k, w1_lp_X11_waiting_108 a k → v1 a k) (s2 : ∀ a k, w2_lp_X11_waiting_108 a k → v2 a k) (hK : ∀ (x0 : fS), K x0 = some r → Fr v1 v2 x0 r.2) : ∀ (n : Nat) (p9 : Int32) (S0 : fS), lp_X11_waiting_108 p1 p2 p3 p4 p5 p7 p8 K n p9 S0 = some r → Fr v1 v2 S0 r.2 := by
  intro n
  induction n with
  | zero => intro p9 S0 h; exact mm_no h
  | succ n ih =>
    intro p9 S0 h
    rw [lp_X11_waiting_108.eq_2] at h
    obtain ⟨a28, e1, h2⟩ := Option.bind_eq_some_iff.mp h
    rcases fr_ite h2 with h3 | h3
    ·
      exact (Fr.rf (S := S0)).tr (hK _ h3)
    ·
      obtain ⟨q32, e4, h5⟩ := Option.bind_eq_some_iff.mp h3
      obtain ⟨S35, e6, h7⟩ := Option.bind_eq_some_iff.mp h5
      have f8 : Fr v1 v2 S0 S35 := (Fr.rf (S := S0)).tr (fr_sL e6 (fun k => by refine s2 _ _ ?_; unfold w2_lp_X11_waiting_108; exact rfl))
      exact f8.tr (ih _ _ h7)
def w1_lp_X11_waiting_100 (a k : Nat) : Prop := False
def w2_lp_X11_waiting_100 (a k : Nat) : Prop := a = 162
theorem fr_lp_X11_waiting_100 {p1 : Int32} {p2 : Int32} {p3 : Int32} {p4 : Int32} {p5 : Int64} {p7 : Int32} {K : fS → Option (Int32 × fS)} {r : Int32 × fS} {v1 v2 : Nat → Nat → Prop} (s1 : ∀ a k, w1_lp_X11_waiting_100 a k → v1 a k) (s2 : ∀ a k, w2_lp_X11_waiting_100 a k → v2 a k) (hK : ∀ (x0 : fS), K x0 = some r → Fr v1 v2 x0 r.2) : ∀ (n : Nat) (p8 : Int32) (S0 : fS), lp_X11_waiting_100 p1 p2 p3 p4 p5 p7 K n p8 S0 = some r → Fr v1 v2 S0 r.2 := by
  intro n
  induction n with
  | zero => intro p8 S0 h; exact mm_no h
  | succ n ih =>
    intro p8 S0 h
    rw [lp_X11_waiting_100.eq_2] at h
    rcases fr_ite h with h1 | h1
    ·
      exact (Fr.rf (S := S0)).tr (hK _ h1)
    ·
      refine (Fr.rf (S := S0)).tr (fr_lp_X11_waiting_108 (v1 := v1) (v2 := v2) (fun _ _ q => False.elim q) (fun a k q => by refine s2 _ _ ?_; unfold w2_lp_X11_waiting_108 at q; unfold w2_lp_X11_waiting_100; exact q) (fun S38 h2 => ?_) _ _ _ h1)
      exact (Fr.rf (S := S38)).tr (ih _ _ h2)
def w1_lp_X11_waiting_42 (a k : Nat) : Prop := False
def w2_lp_X11_waiting_42 (a k : Nat) : Prop := a = 162
theorem fr_lp_X11_waiting_42 {p1 : Int32} {p2 : Int32} {p3 : Int32} {K : Int32 → fS → Option (Int32 × fS)} {r : Int32 × fS} {v1 v2 : Nat → Nat → Prop} (s1 : ∀ a k, w1_lp_X11_waiting_42 a k → v1 a k) (s2 : ∀ a k, w2_lp_X11_waiting_42 a k → v2 a k) (hK : ∀ (x0 : Int32) (x1 : fS), K x0 x1 = some r → Fr v1 v2 x1 r.2) : ∀ (n : Nat) (p4 : Int32) (p5 : Int64) (p7 : Int32) (S0 : fS), lp_X11_waiting_42 p1 p2 p3 K n p4 p5 p7 S0 = some r → Fr v1 v2 S0 r.2 := by
  intro n
  induction n with
  | zero => intro p4 p5 p7 S0 h; exact mm_no h
  | succ n ih =>
    intro p4 p5 p7 S0 h
    rw [lp_X11_waiting_42.eq_2] at h
    obtain ⟨a13, e1, h2⟩ := Option.bind_eq_some_iff.mp h
    rcases fr_ite h2 with h3 | h3
    ·
      exact (Fr.rf (S := S0)).tr (hK _ _ h3)
    ·
      refine (Fr.rf (S := S0)).tr (fr_lp_X11_waiting_56 (v1 := v1) (v2 := v2) (fun _ _ q => False.elim q) (fun a k q => by refine s2 _ _ ?_; unfold w2_lp_X11_waiting_56 at q; unfold w2_lp_X11_waiting_42; exact q) (fun S25 h4 => ?_) _ _ _ h3)
      refine (Fr.rf (S := S25)).tr (fr_lp_X11_waiting_100 (v1 := v1) (v2 := v2) (fun _ _ q => False.elim q) (fun a k q => by refine s2 _ _ ?_; unfold w2_lp_X11_waiting_100 at q; unfold w2_lp_X11_waiting_42; exact q) (fun S40 h5 => ?_) _ _ _ h4)
      obtain ⟨q42, e6, h7⟩ := Option.bind_eq_some_iff.mp h5
      obtain ⟨a45, e8, h9⟩ := Option.bind_eq_some_iff.mp h7
      rcases fr_ite h9 with h10 | h10
      ·
        exact (Fr.rf (S := S40)).tr (ih _ _ _ _ h10)
      ·
        obtain ⟨q49, e11, h12⟩ := Option.bind_eq_some_iff.mp h10
        rcases fr_ite h12 with h13 | h13
        ·
          exact (Fr.rf (S := S40)).tr (ih _ _ _ _ h13)
        ·
          exact (Fr.rf (S := S40)).tr (ih _ _ _ _ h13)
def w1_f_X11_waiting (a k : Nat) : Prop := False
def w2_f_X11_waiting (a k : Nat) : Prop := a = 162
theorem fr_f_X11_waiting {v1 : Int32} {v2 : Int32} {v3 : Int32} {S : fS} {r : Int32 × fS} (h : f_X11_waiting v1 v2 v3 S = some r) : Fr (w1_f_X11_waiting) (w2_f_X11_waiting) S r.2 := by
  unfold f_X11_waiting at h
  obtain ⟨q1, e1, h2⟩ := Option.bind_eq_some_iff.mp h
  rcases fr_ite h2 with h3 | h3
  ·
    exact fr_e2 h3 (Fr.rf (S := S))
  ·
    obtain ⟨q5, e4, h5⟩ := Option.bind_eq_some_iff.mp h3
    rcases fr_ite h5 with h6 | h6
    ·
      exact fr_e2 h6 (Fr.rf (S := S))
    ·
      obtain ⟨q9, e7, h8⟩ := Option.bind_eq_some_iff.mp h6
      rcases fr_ite h8 with h9 | h9
      ·
        exact fr_e2 h9 (Fr.rf (S := S))
      ·
        refine (Fr.rf (S := S)).tr (fr_lp_X11_waiting_42 (v1 := w1_f_X11_waiting) (v2 := w2_f_X11_waiting) (fun _ _ q => False.elim q) (fun a k q => by unfold w2_lp_X11_waiting_42 at q; unfold w2_f_X11_waiting; exact q) (fun u53 S54 h10 => ?_) _ _ _ _ _ h9)
        exact fr_e2 h10 (Fr.rf (S := S54))
def w1_lp_X11_isSpare_2 (a k : Nat) : Prop := a = 163
def w2_lp_X11_isSpare_2 (a k : Nat) : Prop := False
theorem fr_lp_X11_isSpare_2 {p1 : Int32} {K : fS → Option (Int32 × fS)} {r : Int32 × fS} {v1 v2 : Nat → Nat → Prop} (s1 : ∀ a k, w1_lp_X11_isSpare_2 a k → v1 a k) (s2 : ∀ a k, w2_lp_X11_isSpare_2 a k → v2 a k) (hK : ∀ (x0 : fS), K x0 = some r → Fr v1 v2 x0 r.2) : ∀ (n : Nat) (p2 : Int32) (S0 : fS), lp_X11_isSpare_2 p1 K n p2 S0 = some r → Fr v1 v2 S0 r.2 := by
  intro n
  induction n with
  | zero => intro p2 S0 h; exact mm_no h
  | succ n ih =>
    intro p2 S0 h
    rw [lp_X11_isSpare_2.eq_2] at h
    rcases fr_ite h with h1 | h1
    ·
      exact (Fr.rf (S := S0)).tr (hK _ h1)
    ·
      obtain ⟨q2, e2, h3⟩ := Option.bind_eq_some_iff.mp h1
      rcases fr_ite h3 with h4 | h4
      ·
        obtain ⟨S9, e5, h6⟩ := Option.bind_eq_some_iff.mp h4
        have f7 : Fr v1 v2 S0 S9 := (Fr.rf (S := S0)).tr (fr_sI e5 (fun k => by refine s1 _ _ ?_; unfold w1_lp_X11_isSpare_2; exact rfl))
        exact f7.tr (ih _ _ h6)
      ·
        obtain ⟨S6, e8, h9⟩ := Option.bind_eq_some_iff.mp h4
        have f10 : Fr v1 v2 S0 S6 := (Fr.rf (S := S0)).tr (fr_sI e8 (fun k => by refine s1 _ _ ?_; unfold w1_lp_X11_isSpare_2; exact rfl))
        exact f10.tr (ih _ _ h9)
def w1_lp_X11_isSpare_45 (a k : Nat) : Prop := a = 163
def w2_lp_X11_isSpare_45 (a k : Nat) : Prop := False
theorem fr_lp_X11_isSpare_45 {p1 : Int32} {p2 : Int32} {K : fS → Option (Int32 × fS)} {r : Int32 × fS} {v1 v2 : Nat → Nat → Prop} (s1 : ∀ a k, w1_lp_X11_isSpare_45 a k → v1 a k) (s2 : ∀ a k, w2_lp_X11_isSpare_45 a k → v2 a k) (hK : ∀ (x0 : fS), K x0 = some r → Fr v1 v2 x0 r.2) : ∀ (n : Nat) (p3 : Int32) (S0 : fS), lp_X11_isSpare_45 p1 p2 K n p3 S0 = some r → Fr v1 v2 S0 r.2 := by
  intro n
  induction n with
  | zero => intro p3 S0 h; exact mm_no h
  | succ n ih =>
    intro p3 S0 h
    rw [lp_X11_isSpare_45.eq_2] at h
    obtain ⟨a15, e1, h2⟩ := Option.bind_eq_some_iff.mp h
    rcases fr_ite h2 with h3 | h3
    ·
      exact (Fr.rf (S := S0)).tr (hK _ h3)
    ·
      rcases fr_ite h3 with h4 | h4
      ·
        exact (Fr.rf (S := S0)).tr (ih _ _ h4)
      ·
        obtain ⟨q20, e5, h6⟩ := Option.bind_eq_some_iff.mp h4
        obtain ⟨a23, e7, h8⟩ := Option.bind_eq_some_iff.mp h6
        rcases fr_ite h8 with h9 | h9
        ·
          obtain ⟨q39, e10, h11⟩ := Option.bind_eq_some_iff.mp h9
          obtain ⟨a42, e12, h13⟩ := Option.bind_eq_some_iff.mp h11
          rcases fr_ite h13 with h14 | h14
          ·
            exact (Fr.rf (S := S0)).tr (ih _ _ h14)
          ·
            obtain ⟨q46, e15, h16⟩ := Option.bind_eq_some_iff.mp h14
            obtain ⟨S49, e17, h18⟩ := Option.bind_eq_some_iff.mp h16
            have f19 : Fr v1 v2 S0 S49 := (Fr.rf (S := S0)).tr (fr_sI e17 (fun k => by refine s1 _ _ ?_; unfold w1_lp_X11_isSpare_45; exact rfl))
            obtain ⟨q52, e20, h21⟩ := Option.bind_eq_some_iff.mp h18
            obtain ⟨S55, e22, h23⟩ := Option.bind_eq_some_iff.mp h21
            have f24 : Fr v1 v2 S0 S55 := f19.tr (fr_sI e22 (fun k => by refine s1 _ _ ?_; unfold w1_lp_X11_isSpare_45; exact rfl))
            exact f24.tr (ih _ _ h23)
        ·
          obtain ⟨q27, e25, h26⟩ := Option.bind_eq_some_iff.mp h9
          obtain ⟨S30, e27, h28⟩ := Option.bind_eq_some_iff.mp h26
          have f29 : Fr v1 v2 S0 S30 := (Fr.rf (S := S0)).tr (fr_sI e27 (fun k => by refine s1 _ _ ?_; unfold w1_lp_X11_isSpare_45; exact rfl))
          obtain ⟨q33, e30, h31⟩ := Option.bind_eq_some_iff.mp h28
          obtain ⟨S36, e32, h33⟩ := Option.bind_eq_some_iff.mp h31
          have f34 : Fr v1 v2 S0 S36 := f29.tr (fr_sI e32 (fun k => by refine s1 _ _ ?_; unfold w1_lp_X11_isSpare_45; exact rfl))
          exact f34.tr (ih _ _ h33)
def w1_lp_X11_isSpare_37 (a k : Nat) : Prop := a = 163
def w2_lp_X11_isSpare_37 (a k : Nat) : Prop := False
theorem fr_lp_X11_isSpare_37 {p1 : Int32} {K : fS → Option (Int32 × fS)} {r : Int32 × fS} {v1 v2 : Nat → Nat → Prop} (s1 : ∀ a k, w1_lp_X11_isSpare_37 a k → v1 a k) (s2 : ∀ a k, w2_lp_X11_isSpare_37 a k → v2 a k) (hK : ∀ (x0 : fS), K x0 = some r → Fr v1 v2 x0 r.2) : ∀ (n : Nat) (p2 : Int32) (S0 : fS), lp_X11_isSpare_37 p1 K n p2 S0 = some r → Fr v1 v2 S0 r.2 := by
  intro n
  induction n with
  | zero => intro p2 S0 h; exact mm_no h
  | succ n ih =>
    intro p2 S0 h
    rw [lp_X11_isSpare_37.eq_2] at h
    rcases fr_ite h with h1 | h1
    ·
      exact (Fr.rf (S := S0)).tr (hK _ h1)
    ·
      refine (Fr.rf (S := S0)).tr (fr_lp_X11_isSpare_45 (v1 := v1) (v2 := v2) (fun a k q => by refine s1 _ _ ?_; unfold w1_lp_X11_isSpare_45 at q; unfold w1_lp_X11_isSpare_37; exact q) (fun _ _ q => False.elim q) (fun S58 h2 => ?_) _ _ _ h1)
      exact (Fr.rf (S := S58)).tr (ih _ _ h2)
def w1_f_X11_isSpare (a k : Nat) : Prop := a = 163
def w2_f_X11_isSpare (a k : Nat) : Prop := False
theorem fr_f_X11_isSpare {v1 : Int32} {S : fS} {r : Int32 × fS} (h : f_X11_isSpare v1 S = some r) : Fr (w1_f_X11_isSpare) (w2_f_X11_isSpare) S r.2 := by
  unfold f_X11_isSpare at h
  refine (Fr.rf (S := S)).tr (fr_lp_X11_isSpare_2 (v1 := w1_f_X11_isSpare) (v2 := w2_f_X11_isSpare) (fun a k q => by unfold w1_lp_X11_isSpare_2 at q; unfold w1_f_X11_isSpare; exact q) (fun _ _ q => False.elim q) (fun S12 h1 => ?_) _ _ _ h)
  refine (Fr.rf (S := S12)).tr (fr_lp_X11_isSpare_37 (v1 := w1_f_X11_isSpare) (v2 := w2_f_X11_isSpare) (fun a k q => by unfold w1_lp_X11_isSpare_37 at q; unfold w1_f_X11_isSpare; exact q) (fun _ _ q => False.elim q) (fun S60 h2 => ?_) _ _ _ h1)
  obtain ⟨q62, e3, h4⟩ := Option.bind_eq_some_iff.mp h2
  obtain ⟨a65, e5, h6⟩ := Option.bind_eq_some_iff.mp h4
  obtain ⟨z68, e7, h8⟩ := Option.bind_eq_some_iff.mp h6
  exact fr_e2 h8 (Fr.rf (S := S60))
def w1_lp_X11_needed_4 (a k : Nat) : Prop := a = 163
def w2_lp_X11_needed_4 (a k : Nat) : Prop := False
theorem fr_lp_X11_needed_4 {K : Int32 → fS → Option (Int32 × fS)} {r : Int32 × fS} {v1 v2 : Nat → Nat → Prop} (s1 : ∀ a k, w1_lp_X11_needed_4 a k → v1 a k) (s2 : ∀ a k, w2_lp_X11_needed_4 a k → v2 a k) (hK : ∀ (x0 : Int32) (x1 : fS), K x0 x1 = some r → Fr v1 v2 x1 r.2) : ∀ (n : Nat) (p1 : Int32) (p2 : Int32) (S0 : fS), lp_X11_needed_4 K n p1 p2 S0 = some r → Fr v1 v2 S0 r.2 := by
  intro n
  induction n with
  | zero => intro p1 p2 S0 h; exact mm_no h
  | succ n ih =>
    intro p1 p2 S0 h
    rw [lp_X11_needed_4.eq_2] at h
    obtain ⟨a1, e1, h2⟩ := Option.bind_eq_some_iff.mp h
    rcases fr_ite h2 with h3 | h3
    ·
      exact (Fr.rf (S := S0)).tr (hK _ _ h3)
    ·
      obtain ⟨q5, e4, h5⟩ := Option.bind_eq_some_iff.mp h3
      have f6 : Fr v1 v2 S0 q5.2 := (Fr.rf (S := S0)).tr (Fr.mo (fr_f_X11_isSpare e4) (fun a k q => by refine s1 _ _ ?_; unfold w1_f_X11_isSpare at q; unfold w1_lp_X11_needed_4; exact q) (fun _ _ q => False.elim q))
      rcases fr_ite h5 with h7 | h7
      ·
        exact f6.tr (ih _ _ _ h7)
      ·
        exact f6.tr (ih _ _ _ h7)
def w1_f_X11_needed (a k : Nat) : Prop := a = 163
def w2_f_X11_needed (a k : Nat) : Prop := False
theorem fr_f_X11_needed {S : fS} {r : Int32 × fS} (h : f_X11_needed S = some r) : Fr (w1_f_X11_needed) (w2_f_X11_needed) S r.2 := by
  unfold f_X11_needed at h
  refine (Fr.rf (S := S)).tr (fr_lp_X11_needed_4 (v1 := w1_f_X11_needed) (v2 := w2_f_X11_needed) (fun a k q => by unfold w1_lp_X11_needed_4 at q; unfold w1_f_X11_needed; exact q) (fun _ _ q => False.elim q) (fun u9 S10 h1 => ?_) _ _ _ _ h)
  exact fr_e2 h1 (Fr.rf (S := S10))
def w1_lp_X11_elder_57 (a k : Nat) : Prop := (a = 145 ∧ k = 23) ∨ a = 157
def w2_lp_X11_elder_57 (a k : Nat) : Prop := a = 155 ∨ a = 156 ∨ a = 158
theorem fr_lp_X11_elder_57 {p1 : Int32} {p2 : Int32} {p3 : Int32} {K : fS → Option (Int64 × fS)} {r : Int64 × fS} {v1 v2 : Nat → Nat → Prop} (s1 : ∀ a k, w1_lp_X11_elder_57 a k → v1 a k) (s2 : ∀ a k, w2_lp_X11_elder_57 a k → v2 a k) (hK : ∀ (x0 : fS), K x0 = some r → Fr v1 v2 x0 r.2) : ∀ (n : Nat) (p4 : Int32) (S0 : fS), lp_X11_elder_57 p1 p2 p3 K n p4 S0 = some r → Fr v1 v2 S0 r.2 := by
  intro n
  induction n with
  | zero => intro p4 S0 h; exact mm_no h
  | succ n ih =>
    intro p4 S0 h
    rw [lp_X11_elder_57.eq_2] at h
    rcases fr_ite h with h1 | h1
    ·
      exact (Fr.rf (S := S0)).tr (hK _ h1)
    ·
      obtain ⟨q18, e2, h3⟩ := Option.bind_eq_some_iff.mp h1
      have f4 : Fr v1 v2 S0 q18 := (Fr.rf (S := S0)).tr (Fr.mo (fr_f_X11_hour e2) (fun a k q => by refine s1 _ _ ?_; unfold w1_f_X11_hour at q; unfold w1_lp_X11_elder_57; rcases q with q | q; exact Or.inl (q); exact Or.inr ((q))) (fun a k q => by refine s2 _ _ ?_; unfold w2_f_X11_hour at q; unfold w2_lp_X11_elder_57; rcases q with q | q | q; exact Or.inl (q); exact Or.inr (Or.inl (q)); exact Or.inr (Or.inr ((q)))))
      exact f4.tr (ih _ _ h3)
def w1_lp_X11_elder_83 (a k : Nat) : Prop := False
def w2_lp_X11_elder_83 (a k : Nat) : Prop := False
theorem fr_lp_X11_elder_83 {p3 : Int32} {K : Int32 → Int32 → fS → Option (Int64 × fS)} {r : Int64 × fS} {v1 v2 : Nat → Nat → Prop} (s1 : ∀ a k, w1_lp_X11_elder_83 a k → v1 a k) (s2 : ∀ a k, w2_lp_X11_elder_83 a k → v2 a k) (hK : ∀ (x0 : Int32) (x1 : Int32) (x2 : fS), K x0 x1 x2 = some r → Fr v1 v2 x2 r.2) : ∀ (n : Nat) (p4 : Int32) (p5 : Int32) (p6 : Int32) (S0 : fS), lp_X11_elder_83 p3 K n p4 p5 p6 S0 = some r → Fr v1 v2 S0 r.2 := by
  intro n
  induction n with
  | zero => intro p4 p5 p6 S0 h; exact mm_no h
  | succ n ih =>
    intro p4 p5 p6 S0 h
    rw [lp_X11_elder_83.eq_2] at h
    obtain ⟨a23, e1, h2⟩ := Option.bind_eq_some_iff.mp h
    rcases fr_ite h2 with h3 | h3
    ·
      exact (Fr.rf (S := S0)).tr (hK _ _ _ h3)
    ·
      obtain ⟨a27, e4, h5⟩ := Option.bind_eq_some_iff.mp h3
      obtain ⟨a30, e6, h7⟩ := Option.bind_eq_some_iff.mp h5
      rcases fr_ite h7 with h8 | h8
      ·
        obtain ⟨a34, e9, h10⟩ := Option.bind_eq_some_iff.mp h8
        obtain ⟨a37, e11, h12⟩ := Option.bind_eq_some_iff.mp h10
        rcases fr_ite h12 with h13 | h13
        ·
          exact (Fr.rf (S := S0)).tr (ih _ _ _ _ h13)
        ·
          exact (Fr.rf (S := S0)).tr (ih _ _ _ _ h13)
      ·
        obtain ⟨a41, e14, h15⟩ := Option.bind_eq_some_iff.mp h8
        obtain ⟨a44, e16, h17⟩ := Option.bind_eq_some_iff.mp h15
        rcases fr_ite h17 with h18 | h18
        ·
          exact (Fr.rf (S := S0)).tr (ih _ _ _ _ h18)
        ·
          exact (Fr.rf (S := S0)).tr (ih _ _ _ _ h18)
def w1_f_X11_elder (a k : Nat) : Prop := (a = 145 ∧ k = 23) ∨ a = 157 ∨ a = 159
def w2_f_X11_elder (a k : Nat) : Prop := a = 155 ∨ a = 156 ∨ a = 158 ∨ a = 160
theorem fr_f_X11_elder {v1 : Int32} {v2 : Int32} {v3 : Int32} {S : fS} {r : Int64 × fS} (h : f_X11_elder v1 v2 v3 S = some r) : Fr (w1_f_X11_elder) (w2_f_X11_elder) S r.2 := by
  unfold f_X11_elder at h
  rcases fr_ite h with h1 | h1
  ·
    obtain ⟨q2, e2, h3⟩ := Option.bind_eq_some_iff.mp h1
    rcases fr_ite h3 with h4 | h4
    ·
      exact fr_e2 h4 (Fr.rf (S := S))
    ·
      obtain ⟨q6, e5, h6⟩ := Option.bind_eq_some_iff.mp h4
      rcases fr_ite h6 with h7 | h7
      ·
        exact fr_e2 h7 (Fr.rf (S := S))
      ·
        obtain ⟨a10, e8, h9⟩ := Option.bind_eq_some_iff.mp h7
        rcases fr_ite h9 with h10 | h10
        ·
          exact fr_e2 h10 (Fr.rf (S := S))
        ·
          obtain ⟨q14, e11, h12⟩ := Option.bind_eq_some_iff.mp h10
          have f13 : Fr (w1_f_X11_elder) (w2_f_X11_elder) S q14 := (Fr.rf (S := S)).tr (Fr.mo (fr_f_X11_keeps e11) (fun a k q => by unfold w1_f_X11_keeps at q; unfold w1_f_X11_elder; exact Or.inr (Or.inr ((q)))) (fun a k q => by unfold w2_f_X11_keeps at q; unfold w2_f_X11_elder; exact Or.inr (Or.inr (Or.inr ((q))))))
          refine f13.tr (fr_lp_X11_elder_57 (v1 := w1_f_X11_elder) (v2 := w2_f_X11_elder) (fun a k q => by unfold w1_lp_X11_elder_57 at q; unfold w1_f_X11_elder; rcases q with q | q; exact Or.inl (q); exact Or.inr (Or.inl (q))) (fun a k q => by unfold w2_lp_X11_elder_57 at q; unfold w2_f_X11_elder; rcases q with q | q | q; exact Or.inl (q); exact Or.inr (Or.inl (q)); exact Or.inr (Or.inr (Or.inl (q)))) (fun S21 h14 => ?_) _ _ _ h12)
          refine (Fr.rf (S := S21)).tr (fr_lp_X11_elder_83 (v1 := w1_f_X11_elder) (v2 := w2_f_X11_elder) (fun _ _ q => False.elim q) (fun _ _ q => False.elim q) (fun u48 u49 S50 h15 => ?_) _ _ _ _ _ h14)
          rcases fr_ite h15 with h16 | h16
          ·
            obtain ⟨q69, e17, h18⟩ := Option.bind_eq_some_iff.mp h16
            have f19 : Fr (w1_f_X11_elder) (w2_f_X11_elder) S50 q69 := (Fr.rf (S := S50)).tr (Fr.mo (fr_f_X11_putsBack e17) (fun a k q => by unfold w1_f_X11_putsBack at q; unfold w1_f_X11_elder; exact Or.inr (Or.inl (q))) (fun a k q => by unfold w2_f_X11_putsBack at q; unfold w2_f_X11_elder; exact Or.inr (Or.inr (Or.inl (q)))))
            exact fr_e2 h18 f19
          ·
            rcases fr_ite h16 with h20 | h20
            ·
              obtain ⟨q66, e21, h22⟩ := Option.bind_eq_some_iff.mp h20
              have f23 : Fr (w1_f_X11_elder) (w2_f_X11_elder) S50 q66 := (Fr.rf (S := S50)).tr (Fr.mo (fr_f_X11_putsBack e21) (fun a k q => by unfold w1_f_X11_putsBack at q; unfold w1_f_X11_elder; exact Or.inr (Or.inl (q))) (fun a k q => by unfold w2_f_X11_putsBack at q; unfold w2_f_X11_elder; exact Or.inr (Or.inr (Or.inl (q)))))
              exact fr_e2 h22 f23
            ·
              obtain ⟨a54, e24, h25⟩ := Option.bind_eq_some_iff.mp h20
              obtain ⟨a57, e26, h27⟩ := Option.bind_eq_some_iff.mp h25
              obtain ⟨q60, e28, h29⟩ := Option.bind_eq_some_iff.mp h27
              obtain ⟨q63, e30, h31⟩ := Option.bind_eq_some_iff.mp h29
              have f32 : Fr (w1_f_X11_elder) (w2_f_X11_elder) S50 q63 := (Fr.rf (S := S50)).tr (Fr.mo (fr_f_X11_putsBack e30) (fun a k q => by unfold w1_f_X11_putsBack at q; unfold w1_f_X11_elder; exact Or.inr (Or.inl (q))) (fun a k q => by unfold w2_f_X11_putsBack at q; unfold w2_f_X11_elder; exact Or.inr (Or.inr (Or.inl (q)))))
              exact fr_e2 h31 f32
  ·
    obtain ⟨q72, e33, h34⟩ := Option.bind_eq_some_iff.mp h1
    rcases fr_ite h34 with h35 | h35
    ·
      exact fr_e2 h35 (Fr.rf (S := S))
    ·
      obtain ⟨q76, e36, h37⟩ := Option.bind_eq_some_iff.mp h35
      rcases fr_ite h37 with h38 | h38
      ·
        exact fr_e2 h38 (Fr.rf (S := S))
      ·
        obtain ⟨q80, e39, h40⟩ := Option.bind_eq_some_iff.mp h38
        rcases fr_ite h40 with h41 | h41
        ·
          exact fr_e2 h41 (Fr.rf (S := S))
        ·
          obtain ⟨a84, e42, h43⟩ := Option.bind_eq_some_iff.mp h41
          rcases fr_ite h43 with h44 | h44
          ·
            exact fr_e2 h44 (Fr.rf (S := S))
          ·
            obtain ⟨q88, e45, h46⟩ := Option.bind_eq_some_iff.mp h44
            have f47 : Fr (w1_f_X11_elder) (w2_f_X11_elder) S q88 := (Fr.rf (S := S)).tr (Fr.mo (fr_f_X11_keeps e45) (fun a k q => by unfold w1_f_X11_keeps at q; unfold w1_f_X11_elder; exact Or.inr (Or.inr ((q)))) (fun a k q => by unfold w2_f_X11_keeps at q; unfold w2_f_X11_elder; exact Or.inr (Or.inr (Or.inr ((q))))))
            refine f47.tr (fr_lp_X11_elder_57 (v1 := w1_f_X11_elder) (v2 := w2_f_X11_elder) (fun a k q => by unfold w1_lp_X11_elder_57 at q; unfold w1_f_X11_elder; rcases q with q | q; exact Or.inl (q); exact Or.inr (Or.inl (q))) (fun a k q => by unfold w2_lp_X11_elder_57 at q; unfold w2_f_X11_elder; rcases q with q | q | q; exact Or.inl (q); exact Or.inr (Or.inl (q)); exact Or.inr (Or.inr (Or.inl (q)))) (fun S91 h48 => ?_) _ _ _ h46)
            refine (Fr.rf (S := S91)).tr (fr_lp_X11_elder_83 (v1 := w1_f_X11_elder) (v2 := w2_f_X11_elder) (fun _ _ q => False.elim q) (fun _ _ q => False.elim q) (fun u93 u94 S95 h49 => ?_) _ _ _ _ _ h48)
            rcases fr_ite h49 with h50 | h50
            ·
              obtain ⟨q114, e51, h52⟩ := Option.bind_eq_some_iff.mp h50
              have f53 : Fr (w1_f_X11_elder) (w2_f_X11_elder) S95 q114 := (Fr.rf (S := S95)).tr (Fr.mo (fr_f_X11_putsBack e51) (fun a k q => by unfold w1_f_X11_putsBack at q; unfold w1_f_X11_elder; exact Or.inr (Or.inl (q))) (fun a k q => by unfold w2_f_X11_putsBack at q; unfold w2_f_X11_elder; exact Or.inr (Or.inr (Or.inl (q)))))
              exact fr_e2 h52 f53
            ·
              rcases fr_ite h50 with h54 | h54
              ·
                obtain ⟨q111, e55, h56⟩ := Option.bind_eq_some_iff.mp h54
                have f57 : Fr (w1_f_X11_elder) (w2_f_X11_elder) S95 q111 := (Fr.rf (S := S95)).tr (Fr.mo (fr_f_X11_putsBack e55) (fun a k q => by unfold w1_f_X11_putsBack at q; unfold w1_f_X11_elder; exact Or.inr (Or.inl (q))) (fun a k q => by unfold w2_f_X11_putsBack at q; unfold w2_f_X11_elder; exact Or.inr (Or.inr (Or.inl (q)))))
                exact fr_e2 h56 f57
              ·
                obtain ⟨a99, e58, h59⟩ := Option.bind_eq_some_iff.mp h54
                obtain ⟨a102, e60, h61⟩ := Option.bind_eq_some_iff.mp h59
                obtain ⟨q105, e62, h63⟩ := Option.bind_eq_some_iff.mp h61
                obtain ⟨q108, e64, h65⟩ := Option.bind_eq_some_iff.mp h63
                have f66 : Fr (w1_f_X11_elder) (w2_f_X11_elder) S95 q108 := (Fr.rf (S := S95)).tr (Fr.mo (fr_f_X11_putsBack e64) (fun a k q => by unfold w1_f_X11_putsBack at q; unfold w1_f_X11_elder; exact Or.inr (Or.inl (q))) (fun a k q => by unfold w2_f_X11_putsBack at q; unfold w2_f_X11_elder; exact Or.inr (Or.inr (Or.inl (q)))))
                exact fr_e2 h65 f66
def w1_lp_X11_comes_3 (a k : Nat) : Prop := a = 167
def w2_lp_X11_comes_3 (a k : Nat) : Prop := False
theorem fr_lp_X11_comes_3 {p1 : Int32} {p2 : Int32} {p3 : Int64} {p5 : Int32} {K : fS → Option (fS)} {r : fS} {v1 v2 : Nat → Nat → Prop} (s1 : ∀ a k, w1_lp_X11_comes_3 a k → v1 a k) (s2 : ∀ a k, w2_lp_X11_comes_3 a k → v2 a k) (hK : ∀ (x0 : fS), K x0 = some r → Fr v1 v2 x0 r) : ∀ (n : Nat) (p6 : Int32) (S0 : fS), lp_X11_comes_3 p1 p2 p3 p5 K n p6 S0 = some r → Fr v1 v2 S0 r := by
  intro n
  induction n with
  | zero => intro p6 S0 h; exact mm_no h
  | succ n ih =>
    intro p6 S0 h
    rw [lp_X11_comes_3.eq_2] at h
    rcases fr_ite h with h1 | h1
    ·
      exact (Fr.rf (S := S0)).tr (hK _ h1)
    ·
      obtain ⟨a2, e2, h3⟩ := Option.bind_eq_some_iff.mp h1
      rcases fr_ite h3 with h4 | h4
      ·
        obtain ⟨a6, e5, h6⟩ := Option.bind_eq_some_iff.mp h4
        rcases fr_ite h6 with h7 | h7
        ·
          obtain ⟨a10, e8, h9⟩ := Option.bind_eq_some_iff.mp h7
          rcases fr_ite h9 with h10 | h10
          ·
            obtain ⟨a14, e11, h12⟩ := Option.bind_eq_some_iff.mp h10
            rcases fr_ite h12 with h13 | h13
            ·
              obtain ⟨a18, e14, h15⟩ := Option.bind_eq_some_iff.mp h13
              obtain ⟨S21, e16, h17⟩ := Option.bind_eq_some_iff.mp h15
              have f18 : Fr v1 v2 S0 S21 := (Fr.rf (S := S0)).tr (fr_sI e16 (fun k => by refine s1 _ _ ?_; unfold w1_lp_X11_comes_3; exact rfl))
              exact fr_e1 h17 f18
            ·
              obtain ⟨S24, e19, h20⟩ := Option.bind_eq_some_iff.mp h13
              have f21 : Fr v1 v2 S0 S24 := (Fr.rf (S := S0)).tr (fr_sI e19 (fun k => by refine s1 _ _ ?_; unfold w1_lp_X11_comes_3; exact rfl))
              exact fr_e1 h20 f21
          ·
            exact (Fr.rf (S := S0)).tr (ih _ _ h10)
        ·
          exact (Fr.rf (S := S0)).tr (ih _ _ h7)
      ·
        exact (Fr.rf (S := S0)).tr (ih _ _ h4)
def w1_f_X11_comes (a k : Nat) : Prop := (a = 145 ∧ k = 36) ∨ a = 164 ∨ a = 165 ∨ a = 167
def w2_f_X11_comes (a k : Nat) : Prop := a = 166
theorem fr_f_X11_comes {v1 : Int32} {v2 : Int32} {v3 : Int64} {v5 : Int32} {S : fS} {r : fS} (h : f_X11_comes v1 v2 v3 v5 S = some r) : Fr (w1_f_X11_comes) (w2_f_X11_comes) S r := by
  unfold f_X11_comes at h
  refine (Fr.rf (S := S)).tr (fr_lp_X11_comes_3 (v1 := w1_f_X11_comes) (v2 := w2_f_X11_comes) (fun a k q => by unfold w1_lp_X11_comes_3 at q; unfold w1_f_X11_comes; exact Or.inr (Or.inr (Or.inr ((q))))) (fun _ _ q => False.elim q) (fun S27 h1 => ?_) _ _ _ h)
  rcases fr_ite h1 with h2 | h2
  ·
    obtain ⟨S30, e3, h4⟩ := Option.bind_eq_some_iff.mp h2
    have f5 : Fr (w1_f_X11_comes) (w2_f_X11_comes) S27 S30 := (Fr.rf (S := S27)).tr (fr_sI e3 (fun k => by unfold w1_f_X11_comes; exact Or.inr (Or.inl (rfl))))
    obtain ⟨S33, e6, h7⟩ := Option.bind_eq_some_iff.mp h4
    have f8 : Fr (w1_f_X11_comes) (w2_f_X11_comes) S27 S33 := f5.tr (fr_sI e6 (fun k => by unfold w1_f_X11_comes; exact Or.inr (Or.inr (Or.inl (rfl)))))
    obtain ⟨S36, e9, h10⟩ := Option.bind_eq_some_iff.mp h7
    have f11 : Fr (w1_f_X11_comes) (w2_f_X11_comes) S27 S36 := f8.tr (fr_sL e9 (fun k => by unfold w2_f_X11_comes; exact rfl))
    obtain ⟨S39, e12, h13⟩ := Option.bind_eq_some_iff.mp h10
    have f14 : Fr (w1_f_X11_comes) (w2_f_X11_comes) S27 S39 := f11.tr (fr_sI e12 (fun k => by unfold w1_f_X11_comes; exact Or.inr (Or.inr (Or.inr ((rfl))))))
    obtain ⟨S42, e15, h16⟩ := Option.bind_eq_some_iff.mp h13
    have f17 : Fr (w1_f_X11_comes) (w2_f_X11_comes) S27 S42 := f14.tr (fr_pI e15 (by unfold w1_f_X11_comes; exact Or.inl (⟨rfl, rfl⟩)))
    exact fr_e1 h16 f17
  ·
    exact fr_e1 h2 (Fr.rf (S := S27))
def w1_lp_X11_goesOn_51 (a k : Nat) : Prop := (a = 145 ∧ k = 36) ∨ a = 164 ∨ a = 165 ∨ a = 167
def w2_lp_X11_goesOn_51 (a k : Nat) : Prop := a = 166
theorem fr_lp_X11_goesOn_51 {p1 : Int32} {p2 : Int32} {p3 : Int32} {p4 : Int32} {K : fS → Option (fS)} {r : fS} {v1 v2 : Nat → Nat → Prop} (s1 : ∀ a k, w1_lp_X11_goesOn_51 a k → v1 a k) (s2 : ∀ a k, w2_lp_X11_goesOn_51 a k → v2 a k) (hK : ∀ (x0 : fS), K x0 = some r → Fr v1 v2 x0 r) : ∀ (n : Nat) (p5 : Int32) (S0 : fS), lp_X11_goesOn_51 p1 p2 p3 p4 K n p5 S0 = some r → Fr v1 v2 S0 r := by
  intro n
  induction n with
  | zero => intro p5 S0 h; exact mm_no h
  | succ n ih =>
    intro p5 S0 h
    rw [lp_X11_goesOn_51.eq_2] at h
    obtain ⟨a8, e1, h2⟩ := Option.bind_eq_some_iff.mp h
    rcases fr_ite h2 with h3 | h3
    ·
      exact (Fr.rf (S := S0)).tr (hK _ h3)
    ·
      obtain ⟨q12, e4, h5⟩ := Option.bind_eq_some_iff.mp h3
      obtain ⟨q15, e6, h7⟩ := Option.bind_eq_some_iff.mp h5
      rcases fr_ite h7 with h8 | h8
      ·
        exact (Fr.rf (S := S0)).tr (ih _ _ h8)
      ·
        rcases fr_ite h8 with h9 | h9
        ·
          exact (Fr.rf (S := S0)).tr (ih _ _ h9)
        ·
          obtain ⟨q20, e10, h11⟩ := Option.bind_eq_some_iff.mp h9
          obtain ⟨a23, e12, h13⟩ := Option.bind_eq_some_iff.mp h11
          obtain ⟨q26, e14, h15⟩ := Option.bind_eq_some_iff.mp h13
          obtain ⟨a29, e16, h17⟩ := Option.bind_eq_some_iff.mp h15
          obtain ⟨q32, e18, h19⟩ := Option.bind_eq_some_iff.mp h17
          have f20 : Fr v1 v2 S0 q32 := (Fr.rf (S := S0)).tr (Fr.mo (fr_f_X11_comes e18) (fun a k q => by refine s1 _ _ ?_; unfold w1_f_X11_comes at q; unfold w1_lp_X11_goesOn_51; rcases q with q | q | q | q; exact Or.inl (q); exact Or.inr (Or.inl (q)); exact Or.inr (Or.inr (Or.inl (q))); exact Or.inr (Or.inr (Or.inr ((q))))) (fun a k q => by refine s2 _ _ ?_; unfold w2_f_X11_comes at q; unfold w2_lp_X11_goesOn_51; exact q))
          exact f20.tr (ih _ _ h19)
def w1_f_X11_goesOn (a k : Nat) : Prop := (a = 145 ∧ k = 36) ∨ a = 164 ∨ a = 165 ∨ a = 167
def w2_f_X11_goesOn (a k : Nat) : Prop := a = 166
theorem fr_f_X11_goesOn {v1 : Int32} {v2 : Int32} {S : fS} {r : fS} (h : f_X11_goesOn v1 v2 S = some r) : Fr (w1_f_X11_goesOn) (w2_f_X11_goesOn) S r := by
  unfold f_X11_goesOn at h
  obtain ⟨a1, e1, h2⟩ := Option.bind_eq_some_iff.mp h
  obtain ⟨a4, e3, h4⟩ := Option.bind_eq_some_iff.mp h2
  rcases fr_ite h4 with h5 | h5
  ·
    refine (Fr.rf (S := S)).tr (fr_lp_X11_goesOn_51 (v1 := w1_f_X11_goesOn) (v2 := w2_f_X11_goesOn) (fun a k q => by unfold w1_lp_X11_goesOn_51 at q; unfold w1_f_X11_goesOn; rcases q with q | q | q | q; exact Or.inl (q); exact Or.inr (Or.inl (q)); exact Or.inr (Or.inr (Or.inl (q))); exact Or.inr (Or.inr (Or.inr ((q))))) (fun a k q => by unfold w2_lp_X11_goesOn_51 at q; unfold w2_f_X11_goesOn; exact q) (fun S35 h6 => ?_) _ _ _ h5)
    exact fr_e1 h6 (Fr.rf (S := S35))
  ·
    obtain ⟨a37, e7, h8⟩ := Option.bind_eq_some_iff.mp h5
    obtain ⟨q40, e9, h10⟩ := Option.bind_eq_some_iff.mp h8
    obtain ⟨a43, e11, h12⟩ := Option.bind_eq_some_iff.mp h10
    obtain ⟨q46, e13, h14⟩ := Option.bind_eq_some_iff.mp h12
    have f15 : Fr (w1_f_X11_goesOn) (w2_f_X11_goesOn) S q46 := (Fr.rf (S := S)).tr (Fr.mo (fr_f_X11_comes e13) (fun a k q => by unfold w1_f_X11_comes at q; unfold w1_f_X11_goesOn; rcases q with q | q | q | q; exact Or.inl (q); exact Or.inr (Or.inl (q)); exact Or.inr (Or.inr (Or.inl (q))); exact Or.inr (Or.inr (Or.inr ((q))))) (fun a k q => by unfold w2_f_X11_comes at q; unfold w2_f_X11_goesOn; exact q))
    refine f15.tr (fr_lp_X11_goesOn_51 (v1 := w1_f_X11_goesOn) (v2 := w2_f_X11_goesOn) (fun a k q => by unfold w1_lp_X11_goesOn_51 at q; unfold w1_f_X11_goesOn; rcases q with q | q | q | q; exact Or.inl (q); exact Or.inr (Or.inl (q)); exact Or.inr (Or.inr (Or.inl (q))); exact Or.inr (Or.inr (Or.inr ((q))))) (fun a k q => by unfold w2_lp_X11_goesOn_51 at q; unfold w2_f_X11_goesOn; exact q) (fun S49 h16 => ?_) _ _ _ h14)
    exact fr_e1 h16 (Fr.rf (S := S49))
def w1_lp_X11_ripe_93 (a k : Nat) : Prop := (a = 145 ∧ k = 36) ∨ a = 164 ∨ a = 165 ∨ a = 167
def w2_lp_X11_ripe_93 (a k : Nat) : Prop := a = 166
theorem fr_lp_X11_ripe_93 {p2 : Int32} {p3 : Int32} {p4 : Int32} {p5 : Int32} {p6 : Int32} {K : fS → Option (Int32 × fS)} {r : Int32 × fS} {v1 v2 : Nat → Nat → Prop} (s1 : ∀ a k, w1_lp_X11_ripe_93 a k → v1 a k) (s2 : ∀ a k, w2_lp_X11_ripe_93 a k → v2 a k) (hK : ∀ (x0 : fS), K x0 = some r → Fr v1 v2 x0 r.2) : ∀ (n : Nat) (p7 : Int32) (S0 : fS), lp_X11_ripe_93 p2 p3 p4 p5 p6 K n p7 S0 = some r → Fr v1 v2 S0 r.2 := by
  intro n
  induction n with
  | zero => intro p7 S0 h; exact mm_no h
  | succ n ih =>
    intro p7 S0 h
    rw [lp_X11_ripe_93.eq_2] at h
    rcases fr_ite h with h1 | h1
    ·
      exact (Fr.rf (S := S0)).tr (hK _ h1)
    ·
      rcases fr_ite h1 with h2 | h2
      ·
        exact (Fr.rf (S := S0)).tr (hK _ h2)
      ·
        obtain ⟨a31, e3, h4⟩ := Option.bind_eq_some_iff.mp h2
        rcases fr_ite h4 with h5 | h5
        ·
          obtain ⟨q35, e6, h7⟩ := Option.bind_eq_some_iff.mp h5
          have f8 : Fr v1 v2 S0 q35 := (Fr.rf (S := S0)).tr (Fr.mo (fr_f_X11_goesOn e6) (fun a k q => by refine s1 _ _ ?_; unfold w1_f_X11_goesOn at q; unfold w1_lp_X11_ripe_93; rcases q with q | q | q | q; exact Or.inl (q); exact Or.inr (Or.inl (q)); exact Or.inr (Or.inr (Or.inl (q))); exact Or.inr (Or.inr (Or.inr ((q))))) (fun a k q => by refine s2 _ _ ?_; unfold w2_f_X11_goesOn at q; unfold w2_lp_X11_ripe_93; exact q))
          exact f8.tr (ih _ _ h7)
        ·
          exact (Fr.rf (S := S0)).tr (ih _ _ h5)
def w1_lp_X11_ripe_74 (a k : Nat) : Prop := (a = 145 ∧ k = 36) ∨ a = 164 ∨ a = 165 ∨ a = 167
def w2_lp_X11_ripe_74 (a k : Nat) : Prop := a = 166
theorem fr_lp_X11_ripe_74 {p2 : Int32} {p3 : Int32} {p4 : Int32} {p5 : Int32} {K : fS → Option (Int32 × fS)} {r : Int32 × fS} {v1 v2 : Nat → Nat → Prop} (s1 : ∀ a k, w1_lp_X11_ripe_74 a k → v1 a k) (s2 : ∀ a k, w2_lp_X11_ripe_74 a k → v2 a k) (hK : ∀ (x0 : fS), K x0 = some r → Fr v1 v2 x0 r.2) : ∀ (n : Nat) (p6 : Int32) (S0 : fS), lp_X11_ripe_74 p2 p3 p4 p5 K n p6 S0 = some r → Fr v1 v2 S0 r.2 := by
  intro n
  induction n with
  | zero => intro p6 S0 h; exact mm_no h
  | succ n ih =>
    intro p6 S0 h
    rw [lp_X11_ripe_74.eq_2] at h
    rcases fr_ite h with h1 | h1
    ·
      exact (Fr.rf (S := S0)).tr (hK _ h1)
    ·
      rcases fr_ite h1 with h2 | h2
      ·
        exact (Fr.rf (S := S0)).tr (hK _ h2)
      ·
        refine (Fr.rf (S := S0)).tr (fr_lp_X11_ripe_93 (v1 := v1) (v2 := v2) (fun a k q => by refine s1 _ _ ?_; unfold w1_lp_X11_ripe_93 at q; unfold w1_lp_X11_ripe_74; rcases q with q | q | q | q; exact Or.inl (q); exact Or.inr (Or.inl (q)); exact Or.inr (Or.inr (Or.inl (q))); exact Or.inr (Or.inr (Or.inr ((q))))) (fun a k q => by refine s2 _ _ ?_; unfold w2_lp_X11_ripe_93 at q; unfold w2_lp_X11_ripe_74; exact q) (fun S38 h3 => ?_) _ _ _ h2)
        exact (Fr.rf (S := S38)).tr (ih _ _ h3)
def w1_lp_X11_ripe_163 (a k : Nat) : Prop := False
def w2_lp_X11_ripe_163 (a k : Nat) : Prop := False
theorem fr_lp_X11_ripe_163 {p2 : Int32} {p3 : Int32} {p4 : Int32} {p5 : Int32} {K : Int32 → fS → Option (Int32 × fS)} {r : Int32 × fS} {v1 v2 : Nat → Nat → Prop} (s1 : ∀ a k, w1_lp_X11_ripe_163 a k → v1 a k) (s2 : ∀ a k, w2_lp_X11_ripe_163 a k → v2 a k) (hK : ∀ (x0 : Int32) (x1 : fS), K x0 x1 = some r → Fr v1 v2 x1 r.2) : ∀ (n : Nat) (p6 : Int32) (p7 : Int32) (S0 : fS), lp_X11_ripe_163 p2 p3 p4 p5 K n p6 p7 S0 = some r → Fr v1 v2 S0 r.2 := by
  intro n
  induction n with
  | zero => intro p6 p7 S0 h; exact mm_no h
  | succ n ih =>
    intro p6 p7 S0 h
    rw [lp_X11_ripe_163.eq_2] at h
    rcases fr_ite h with h1 | h1
    ·
      exact (Fr.rf (S := S0)).tr (hK _ _ h1)
    ·
      obtain ⟨a44, e2, h3⟩ := Option.bind_eq_some_iff.mp h1
      rcases fr_ite h3 with h4 | h4
      ·
        obtain ⟨a60, e5, h6⟩ := Option.bind_eq_some_iff.mp h4
        rcases fr_ite h6 with h7 | h7
        ·
          obtain ⟨a76, e8, h9⟩ := Option.bind_eq_some_iff.mp h7
          rcases fr_ite h9 with h10 | h10
          ·
            rcases fr_ite h10 with h11 | h11
            ·
              exact (Fr.rf (S := S0)).tr (ih _ _ _ h11)
            ·
              rcases fr_ite h11 with h12 | h12
              ·
                obtain ⟨a82, e13, h14⟩ := Option.bind_eq_some_iff.mp h12
                exact (Fr.rf (S := S0)).tr (ih _ _ _ h14)
              ·
                obtain ⟨a85, e15, h16⟩ := Option.bind_eq_some_iff.mp h12
                rcases fr_ite h16 with h17 | h17
                ·
                  exact (Fr.rf (S := S0)).tr (ih _ _ _ h17)
                ·
                  obtain ⟨a89, e18, h19⟩ := Option.bind_eq_some_iff.mp h17
                  exact (Fr.rf (S := S0)).tr (ih _ _ _ h19)
          ·
            obtain ⟨a92, e20, h21⟩ := Option.bind_eq_some_iff.mp h10
            rcases fr_ite h21 with h22 | h22
            ·
              rcases fr_ite h22 with h23 | h23
              ·
                exact (Fr.rf (S := S0)).tr (ih _ _ _ h23)
              ·
                rcases fr_ite h23 with h24 | h24
                ·
                  obtain ⟨a98, e25, h26⟩ := Option.bind_eq_some_iff.mp h24
                  exact (Fr.rf (S := S0)).tr (ih _ _ _ h26)
                ·
                  obtain ⟨a101, e27, h28⟩ := Option.bind_eq_some_iff.mp h24
                  rcases fr_ite h28 with h29 | h29
                  ·
                    exact (Fr.rf (S := S0)).tr (ih _ _ _ h29)
                  ·
                    obtain ⟨a105, e30, h31⟩ := Option.bind_eq_some_iff.mp h29
                    exact (Fr.rf (S := S0)).tr (ih _ _ _ h31)
            ·
              rcases fr_ite h22 with h32 | h32
              ·
                exact (Fr.rf (S := S0)).tr (ih _ _ _ h32)
              ·
                rcases fr_ite h32 with h33 | h33
                ·
                  obtain ⟨a110, e34, h35⟩ := Option.bind_eq_some_iff.mp h33
                  exact (Fr.rf (S := S0)).tr (ih _ _ _ h35)
                ·
                  obtain ⟨a113, e36, h37⟩ := Option.bind_eq_some_iff.mp h33
                  rcases fr_ite h37 with h38 | h38
                  ·
                    exact (Fr.rf (S := S0)).tr (ih _ _ _ h38)
                  ·
                    obtain ⟨a117, e39, h40⟩ := Option.bind_eq_some_iff.mp h38
                    exact (Fr.rf (S := S0)).tr (ih _ _ _ h40)
        ·
          rcases fr_ite h7 with h41 | h41
          ·
            exact (Fr.rf (S := S0)).tr (ih _ _ _ h41)
          ·
            rcases fr_ite h41 with h42 | h42
            ·
              obtain ⟨a66, e43, h44⟩ := Option.bind_eq_some_iff.mp h42
              exact (Fr.rf (S := S0)).tr (ih _ _ _ h44)
            ·
              obtain ⟨a69, e45, h46⟩ := Option.bind_eq_some_iff.mp h42
              rcases fr_ite h46 with h47 | h47
              ·
                exact (Fr.rf (S := S0)).tr (ih _ _ _ h47)
              ·
                obtain ⟨a73, e48, h49⟩ := Option.bind_eq_some_iff.mp h47
                exact (Fr.rf (S := S0)).tr (ih _ _ _ h49)
      ·
        rcases fr_ite h4 with h50 | h50
        ·
          exact (Fr.rf (S := S0)).tr (ih _ _ _ h50)
        ·
          rcases fr_ite h50 with h51 | h51
          ·
            obtain ⟨a50, e52, h53⟩ := Option.bind_eq_some_iff.mp h51
            exact (Fr.rf (S := S0)).tr (ih _ _ _ h53)
          ·
            obtain ⟨a53, e54, h55⟩ := Option.bind_eq_some_iff.mp h51
            rcases fr_ite h55 with h56 | h56
            ·
              exact (Fr.rf (S := S0)).tr (ih _ _ _ h56)
            ·
              obtain ⟨a57, e57, h58⟩ := Option.bind_eq_some_iff.mp h56
              exact (Fr.rf (S := S0)).tr (ih _ _ _ h58)
def w1_f_X11_ripe (a k : Nat) : Prop := (a = 145 ∧ k = 36) ∨ a = 164 ∨ a = 165 ∨ a = 167
def w2_f_X11_ripe (a k : Nat) : Prop := a = 166
theorem fr_f_X11_ripe {v1 : Int32} {v2 : Int32} {v3 : Int32} {v4 : Int32} {v5 : Int32} {S : fS} {r : Int32 × fS} (h : f_X11_ripe v1 v2 v3 v4 v5 S = some r) : Fr (w1_f_X11_ripe) (w2_f_X11_ripe) S r.2 := by
  unfold f_X11_ripe at h
  obtain ⟨q1, e1, h2⟩ := Option.bind_eq_some_iff.mp h
  rcases fr_ite h2 with h3 | h3
  ·
    exact fr_e2 h3 (Fr.rf (S := S))
  ·
    obtain ⟨q5, e4, h5⟩ := Option.bind_eq_some_iff.mp h3
    rcases fr_ite h5 with h6 | h6
    ·
      exact fr_e2 h6 (Fr.rf (S := S))
    ·
      obtain ⟨q9, e7, h8⟩ := Option.bind_eq_some_iff.mp h6
      rcases fr_ite h8 with h9 | h9
      ·
        exact fr_e2 h9 (Fr.rf (S := S))
      ·
        obtain ⟨q13, e10, h11⟩ := Option.bind_eq_some_iff.mp h9
        rcases fr_ite h11 with h12 | h12
        ·
          exact fr_e2 h12 (Fr.rf (S := S))
        ·
          obtain ⟨q17, e13, h14⟩ := Option.bind_eq_some_iff.mp h12
          rcases fr_ite h14 with h15 | h15
          ·
            exact fr_e2 h15 (Fr.rf (S := S))
          ·
            obtain ⟨S21, e16, h17⟩ := Option.bind_eq_some_iff.mp h15
            have f18 : Fr (w1_f_X11_ripe) (w2_f_X11_ripe) S S21 := (Fr.rf (S := S)).tr (fr_pI e16 (by unfold w1_f_X11_ripe; exact Or.inl (⟨rfl, rfl⟩)))
            obtain ⟨q24, e19, h20⟩ := Option.bind_eq_some_iff.mp h17
            have f21 : Fr (w1_f_X11_ripe) (w2_f_X11_ripe) S q24 := f18.tr (Fr.mo (fr_f_X11_comes e19) (fun a k q => by unfold w1_f_X11_comes at q; unfold w1_f_X11_ripe; rcases q with q | q | q | q; exact Or.inl (q); exact Or.inr (Or.inl (q)); exact Or.inr (Or.inr (Or.inl (q))); exact Or.inr (Or.inr (Or.inr ((q))))) (fun a k q => by unfold w2_f_X11_comes at q; unfold w2_f_X11_ripe; exact q))
            refine f21.tr (fr_lp_X11_ripe_74 (v1 := w1_f_X11_ripe) (v2 := w2_f_X11_ripe) (fun a k q => by unfold w1_lp_X11_ripe_74 at q; unfold w1_f_X11_ripe; rcases q with q | q | q | q; exact Or.inl (q); exact Or.inr (Or.inl (q)); exact Or.inr (Or.inr (Or.inl (q))); exact Or.inr (Or.inr (Or.inr ((q))))) (fun a k q => by unfold w2_lp_X11_ripe_74 at q; unfold w2_f_X11_ripe; exact q) (fun S40 h22 => ?_) _ _ _ h20)
            rcases fr_ite h22 with h23 | h23
            ·
              refine (Fr.rf (S := S40)).tr (fr_lp_X11_ripe_163 (v1 := w1_f_X11_ripe) (v2 := w2_f_X11_ripe) (fun _ _ q => False.elim q) (fun _ _ q => False.elim q) (fun u120 S121 h24 => ?_) _ _ _ _ h23)
              exact fr_e2 h24 (Fr.rf (S := S121))
            ·
              exact fr_e2 h23 (Fr.rf (S := S40))
def w1_f_X11_letter (a k : Nat) : Prop := a = 157
def w2_f_X11_letter (a k : Nat) : Prop := False
theorem fr_f_X11_letter {v1 : Int32} {v2 : Int32} {v3 : Int32} {S : fS} {r : Int32 × fS} (h : f_X11_letter v1 v2 v3 S = some r) : Fr (w1_f_X11_letter) (w2_f_X11_letter) S r.2 := by
  unfold f_X11_letter at h
  rcases fr_ite h with h1 | h1
  ·
    obtain ⟨S43, e2, h3⟩ := Option.bind_eq_some_iff.mp h1
    have f4 : Fr (w1_f_X11_letter) (w2_f_X11_letter) S S43 := (Fr.rf (S := S)).tr (fr_sI e2 (fun k => by unfold w1_f_X11_letter; exact rfl))
    exact fr_e2 h3 f4
  ·
    obtain ⟨a2, e5, h6⟩ := Option.bind_eq_some_iff.mp h1
    rcases fr_ite h6 with h7 | h7
    ·
      exact fr_e2 h7 (Fr.rf (S := S))
    ·
      obtain ⟨q6, e8, h9⟩ := Option.bind_eq_some_iff.mp h7
      rcases fr_ite h9 with h10 | h10
      ·
        exact fr_e2 h10 (Fr.rf (S := S))
      ·
        obtain ⟨q10, e11, h12⟩ := Option.bind_eq_some_iff.mp h10
        rcases fr_ite h12 with h13 | h13
        ·
          exact fr_e2 h13 (Fr.rf (S := S))
        ·
          obtain ⟨q14, e14, h15⟩ := Option.bind_eq_some_iff.mp h13
          rcases fr_ite h15 with h16 | h16
          ·
            exact fr_e2 h16 (Fr.rf (S := S))
          ·
            obtain ⟨q18, e17, h18⟩ := Option.bind_eq_some_iff.mp h16
            rcases fr_ite h18 with h19 | h19
            ·
              obtain ⟨a22, e20, h21⟩ := Option.bind_eq_some_iff.mp h19
              obtain ⟨S25, e22, h23⟩ := Option.bind_eq_some_iff.mp h21
              have f24 : Fr (w1_f_X11_letter) (w2_f_X11_letter) S S25 := (Fr.rf (S := S)).tr (fr_sI e22 (fun k => by unfold w1_f_X11_letter; exact rfl))
              obtain ⟨S28, e25, h26⟩ := Option.bind_eq_some_iff.mp h23
              have f27 : Fr (w1_f_X11_letter) (w2_f_X11_letter) S S28 := f24.tr (fr_sI e25 (fun k => by unfold w1_f_X11_letter; exact rfl))
              obtain ⟨S31, e28, h29⟩ := Option.bind_eq_some_iff.mp h26
              have f30 : Fr (w1_f_X11_letter) (w2_f_X11_letter) S S31 := f27.tr (fr_sI e28 (fun k => by unfold w1_f_X11_letter; exact rfl))
              obtain ⟨a34, e31, h32⟩ := Option.bind_eq_some_iff.mp h29
              obtain ⟨S37, e33, h34⟩ := Option.bind_eq_some_iff.mp h32
              have f35 : Fr (w1_f_X11_letter) (w2_f_X11_letter) S S37 := f30.tr (fr_sI e33 (fun k => by unfold w1_f_X11_letter; exact rfl))
              obtain ⟨a40, e36, h37⟩ := Option.bind_eq_some_iff.mp h34
              exact fr_e2 h37 f35
            ·
              exact fr_e2 h19 (Fr.rf (S := S))
def w1_f_X11_seed (a k : Nat) : Prop := a = 157
def w2_f_X11_seed (a k : Nat) : Prop := False
theorem fr_f_X11_seed {v1 : Int32} {S : fS} {r : Int32 × fS} (h : f_X11_seed v1 S = some r) : Fr (w1_f_X11_seed) (w2_f_X11_seed) S r.2 := by
  unfold f_X11_seed at h
  rcases fr_ite h with h1 | h1
  ·
    obtain ⟨a2, e2, h3⟩ := Option.bind_eq_some_iff.mp h1
    obtain ⟨S5, e4, h5⟩ := Option.bind_eq_some_iff.mp h3
    have f6 : Fr (w1_f_X11_seed) (w2_f_X11_seed) S S5 := (Fr.rf (S := S)).tr (fr_sI e4 (fun k => by unfold w1_f_X11_seed; exact rfl))
    exact fr_e2 h5 f6
  ·
    exact fr_e2 h1 (Fr.rf (S := S))
def w1_f_X11_draw (a k : Nat) : Prop := False
def w2_f_X11_draw (a k : Nat) : Prop := (a = 145 ∧ k = 37)
theorem fr_f_X11_draw {S : fS} {r : Int64 × fS} (h : f_X11_draw S = some r) : Fr (w1_f_X11_draw) (w2_f_X11_draw) S r.2 := by
  unfold f_X11_draw at h
  obtain ⟨a1, e1, h2⟩ := Option.bind_eq_some_iff.mp h
  obtain ⟨S4, e3, h4⟩ := Option.bind_eq_some_iff.mp h2
  have f5 : Fr (w1_f_X11_draw) (w2_f_X11_draw) S S4 := (Fr.rf (S := S)).tr (fr_pL e3 (by unfold w2_f_X11_draw; exact ⟨rfl, rfl⟩))
  obtain ⟨a7, e6, h7⟩ := Option.bind_eq_some_iff.mp h4
  exact fr_e2 h7 f5
def w1_lp_X11_wanders_30 (a k : Nat) : Prop := False
def w2_lp_X11_wanders_30 (a k : Nat) : Prop := False
theorem fr_lp_X11_wanders_30 {p1 : Int32} {p2 : Int32} {K : Int32 → fS → Option (fS)} {r : fS} {v1 v2 : Nat → Nat → Prop} (s1 : ∀ a k, w1_lp_X11_wanders_30 a k → v1 a k) (s2 : ∀ a k, w2_lp_X11_wanders_30 a k → v2 a k) (hK : ∀ (x0 : Int32) (x1 : fS), K x0 x1 = some r → Fr v1 v2 x1 r) : ∀ (n : Nat) (p3 : Int32) (p4 : Int32) (S0 : fS), lp_X11_wanders_30 p1 p2 K n p3 p4 S0 = some r → Fr v1 v2 S0 r := by
  intro n
  induction n with
  | zero => intro p3 p4 S0 h; exact mm_no h
  | succ n ih =>
    intro p3 p4 S0 h
    rw [lp_X11_wanders_30.eq_2] at h
    obtain ⟨a12, e1, h2⟩ := Option.bind_eq_some_iff.mp h
    rcases fr_ite h2 with h3 | h3
    ·
      exact (Fr.rf (S := S0)).tr (hK _ _ h3)
    ·
      obtain ⟨q16, e4, h5⟩ := Option.bind_eq_some_iff.mp h3
      rcases fr_ite h5 with h6 | h6
      ·
        exact (Fr.rf (S := S0)).tr (ih _ _ _ h6)
      ·
        exact (Fr.rf (S := S0)).tr (ih _ _ _ h6)
def w1_lp_X11_wanders_83 (a k : Nat) : Prop := False
def w2_lp_X11_wanders_83 (a k : Nat) : Prop := False
theorem fr_lp_X11_wanders_83 {p1 : Int32} {p2 : Int32} {K : Int32 → fS → Option (fS)} {r : fS} {v1 v2 : Nat → Nat → Prop} (s1 : ∀ a k, w1_lp_X11_wanders_83 a k → v1 a k) (s2 : ∀ a k, w2_lp_X11_wanders_83 a k → v2 a k) (hK : ∀ (x0 : Int32) (x1 : fS), K x0 x1 = some r → Fr v1 v2 x1 r) : ∀ (n : Nat) (p4 : Int32) (p5 : Int32) (S0 : fS), lp_X11_wanders_83 p1 p2 K n p4 p5 S0 = some r → Fr v1 v2 S0 r := by
  intro n
  induction n with
  | zero => intro p4 p5 S0 h; exact mm_no h
  | succ n ih =>
    intro p4 p5 S0 h
    rw [lp_X11_wanders_83.eq_2] at h
    obtain ⟨q30, e1, h2⟩ := Option.bind_eq_some_iff.mp h
    rcases fr_ite h2 with h3 | h3
    ·
      obtain ⟨q34, e4, h5⟩ := Option.bind_eq_some_iff.mp h3
      rcases fr_ite h5 with h6 | h6
      ·
        exact (Fr.rf (S := S0)).tr (ih _ _ _ h6)
      ·
        exact (Fr.rf (S := S0)).tr (ih _ _ _ h6)
    ·
      rcases fr_ite h3 with h7 | h7
      ·
        exact (Fr.rf (S := S0)).tr (hK _ _ h7)
      ·
        obtain ⟨q39, e8, h9⟩ := Option.bind_eq_some_iff.mp h7
        rcases fr_ite h9 with h10 | h10
        ·
          exact (Fr.rf (S := S0)).tr (ih _ _ _ h10)
        ·
          exact (Fr.rf (S := S0)).tr (ih _ _ _ h10)
def w1_f_X11_wanders (a k : Nat) : Prop := a = 157
def w2_f_X11_wanders (a k : Nat) : Prop := (a = 145 ∧ k = 37)
theorem fr_f_X11_wanders {v1 : Int32} {S : fS} {r : fS} (h : f_X11_wanders v1 S = some r) : Fr (w1_f_X11_wanders) (w2_f_X11_wanders) S r := by
  unfold f_X11_wanders at h
  obtain ⟨q1, e1, h2⟩ := Option.bind_eq_some_iff.mp h
  rcases fr_ite h2 with h3 | h3
  ·
    exact fr_e1 h3 (Fr.rf (S := S))
  ·
    obtain ⟨q5, e4, h5⟩ := Option.bind_eq_some_iff.mp h3
    have f6 : Fr (w1_f_X11_wanders) (w2_f_X11_wanders) S q5.2 := (Fr.rf (S := S)).tr (Fr.mo (fr_f_X11_draw e4) (fun _ _ q => False.elim q) (fun a k q => by unfold w2_f_X11_draw at q; unfold w2_f_X11_wanders; exact q))
    obtain ⟨a8, e7, h8⟩ := Option.bind_eq_some_iff.mp h5
    rcases fr_ite h8 with h9 | h9
    ·
      refine f6.tr (fr_lp_X11_wanders_30 (v1 := w1_f_X11_wanders) (v2 := w2_f_X11_wanders) (fun _ _ q => False.elim q) (fun _ _ q => False.elim q) (fun u20 S21 h10 => ?_) _ _ _ _ h9)
      rcases fr_ite h10 with h11 | h11
      ·
        exact fr_e1 h11 (Fr.rf (S := S21))
      ·
        obtain ⟨q24, e12, h13⟩ := Option.bind_eq_some_iff.mp h11
        have f14 : Fr (w1_f_X11_wanders) (w2_f_X11_wanders) S21 q24.2 := (Fr.rf (S := S21)).tr (Fr.mo (fr_f_X11_draw e12) (fun _ _ q => False.elim q) (fun a k q => by unfold w2_f_X11_draw at q; unfold w2_f_X11_wanders; exact q))
        obtain ⟨a27, e15, h16⟩ := Option.bind_eq_some_iff.mp h13
        refine f14.tr (fr_lp_X11_wanders_83 (v1 := w1_f_X11_wanders) (v2 := w2_f_X11_wanders) (fun _ _ q => False.elim q) (fun _ _ q => False.elim q) (fun u43 S44 h17 => ?_) _ _ _ _ h16)
        obtain ⟨q46, e18, h19⟩ := Option.bind_eq_some_iff.mp h17
        have f20 : Fr (w1_f_X11_wanders) (w2_f_X11_wanders) S44 q46 := (Fr.rf (S := S44)).tr (Fr.mo (fr_f_X11_setsOff e18) (fun a k q => by unfold w1_f_X11_setsOff at q; unfold w1_f_X11_wanders; exact q) (fun _ _ q => False.elim q))
        exact fr_e1 h19 f20
    ·
      exact fr_e1 h9 f6
def w1_lp_X11_meetings_105 (a k : Nat) : Prop := a = 157
def w2_lp_X11_meetings_105 (a k : Nat) : Prop := (a = 145 ∧ k = 37)
theorem fr_lp_X11_meetings_105 {p1 : Int32} {p2 : Int32} {p3 : Int32} {p4 : Int32} {p5 : Int32} {p6 : Int32} {p7 : Int32} {p8 : Int32} {p9 : Int32} {p10 : Int32} {K : fS → Option (Int32 × fS)} {r : Int32 × fS} {v1 v2 : Nat → Nat → Prop} (s1 : ∀ a k, w1_lp_X11_meetings_105 a k → v1 a k) (s2 : ∀ a k, w2_lp_X11_meetings_105 a k → v2 a k) (hK : ∀ (x0 : fS), K x0 = some r → Fr v1 v2 x0 r.2) : ∀ (n : Nat) (p11 : Int32) (S0 : fS), lp_X11_meetings_105 p1 p2 p3 p4 p5 p6 p7 p8 p9 p10 K n p11 S0 = some r → Fr v1 v2 S0 r.2 := by
  intro n
  induction n with
  | zero => intro p11 S0 h; exact mm_no h
  | succ n ih =>
    intro p11 S0 h
    rw [lp_X11_meetings_105.eq_2] at h
    obtain ⟨a33, e1, h2⟩ := Option.bind_eq_some_iff.mp h
    rcases fr_ite h2 with h3 | h3
    ·
      exact (Fr.rf (S := S0)).tr (hK _ h3)
    ·
      obtain ⟨q37, e4, h5⟩ := Option.bind_eq_some_iff.mp h3
      have f6 : Fr v1 v2 S0 q37 := (Fr.rf (S := S0)).tr (Fr.mo (fr_f_X11_wanders e4) (fun a k q => by refine s1 _ _ ?_; unfold w1_f_X11_wanders at q; unfold w1_lp_X11_meetings_105; exact q) (fun a k q => by refine s2 _ _ ?_; unfold w2_f_X11_wanders at q; unfold w2_lp_X11_meetings_105; exact q))
      exact f6.tr (ih _ _ h5)
def w1_lp_X11_meetings_95 (a k : Nat) : Prop := a = 157
def w2_lp_X11_meetings_95 (a k : Nat) : Prop := (a = 145 ∧ k = 37) ∨ a = 158
theorem fr_lp_X11_meetings_95 {p1 : Int32} {p2 : Int32} {p3 : Int32} {p4 : Int32} {p5 : Int32} {p6 : Int32} {p7 : Int32} {p8 : Int32} {K : Int32 → fS → Option (Int32 × fS)} {r : Int32 × fS} {v1 v2 : Nat → Nat → Prop} (s1 : ∀ a k, w1_lp_X11_meetings_95 a k → v1 a k) (s2 : ∀ a k, w2_lp_X11_meetings_95 a k → v2 a k) (hK : ∀ (x0 : Int32) (x1 : fS), K x0 x1 = some r → Fr v1 v2 x1 r.2) : ∀ (n : Nat) (p9 : Int32) (p10 : Int32) (S0 : fS), lp_X11_meetings_95 p1 p2 p3 p4 p5 p6 p7 p8 K n p9 p10 S0 = some r → Fr v1 v2 S0 r.2 := by
  intro n
  induction n with
  | zero => intro p9 p10 S0 h; exact mm_no h
  | succ n ih =>
    intro p9 p10 S0 h
    rw [lp_X11_meetings_95.eq_2] at h
    rcases fr_ite h with h1 | h1
    ·
      exact (Fr.rf (S := S0)).tr (hK _ _ h1)
    ·
      refine (Fr.rf (S := S0)).tr (fr_lp_X11_meetings_105 (v1 := v1) (v2 := v2) (fun a k q => by refine s1 _ _ ?_; unfold w1_lp_X11_meetings_105 at q; unfold w1_lp_X11_meetings_95; exact q) (fun a k q => by refine s2 _ _ ?_; unfold w2_lp_X11_meetings_105 at q; unfold w2_lp_X11_meetings_95; exact Or.inl (q)) (fun S40 h2 => ?_) _ _ _ h1)
      obtain ⟨q42, e3, h4⟩ := Option.bind_eq_some_iff.mp h2
      have f5 : Fr v1 v2 S40 q42 := (Fr.rf (S := S40)).tr (Fr.mo (fr_f_X11_ageAll e3) (fun a k q => by refine s1 _ _ ?_; unfold w1_f_X11_ageAll at q; unfold w1_lp_X11_meetings_95; exact q) (fun a k q => by refine s2 _ _ ?_; unfold w2_f_X11_ageAll at q; unfold w2_lp_X11_meetings_95; exact Or.inr ((q))))
      obtain ⟨q45, e6, h7⟩ := Option.bind_eq_some_iff.mp h4
      rcases fr_ite h7 with h8 | h8
      ·
        exact f5.tr (ih _ _ _ h8)
      ·
        obtain ⟨q49, e9, h10⟩ := Option.bind_eq_some_iff.mp h8
        obtain ⟨q52, e11, h12⟩ := Option.bind_eq_some_iff.mp h10
        rcases fr_ite h12 with h13 | h13
        ·
          exact f5.tr (ih _ _ _ h13)
        ·
          exact f5.tr (ih _ _ _ h13)
def w1_lp_X11_meetings_83 (a k : Nat) : Prop := a = 157
def w2_lp_X11_meetings_83 (a k : Nat) : Prop := (a = 145 ∧ k = 37) ∨ a = 158
theorem fr_lp_X11_meetings_83 {p1 : Int32} {p2 : Int32} {p3 : Int32} {p4 : Int32} {p5 : Int32} {K : Int32 → Int32 → fS → Option (Int32 × fS)} {r : Int32 × fS} {v1 v2 : Nat → Nat → Prop} (s1 : ∀ a k, w1_lp_X11_meetings_83 a k → v1 a k) (s2 : ∀ a k, w2_lp_X11_meetings_83 a k → v2 a k) (hK : ∀ (x0 : Int32) (x1 : Int32) (x2 : fS), K x0 x1 x2 = some r → Fr v1 v2 x2 r.2) : ∀ (n : Nat) (p6 : Int32) (p7 : Int32) (p8 : Int32) (S0 : fS), lp_X11_meetings_83 p1 p2 p3 p4 p5 K n p6 p7 p8 S0 = some r → Fr v1 v2 S0 r.2 := by
  intro n
  induction n with
  | zero => intro p6 p7 p8 S0 h; exact mm_no h
  | succ n ih =>
    intro p6 p7 p8 S0 h
    rw [lp_X11_meetings_83.eq_2] at h
    rcases fr_ite h with h1 | h1
    ·
      exact (Fr.rf (S := S0)).tr (hK _ _ _ h1)
    ·
      refine (Fr.rf (S := S0)).tr (fr_lp_X11_meetings_95 (v1 := v1) (v2 := v2) (fun a k q => by refine s1 _ _ ?_; unfold w1_lp_X11_meetings_95 at q; unfold w1_lp_X11_meetings_83; exact q) (fun a k q => by refine s2 _ _ ?_; unfold w2_lp_X11_meetings_95 at q; unfold w2_lp_X11_meetings_83; rcases q with q | q; exact Or.inl (q); exact Or.inr ((q))) (fun u56 S57 h2 => ?_) _ _ _ _ h1)
      rcases fr_ite h2 with h3 | h3
      ·
        obtain ⟨q60, e4, h5⟩ := Option.bind_eq_some_iff.mp h3
        have f6 : Fr v1 v2 S57 q60 := (Fr.rf (S := S57)).tr (Fr.mo (fr_f_X11_putsBack e4) (fun a k q => by refine s1 _ _ ?_; unfold w1_f_X11_putsBack at q; unfold w1_lp_X11_meetings_83; exact q) (fun a k q => by refine s2 _ _ ?_; unfold w2_f_X11_putsBack at q; unfold w2_lp_X11_meetings_83; exact Or.inr ((q))))
        exact f6.tr (ih _ _ _ _ h5)
      ·
        obtain ⟨q63, e7, h8⟩ := Option.bind_eq_some_iff.mp h3
        have f9 : Fr v1 v2 S57 q63 := (Fr.rf (S := S57)).tr (Fr.mo (fr_f_X11_putsBack e7) (fun a k q => by refine s1 _ _ ?_; unfold w1_f_X11_putsBack at q; unfold w1_lp_X11_meetings_83; exact q) (fun a k q => by refine s2 _ _ ?_; unfold w2_f_X11_putsBack at q; unfold w2_lp_X11_meetings_83; exact Or.inr ((q))))
        exact f9.tr (ih _ _ _ _ h8)
def w1_f_X11_meetings (a k : Nat) : Prop := a = 157 ∨ a = 159
def w2_f_X11_meetings (a k : Nat) : Prop := (a = 145 ∧ k = 37) ∨ a = 158 ∨ a = 160
theorem fr_f_X11_meetings {v1 : Int32} {v2 : Int32} {v3 : Int32} {v4 : Int32} {v5 : Int32} {S : fS} {r : Int32 × fS} (h : f_X11_meetings v1 v2 v3 v4 v5 S = some r) : Fr (w1_f_X11_meetings) (w2_f_X11_meetings) S r.2 := by
  unfold f_X11_meetings at h
  obtain ⟨q1, e1, h2⟩ := Option.bind_eq_some_iff.mp h
  rcases fr_ite h2 with h3 | h3
  ·
    exact fr_e2 h3 (Fr.rf (S := S))
  ·
    obtain ⟨q5, e4, h5⟩ := Option.bind_eq_some_iff.mp h3
    rcases fr_ite h5 with h6 | h6
    ·
      exact fr_e2 h6 (Fr.rf (S := S))
    ·
      rcases fr_ite h6 with h7 | h7
      ·
        exact fr_e2 h7 (Fr.rf (S := S))
      ·
        obtain ⟨q10, e8, h9⟩ := Option.bind_eq_some_iff.mp h7
        rcases fr_ite h9 with h10 | h10
        ·
          exact fr_e2 h10 (Fr.rf (S := S))
        ·
          obtain ⟨q14, e11, h12⟩ := Option.bind_eq_some_iff.mp h10
          rcases fr_ite h12 with h13 | h13
          ·
            exact fr_e2 h13 (Fr.rf (S := S))
          ·
            obtain ⟨q18, e14, h15⟩ := Option.bind_eq_some_iff.mp h13
            rcases fr_ite h15 with h16 | h16
            ·
              exact fr_e2 h16 (Fr.rf (S := S))
            ·
              obtain ⟨q22, e17, h18⟩ := Option.bind_eq_some_iff.mp h16
              have f19 : Fr (w1_f_X11_meetings) (w2_f_X11_meetings) S q22 := (Fr.rf (S := S)).tr (Fr.mo (fr_f_X11_keeps e17) (fun a k q => by unfold w1_f_X11_keeps at q; unfold w1_f_X11_meetings; exact Or.inr ((q))) (fun a k q => by unfold w2_f_X11_keeps at q; unfold w2_f_X11_meetings; exact Or.inr (Or.inr ((q)))))
              obtain ⟨a25, e20, h21⟩ := Option.bind_eq_some_iff.mp h18
              obtain ⟨S28, e22, h23⟩ := Option.bind_eq_some_iff.mp h21
              have f24 : Fr (w1_f_X11_meetings) (w2_f_X11_meetings) S S28 := f19.tr (fr_pL e22 (by unfold w2_f_X11_meetings; exact Or.inl (⟨rfl, rfl⟩)))
              refine f24.tr (fr_lp_X11_meetings_83 (v1 := w1_f_X11_meetings) (v2 := w2_f_X11_meetings) (fun a k q => by unfold w1_lp_X11_meetings_83 at q; unfold w1_f_X11_meetings; exact Or.inl (q)) (fun a k q => by unfold w2_lp_X11_meetings_83 at q; unfold w2_f_X11_meetings; rcases q with q | q; exact Or.inl (q); exact Or.inr (Or.inl (q))) (fun u66 u67 S68 h25 => ?_) _ _ _ _ _ h23)
              rcases fr_ite h25 with h26 | h26
              ·
                exact fr_e2 h26 (Fr.rf (S := S68))
              ·
                exact fr_e2 h26 (Fr.rf (S := S68))
