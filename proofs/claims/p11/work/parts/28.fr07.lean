def w1_f_X11_stands (a k : Nat) : Prop := a = 157
def w2_f_X11_stands (a k : Nat) : Prop := False
theorem fr_f_X11_stands {v1 : Int32} {v2 : Int32} {S : fS} {r : fS} (h : f_X11_stands v1 v2 S = some r) : Fr (w1_f_X11_stands) (w2_f_X11_stands) S r := by
  unfold f_X11_stands at h
  obtain ⟨S1, e1, h2⟩ := Option.bind_eq_some_iff.mp h
  have f3 : Fr (w1_f_X11_stands) (w2_f_X11_stands) S S1 := (Fr.rf (S := S)).tr (fr_sI e1 (fun k => by unfold w1_f_X11_stands; exact rfl))
  obtain ⟨S4, e4, h5⟩ := Option.bind_eq_some_iff.mp h2
  have f6 : Fr (w1_f_X11_stands) (w2_f_X11_stands) S S4 := f3.tr (fr_sI e4 (fun k => by unfold w1_f_X11_stands; exact rfl))
  obtain ⟨S7, e7, h8⟩ := Option.bind_eq_some_iff.mp h5
  have f9 : Fr (w1_f_X11_stands) (w2_f_X11_stands) S S7 := f6.tr (fr_sI e7 (fun k => by unfold w1_f_X11_stands; exact rfl))
  obtain ⟨S10, e10, h11⟩ := Option.bind_eq_some_iff.mp h8
  have f12 : Fr (w1_f_X11_stands) (w2_f_X11_stands) S S10 := f9.tr (fr_sI e10 (fun k => by unfold w1_f_X11_stands; exact rfl))
  exact fr_e1 h11 f12
def w1_lp_X11_spreads_10 (a k : Nat) : Prop := False
def w2_lp_X11_spreads_10 (a k : Nat) : Prop := a = 161
theorem fr_lp_X11_spreads_10 {p1 : Int32} {K : fS → Option (fS)} {r : fS} {v1 v2 : Nat → Nat → Prop} (s1 : ∀ a k, w1_lp_X11_spreads_10 a k → v1 a k) (s2 : ∀ a k, w2_lp_X11_spreads_10 a k → v2 a k) (hK : ∀ (x0 : fS), K x0 = some r → Fr v1 v2 x0 r) : ∀ (n : Nat) (p2 : Int32) (S0 : fS), lp_X11_spreads_10 p1 K n p2 S0 = some r → Fr v1 v2 S0 r := by
  intro n
  induction n with
  | zero => intro p2 S0 h; exact mm_no h
  | succ n ih =>
    intro p2 S0 h
    rw [lp_X11_spreads_10.eq_2] at h
    rcases fr_ite h with h1 | h1
    ·
      exact (Fr.rf (S := S0)).tr (hK _ h1)
    ·
      rcases fr_ite h1 with h2 | h2
      ·
        obtain ⟨S7, e3, h4⟩ := Option.bind_eq_some_iff.mp h2
        have f5 : Fr v1 v2 S0 S7 := (Fr.rf (S := S0)).tr (fr_sL e3 (fun k => by refine s2 _ _ ?_; unfold w2_lp_X11_spreads_10; exact rfl))
        exact f5.tr (ih _ _ h4)
      ·
        obtain ⟨S4, e6, h7⟩ := Option.bind_eq_some_iff.mp h2
        have f8 : Fr v1 v2 S0 S4 := (Fr.rf (S := S0)).tr (fr_sL e6 (fun k => by refine s2 _ _ ?_; unfold w2_lp_X11_spreads_10; exact rfl))
        exact f8.tr (ih _ _ h7)
def w1_lp_X11_spreads_2 (a k : Nat) : Prop := False
def w2_lp_X11_spreads_2 (a k : Nat) : Prop := a = 161
theorem fr_lp_X11_spreads_2 {K : fS → Option (fS)} {r : fS} {v1 v2 : Nat → Nat → Prop} (s1 : ∀ a k, w1_lp_X11_spreads_2 a k → v1 a k) (s2 : ∀ a k, w2_lp_X11_spreads_2 a k → v2 a k) (hK : ∀ (x0 : fS), K x0 = some r → Fr v1 v2 x0 r) : ∀ (n : Nat) (p1 : Int32) (S0 : fS), lp_X11_spreads_2 K n p1 S0 = some r → Fr v1 v2 S0 r := by
  intro n
  induction n with
  | zero => intro p1 S0 h; exact mm_no h
  | succ n ih =>
    intro p1 S0 h
    rw [lp_X11_spreads_2.eq_2] at h
    rcases fr_ite h with h1 | h1
    ·
      exact (Fr.rf (S := S0)).tr (hK _ h1)
    ·
      refine (Fr.rf (S := S0)).tr (fr_lp_X11_spreads_10 (v1 := v1) (v2 := v2) (fun _ _ q => False.elim q) (fun a k q => by refine s2 _ _ ?_; unfold w2_lp_X11_spreads_10 at q; unfold w2_lp_X11_spreads_2; exact q) (fun S10 h2 => ?_) _ _ _ h1)
      exact (Fr.rf (S := S10)).tr (ih _ _ h2)
def w1_lp_X11_spreads_53 (a k : Nat) : Prop := False
def w2_lp_X11_spreads_53 (a k : Nat) : Prop := a = 161
theorem fr_lp_X11_spreads_53 {K : fS → Option (fS)} {r : fS} {v1 v2 : Nat → Nat → Prop} (s1 : ∀ a k, w1_lp_X11_spreads_53 a k → v1 a k) (s2 : ∀ a k, w2_lp_X11_spreads_53 a k → v2 a k) (hK : ∀ (x0 : fS), K x0 = some r → Fr v1 v2 x0 r) : ∀ (n : Nat) (p1 : Int32) (S0 : fS), lp_X11_spreads_53 K n p1 S0 = some r → Fr v1 v2 S0 r := by
  intro n
  induction n with
  | zero => intro p1 S0 h; exact mm_no h
  | succ n ih =>
    intro p1 S0 h
    rw [lp_X11_spreads_53.eq_2] at h
    obtain ⟨a14, e1, h2⟩ := Option.bind_eq_some_iff.mp h
    rcases fr_ite h2 with h3 | h3
    ·
      exact (Fr.rf (S := S0)).tr (hK _ h3)
    ·
      obtain ⟨q18, e4, h5⟩ := Option.bind_eq_some_iff.mp h3
      obtain ⟨q21, e6, h7⟩ := Option.bind_eq_some_iff.mp h5
      obtain ⟨q24, e8, h9⟩ := Option.bind_eq_some_iff.mp h7
      obtain ⟨a27, e10, h11⟩ := Option.bind_eq_some_iff.mp h9
      rcases fr_ite h11 with h12 | h12
      ·
        obtain ⟨q31, e13, h14⟩ := Option.bind_eq_some_iff.mp h12
        obtain ⟨S34, e15, h16⟩ := Option.bind_eq_some_iff.mp h14
        have f17 : Fr v1 v2 S0 S34 := (Fr.rf (S := S0)).tr (fr_sL e15 (fun k => by refine s2 _ _ ?_; unfold w2_lp_X11_spreads_53; exact rfl))
        obtain ⟨q37, e18, h19⟩ := Option.bind_eq_some_iff.mp h16
        obtain ⟨S40, e20, h21⟩ := Option.bind_eq_some_iff.mp h19
        have f22 : Fr v1 v2 S0 S40 := f17.tr (fr_sL e20 (fun k => by refine s2 _ _ ?_; unfold w2_lp_X11_spreads_53; exact rfl))
        exact f22.tr (ih _ _ h21)
      ·
        exact (Fr.rf (S := S0)).tr (ih _ _ h12)
def w1_lp_X11_spreads_162 (a k : Nat) : Prop := False
def w2_lp_X11_spreads_162 (a k : Nat) : Prop := a = 161
theorem fr_lp_X11_spreads_162 {p1 : Int32} {p2 : Int32} {K : fS → Option (fS)} {r : fS} {v1 v2 : Nat → Nat → Prop} (s1 : ∀ a k, w1_lp_X11_spreads_162 a k → v1 a k) (s2 : ∀ a k, w2_lp_X11_spreads_162 a k → v2 a k) (hK : ∀ (x0 : fS), K x0 = some r → Fr v1 v2 x0 r) : ∀ (n : Nat) (p3 : Int32) (S0 : fS), lp_X11_spreads_162 p1 p2 K n p3 S0 = some r → Fr v1 v2 S0 r := by
  intro n
  induction n with
  | zero => intro p3 S0 h; exact mm_no h
  | succ n ih =>
    intro p3 S0 h
    rw [lp_X11_spreads_162.eq_2] at h
    rcases fr_ite h with h1 | h1
    ·
      exact (Fr.rf (S := S0)).tr (hK _ h1)
    ·
      obtain ⟨a48, e2, h3⟩ := Option.bind_eq_some_iff.mp h1
      obtain ⟨a51, e4, h5⟩ := Option.bind_eq_some_iff.mp h3
      obtain ⟨a54, e6, h7⟩ := Option.bind_eq_some_iff.mp h5
      rcases fr_ite h7 with h8 | h8
      ·
        exact (Fr.rf (S := S0)).tr (ih _ _ h8)
      ·
        obtain ⟨a58, e9, h10⟩ := Option.bind_eq_some_iff.mp h8
        obtain ⟨a61, e11, h12⟩ := Option.bind_eq_some_iff.mp h10
        obtain ⟨S64, e13, h14⟩ := Option.bind_eq_some_iff.mp h12
        have f15 : Fr v1 v2 S0 S64 := (Fr.rf (S := S0)).tr (fr_sL e13 (fun k => by refine s2 _ _ ?_; unfold w2_lp_X11_spreads_162; exact rfl))
        exact f15.tr (ih _ _ h14)
def w1_lp_X11_spreads_154 (a k : Nat) : Prop := False
def w2_lp_X11_spreads_154 (a k : Nat) : Prop := a = 161
theorem fr_lp_X11_spreads_154 {p1 : Int32} {K : fS → Option (fS)} {r : fS} {v1 v2 : Nat → Nat → Prop} (s1 : ∀ a k, w1_lp_X11_spreads_154 a k → v1 a k) (s2 : ∀ a k, w2_lp_X11_spreads_154 a k → v2 a k) (hK : ∀ (x0 : fS), K x0 = some r → Fr v1 v2 x0 r) : ∀ (n : Nat) (p2 : Int32) (S0 : fS), lp_X11_spreads_154 p1 K n p2 S0 = some r → Fr v1 v2 S0 r := by
  intro n
  induction n with
  | zero => intro p2 S0 h; exact mm_no h
  | succ n ih =>
    intro p2 S0 h
    rw [lp_X11_spreads_154.eq_2] at h
    rcases fr_ite h with h1 | h1
    ·
      exact (Fr.rf (S := S0)).tr (hK _ h1)
    ·
      refine (Fr.rf (S := S0)).tr (fr_lp_X11_spreads_162 (v1 := v1) (v2 := v2) (fun _ _ q => False.elim q) (fun a k q => by refine s2 _ _ ?_; unfold w2_lp_X11_spreads_162 at q; unfold w2_lp_X11_spreads_154; exact q) (fun S67 h2 => ?_) _ _ _ h1)
      exact (Fr.rf (S := S67)).tr (ih _ _ h2)
def w1_lp_X11_spreads_146 (a k : Nat) : Prop := False
def w2_lp_X11_spreads_146 (a k : Nat) : Prop := a = 161
theorem fr_lp_X11_spreads_146 {K : fS → Option (fS)} {r : fS} {v1 v2 : Nat → Nat → Prop} (s1 : ∀ a k, w1_lp_X11_spreads_146 a k → v1 a k) (s2 : ∀ a k, w2_lp_X11_spreads_146 a k → v2 a k) (hK : ∀ (x0 : fS), K x0 = some r → Fr v1 v2 x0 r) : ∀ (n : Nat) (p1 : Int32) (S0 : fS), lp_X11_spreads_146 K n p1 S0 = some r → Fr v1 v2 S0 r := by
  intro n
  induction n with
  | zero => intro p1 S0 h; exact mm_no h
  | succ n ih =>
    intro p1 S0 h
    rw [lp_X11_spreads_146.eq_2] at h
    rcases fr_ite h with h1 | h1
    ·
      exact (Fr.rf (S := S0)).tr (hK _ h1)
    ·
      refine (Fr.rf (S := S0)).tr (fr_lp_X11_spreads_154 (v1 := v1) (v2 := v2) (fun _ _ q => False.elim q) (fun a k q => by refine s2 _ _ ?_; unfold w2_lp_X11_spreads_154 at q; unfold w2_lp_X11_spreads_146; exact q) (fun S69 h2 => ?_) _ _ _ h1)
      exact (Fr.rf (S := S69)).tr (ih _ _ h2)
def w1_f_X11_spreads (a k : Nat) : Prop := False
def w2_f_X11_spreads (a k : Nat) : Prop := a = 161
theorem fr_f_X11_spreads {S : fS} {r : fS} (h : f_X11_spreads S = some r) : Fr (w1_f_X11_spreads) (w2_f_X11_spreads) S r := by
  unfold f_X11_spreads at h
  refine (Fr.rf (S := S)).tr (fr_lp_X11_spreads_2 (v1 := w1_f_X11_spreads) (v2 := w2_f_X11_spreads) (fun _ _ q => False.elim q) (fun a k q => by unfold w2_lp_X11_spreads_2 at q; unfold w2_f_X11_spreads; exact q) (fun S12 h1 => ?_) _ _ _ h)
  refine (Fr.rf (S := S12)).tr (fr_lp_X11_spreads_53 (v1 := w1_f_X11_spreads) (v2 := w2_f_X11_spreads) (fun _ _ q => False.elim q) (fun a k q => by unfold w2_lp_X11_spreads_53 at q; unfold w2_f_X11_spreads; exact q) (fun S43 h2 => ?_) _ _ _ h1)
  refine (Fr.rf (S := S43)).tr (fr_lp_X11_spreads_146 (v1 := w1_f_X11_spreads) (v2 := w2_f_X11_spreads) (fun _ _ q => False.elim q) (fun a k q => by unfold w2_lp_X11_spreads_146 at q; unfold w2_f_X11_spreads; exact q) (fun S71 h3 => ?_) _ _ _ h2)
  exact fr_e1 h3 (Fr.rf (S := S71))
def w1_lp_X11_tower_82 (a k : Nat) : Prop := a = 157
def w2_lp_X11_tower_82 (a k : Nat) : Prop := False
theorem fr_lp_X11_tower_82 {K : fS → Option (Int32 × fS)} {r : Int32 × fS} {v1 v2 : Nat → Nat → Prop} (s1 : ∀ a k, w1_lp_X11_tower_82 a k → v1 a k) (s2 : ∀ a k, w2_lp_X11_tower_82 a k → v2 a k) (hK : ∀ (x0 : fS), K x0 = some r → Fr v1 v2 x0 r.2) : ∀ (n : Nat) (p1 : Int32) (S0 : fS), lp_X11_tower_82 K n p1 S0 = some r → Fr v1 v2 S0 r.2 := by
  intro n
  induction n with
  | zero => intro p1 S0 h; exact mm_no h
  | succ n ih =>
    intro p1 S0 h
    rw [lp_X11_tower_82.eq_2] at h
    rcases fr_ite h with h1 | h1
    ·
      exact (Fr.rf (S := S0)).tr (hK _ h1)
    ·
      obtain ⟨a33, e2, h3⟩ := Option.bind_eq_some_iff.mp h1
      obtain ⟨S36, e4, h5⟩ := Option.bind_eq_some_iff.mp h3
      have f6 : Fr v1 v2 S0 S36 := (Fr.rf (S := S0)).tr (fr_sI e4 (fun k => by refine s1 _ _ ?_; unfold w1_lp_X11_tower_82; exact rfl))
      exact f6.tr (ih _ _ h5)
def w1_lp_X11_tower_115 (a k : Nat) : Prop := a = 157
def w2_lp_X11_tower_115 (a k : Nat) : Prop := False
theorem fr_lp_X11_tower_115 {K : fS → Option (Int32 × fS)} {r : Int32 × fS} {v1 v2 : Nat → Nat → Prop} (s1 : ∀ a k, w1_lp_X11_tower_115 a k → v1 a k) (s2 : ∀ a k, w2_lp_X11_tower_115 a k → v2 a k) (hK : ∀ (x0 : fS), K x0 = some r → Fr v1 v2 x0 r.2) : ∀ (n : Nat) (p1 : Int32) (S0 : fS), lp_X11_tower_115 K n p1 S0 = some r → Fr v1 v2 S0 r.2 := by
  intro n
  induction n with
  | zero => intro p1 S0 h; exact mm_no h
  | succ n ih =>
    intro p1 S0 h
    rw [lp_X11_tower_115.eq_2] at h
    rcases fr_ite h with h1 | h1
    ·
      exact (Fr.rf (S := S0)).tr (hK _ h1)
    ·
      obtain ⟨a42, e2, h3⟩ := Option.bind_eq_some_iff.mp h1
      obtain ⟨S45, e4, h5⟩ := Option.bind_eq_some_iff.mp h3
      have f6 : Fr v1 v2 S0 S45 := (Fr.rf (S := S0)).tr (fr_sI e4 (fun k => by refine s1 _ _ ?_; unfold w1_lp_X11_tower_115; exact rfl))
      exact f6.tr (ih _ _ h5)
def w1_lp_X11_tower_148 (a k : Nat) : Prop := a = 157
def w2_lp_X11_tower_148 (a k : Nat) : Prop := a = 158
theorem fr_lp_X11_tower_148 {K : fS → Option (Int32 × fS)} {r : Int32 × fS} {v1 v2 : Nat → Nat → Prop} (s1 : ∀ a k, w1_lp_X11_tower_148 a k → v1 a k) (s2 : ∀ a k, w2_lp_X11_tower_148 a k → v2 a k) (hK : ∀ (x0 : fS), K x0 = some r → Fr v1 v2 x0 r.2) : ∀ (n : Nat) (p1 : Int32) (S0 : fS), lp_X11_tower_148 K n p1 S0 = some r → Fr v1 v2 S0 r.2 := by
  intro n
  induction n with
  | zero => intro p1 S0 h; exact mm_no h
  | succ n ih =>
    intro p1 S0 h
    rw [lp_X11_tower_148.eq_2] at h
    rcases fr_ite h with h1 | h1
    ·
      exact (Fr.rf (S := S0)).tr (hK _ h1)
    ·
      obtain ⟨a51, e2, h3⟩ := Option.bind_eq_some_iff.mp h1
      obtain ⟨q54, e4, h5⟩ := Option.bind_eq_some_iff.mp h3
      have f6 : Fr v1 v2 S0 q54 := (Fr.rf (S := S0)).tr (Fr.mo (fr_f_X11_stands e4) (fun a k q => by refine s1 _ _ ?_; unfold w1_f_X11_stands at q; unfold w1_lp_X11_tower_148; exact q) (fun _ _ q => False.elim q))
      obtain ⟨S57, e7, h8⟩ := Option.bind_eq_some_iff.mp h5
      have f9 : Fr v1 v2 S0 S57 := f6.tr (fr_sL e7 (fun k => by refine s2 _ _ ?_; unfold w2_lp_X11_tower_148; exact rfl))
      exact f9.tr (ih _ _ h8)
def w1_f_X11_tower (a k : Nat) : Prop := (a = 145 ∧ k = 1) ∨ (a = 145 ∧ k = 7) ∨ (a = 145 ∧ k = 8) ∨ (a = 145 ∧ k = 9) ∨ (a = 145 ∧ k = 13) ∨ (a = 145 ∧ k = 14) ∨ (a = 145 ∧ k = 15) ∨ (a = 145 ∧ k = 16) ∨ (a = 145 ∧ k = 17) ∨ (a = 145 ∧ k = 18) ∨ (a = 145 ∧ k = 19) ∨ (a = 145 ∧ k = 21) ∨ a = 147 ∨ a = 148 ∨ a = 149 ∨ a = 150 ∨ a = 151 ∨ a = 152 ∨ a = 153 ∨ a = 154 ∨ a = 157
def w2_f_X11_tower (a k : Nat) : Prop := a = 158 ∨ a = 161
theorem fr_f_X11_tower {S : fS} {r : Int32 × fS} (h : f_X11_tower S = some r) : Fr (w1_f_X11_tower) (w2_f_X11_tower) S r.2 := by
  unfold f_X11_tower at h
  obtain ⟨S1, e1, h2⟩ := Option.bind_eq_some_iff.mp h
  have f3 : Fr (w1_f_X11_tower) (w2_f_X11_tower) S S1 := (Fr.rf (S := S)).tr (fr_pI e1 (by unfold w1_f_X11_tower; exact Or.inr (Or.inr (Or.inr (Or.inr (Or.inr (Or.inr (Or.inr (Or.inl (⟨rfl, rfl⟩))))))))))
  obtain ⟨S4, e4, h5⟩ := Option.bind_eq_some_iff.mp h2
  have f6 : Fr (w1_f_X11_tower) (w2_f_X11_tower) S S4 := f3.tr (fr_pI e4 (by unfold w1_f_X11_tower; exact Or.inr (Or.inl (⟨rfl, rfl⟩))))
  obtain ⟨S7, e7, h8⟩ := Option.bind_eq_some_iff.mp h5
  have f9 : Fr (w1_f_X11_tower) (w2_f_X11_tower) S S7 := f6.tr (fr_pI e7 (by unfold w1_f_X11_tower; exact Or.inr (Or.inr (Or.inl (⟨rfl, rfl⟩)))))
  obtain ⟨S10, e10, h11⟩ := Option.bind_eq_some_iff.mp h8
  have f12 : Fr (w1_f_X11_tower) (w2_f_X11_tower) S S10 := f9.tr (fr_pI e10 (by unfold w1_f_X11_tower; exact Or.inr (Or.inr (Or.inr (Or.inl (⟨rfl, rfl⟩))))))
  obtain ⟨q13, e13, h14⟩ := Option.bind_eq_some_iff.mp h11
  have f15 : Fr (w1_f_X11_tower) (w2_f_X11_tower) S q13.2 := f12.tr (Fr.mo (fr_f_X11_readsAll e13) (fun a k q => by unfold w1_f_X11_readsAll at q; unfold w1_f_X11_tower; rcases q with q | q | q | q | q | q | q | q | q | q | q | q | q | q | q | q | q | q | q; exact Or.inl (q); exact Or.inr (Or.inl (q)); exact Or.inr (Or.inr (Or.inl (q))); exact Or.inr (Or.inr (Or.inr (Or.inl (q)))); exact Or.inr (Or.inr (Or.inr (Or.inr (Or.inl (q))))); exact Or.inr (Or.inr (Or.inr (Or.inr (Or.inr (Or.inl (q)))))); exact Or.inr (Or.inr (Or.inr (Or.inr (Or.inr (Or.inr (Or.inl (q))))))); exact Or.inr (Or.inr (Or.inr (Or.inr (Or.inr (Or.inr (Or.inr (Or.inr (Or.inl (q))))))))); exact Or.inr (Or.inr (Or.inr (Or.inr (Or.inr (Or.inr (Or.inr (Or.inr (Or.inr (Or.inl (q)))))))))); exact Or.inr (Or.inr (Or.inr (Or.inr (Or.inr (Or.inr (Or.inr (Or.inr (Or.inr (Or.inr (Or.inl (q))))))))))); exact Or.inr (Or.inr (Or.inr (Or.inr (Or.inr (Or.inr (Or.inr (Or.inr (Or.inr (Or.inr (Or.inr (Or.inl (q)))))))))))); exact Or.inr (Or.inr (Or.inr (Or.inr (Or.inr (Or.inr (Or.inr (Or.inr (Or.inr (Or.inr (Or.inr (Or.inr (Or.inl (q))))))))))))); exact Or.inr (Or.inr (Or.inr (Or.inr (Or.inr (Or.inr (Or.inr (Or.inr (Or.inr (Or.inr (Or.inr (Or.inr (Or.inr (Or.inl (q)))))))))))))); exact Or.inr (Or.inr (Or.inr (Or.inr (Or.inr (Or.inr (Or.inr (Or.inr (Or.inr (Or.inr (Or.inr (Or.inr (Or.inr (Or.inr (Or.inl (q))))))))))))))); exact Or.inr (Or.inr (Or.inr (Or.inr (Or.inr (Or.inr (Or.inr (Or.inr (Or.inr (Or.inr (Or.inr (Or.inr (Or.inr (Or.inr (Or.inr (Or.inl (q)))))))))))))))); exact Or.inr (Or.inr (Or.inr (Or.inr (Or.inr (Or.inr (Or.inr (Or.inr (Or.inr (Or.inr (Or.inr (Or.inr (Or.inr (Or.inr (Or.inr (Or.inr (Or.inl (q))))))))))))))))); exact Or.inr (Or.inr (Or.inr (Or.inr (Or.inr (Or.inr (Or.inr (Or.inr (Or.inr (Or.inr (Or.inr (Or.inr (Or.inr (Or.inr (Or.inr (Or.inr (Or.inr (Or.inl (q)))))))))))))))))); exact Or.inr (Or.inr (Or.inr (Or.inr (Or.inr (Or.inr (Or.inr (Or.inr (Or.inr (Or.inr (Or.inr (Or.inr (Or.inr (Or.inr (Or.inr (Or.inr (Or.inr (Or.inr (Or.inl (q))))))))))))))))))); exact Or.inr (Or.inr (Or.inr (Or.inr (Or.inr (Or.inr (Or.inr (Or.inr (Or.inr (Or.inr (Or.inr (Or.inr (Or.inr (Or.inr (Or.inr (Or.inr (Or.inr (Or.inr (Or.inr (Or.inl (q))))))))))))))))))))) (fun _ _ q => False.elim q))
  rcases fr_ite h14 with h16 | h16
  ·
    exact fr_e2 h16 f15
  ·
    obtain ⟨S17, e17, h18⟩ := Option.bind_eq_some_iff.mp h16
    have f19 : Fr (w1_f_X11_tower) (w2_f_X11_tower) S S17 := f15.tr (fr_sI e17 (fun k => by unfold w1_f_X11_tower; exact Or.inr (Or.inr (Or.inr (Or.inr (Or.inr (Or.inr (Or.inr (Or.inr (Or.inr (Or.inr (Or.inr (Or.inr (Or.inr (Or.inr (Or.inr (Or.inr (Or.inr (Or.inr (Or.inr (Or.inr ((rfl)))))))))))))))))))))))
    obtain ⟨S20, e20, h21⟩ := Option.bind_eq_some_iff.mp h18
    have f22 : Fr (w1_f_X11_tower) (w2_f_X11_tower) S S20 := f19.tr (fr_sI e20 (fun k => by unfold w1_f_X11_tower; exact Or.inr (Or.inr (Or.inr (Or.inr (Or.inr (Or.inr (Or.inr (Or.inr (Or.inr (Or.inr (Or.inr (Or.inr (Or.inr (Or.inr (Or.inr (Or.inr (Or.inr (Or.inr (Or.inr (Or.inr ((rfl)))))))))))))))))))))))
    obtain ⟨S23, e23, h24⟩ := Option.bind_eq_some_iff.mp h21
    have f25 : Fr (w1_f_X11_tower) (w2_f_X11_tower) S S23 := f22.tr (fr_sI e23 (fun k => by unfold w1_f_X11_tower; exact Or.inr (Or.inr (Or.inr (Or.inr (Or.inr (Or.inr (Or.inr (Or.inr (Or.inr (Or.inr (Or.inr (Or.inr (Or.inr (Or.inr (Or.inr (Or.inr (Or.inr (Or.inr (Or.inr (Or.inr ((rfl)))))))))))))))))))))))
    obtain ⟨S26, e26, h27⟩ := Option.bind_eq_some_iff.mp h24
    have f28 : Fr (w1_f_X11_tower) (w2_f_X11_tower) S S26 := f25.tr (fr_sI e26 (fun k => by unfold w1_f_X11_tower; exact Or.inr (Or.inr (Or.inr (Or.inr (Or.inr (Or.inr (Or.inr (Or.inr (Or.inr (Or.inr (Or.inr (Or.inr (Or.inr (Or.inr (Or.inr (Or.inr (Or.inr (Or.inr (Or.inr (Or.inr ((rfl)))))))))))))))))))))))
    obtain ⟨S29, e29, h30⟩ := Option.bind_eq_some_iff.mp h27
    have f31 : Fr (w1_f_X11_tower) (w2_f_X11_tower) S S29 := f28.tr (fr_sI e29 (fun k => by unfold w1_f_X11_tower; exact Or.inr (Or.inr (Or.inr (Or.inr (Or.inr (Or.inr (Or.inr (Or.inr (Or.inr (Or.inr (Or.inr (Or.inr (Or.inr (Or.inr (Or.inr (Or.inr (Or.inr (Or.inr (Or.inr (Or.inr ((rfl)))))))))))))))))))))))
    refine f31.tr (fr_lp_X11_tower_82 (v1 := w1_f_X11_tower) (v2 := w2_f_X11_tower) (fun a k q => by unfold w1_lp_X11_tower_82 at q; unfold w1_f_X11_tower; exact Or.inr (Or.inr (Or.inr (Or.inr (Or.inr (Or.inr (Or.inr (Or.inr (Or.inr (Or.inr (Or.inr (Or.inr (Or.inr (Or.inr (Or.inr (Or.inr (Or.inr (Or.inr (Or.inr (Or.inr ((q)))))))))))))))))))))) (fun _ _ q => False.elim q) (fun S39 h32 => ?_) _ _ _ h30)
    refine (Fr.rf (S := S39)).tr (fr_lp_X11_tower_115 (v1 := w1_f_X11_tower) (v2 := w2_f_X11_tower) (fun a k q => by unfold w1_lp_X11_tower_115 at q; unfold w1_f_X11_tower; exact Or.inr (Or.inr (Or.inr (Or.inr (Or.inr (Or.inr (Or.inr (Or.inr (Or.inr (Or.inr (Or.inr (Or.inr (Or.inr (Or.inr (Or.inr (Or.inr (Or.inr (Or.inr (Or.inr (Or.inr ((q)))))))))))))))))))))) (fun _ _ q => False.elim q) (fun S48 h33 => ?_) _ _ _ h32)
    refine (Fr.rf (S := S48)).tr (fr_lp_X11_tower_148 (v1 := w1_f_X11_tower) (v2 := w2_f_X11_tower) (fun a k q => by unfold w1_lp_X11_tower_148 at q; unfold w1_f_X11_tower; exact Or.inr (Or.inr (Or.inr (Or.inr (Or.inr (Or.inr (Or.inr (Or.inr (Or.inr (Or.inr (Or.inr (Or.inr (Or.inr (Or.inr (Or.inr (Or.inr (Or.inr (Or.inr (Or.inr (Or.inr ((q)))))))))))))))))))))) (fun a k q => by unfold w2_lp_X11_tower_148 at q; unfold w2_f_X11_tower; exact Or.inl (q)) (fun S60 h34 => ?_) _ _ _ h33)
    obtain ⟨q62, e35, h36⟩ := Option.bind_eq_some_iff.mp h34
    have f37 : Fr (w1_f_X11_tower) (w2_f_X11_tower) S60 q62 := (Fr.rf (S := S60)).tr (Fr.mo (fr_f_X11_spreads e35) (fun _ _ q => False.elim q) (fun a k q => by unfold w2_f_X11_spreads at q; unfold w2_f_X11_tower; exact Or.inr ((q))))
    exact fr_e2 h36 f37
def w1_f_X11_setsOff (a k : Nat) : Prop := a = 157
def w2_f_X11_setsOff (a k : Nat) : Prop := False
theorem fr_f_X11_setsOff {v1 : Int32} {v2 : Int32} {S : fS} {r : fS} (h : f_X11_setsOff v1 v2 S = some r) : Fr (w1_f_X11_setsOff) (w2_f_X11_setsOff) S r := by
  unfold f_X11_setsOff at h
  obtain ⟨a1, e1, h2⟩ := Option.bind_eq_some_iff.mp h
  obtain ⟨q4, e3, h4⟩ := Option.bind_eq_some_iff.mp h2
  obtain ⟨S7, e5, h6⟩ := Option.bind_eq_some_iff.mp h4
  have f7 : Fr (w1_f_X11_setsOff) (w2_f_X11_setsOff) S S7 := (Fr.rf (S := S)).tr (fr_sI e5 (fun k => by unfold w1_f_X11_setsOff; exact rfl))
  obtain ⟨S10, e8, h9⟩ := Option.bind_eq_some_iff.mp h6
  have f10 : Fr (w1_f_X11_setsOff) (w2_f_X11_setsOff) S S10 := f7.tr (fr_sI e8 (fun k => by unfold w1_f_X11_setsOff; exact rfl))
  obtain ⟨S13, e11, h12⟩ := Option.bind_eq_some_iff.mp h9
  have f13 : Fr (w1_f_X11_setsOff) (w2_f_X11_setsOff) S S13 := f10.tr (fr_sI e11 (fun k => by unfold w1_f_X11_setsOff; exact rfl))
  obtain ⟨S16, e14, h15⟩ := Option.bind_eq_some_iff.mp h12
  have f16 : Fr (w1_f_X11_setsOff) (w2_f_X11_setsOff) S S16 := f13.tr (fr_sI e14 (fun k => by unfold w1_f_X11_setsOff; exact rfl))
  exact fr_e1 h15 f16
def w1_f_X11_go (a k : Nat) : Prop := a = 157
def w2_f_X11_go (a k : Nat) : Prop := False
theorem fr_f_X11_go {v1 : Int32} {v2 : Int32} {S : fS} {r : Int32 × fS} (h : f_X11_go v1 v2 S = some r) : Fr (w1_f_X11_go) (w2_f_X11_go) S r.2 := by
  unfold f_X11_go at h
  obtain ⟨q1, e1, h2⟩ := Option.bind_eq_some_iff.mp h
  rcases fr_ite h2 with h3 | h3
  ·
    exact fr_e2 h3 (Fr.rf (S := S))
  ·
    obtain ⟨q5, e4, h5⟩ := Option.bind_eq_some_iff.mp h3
    rcases fr_ite h5 with h6 | h6
    ·
      exact fr_e2 h6 (Fr.rf (S := S))
    ·
      obtain ⟨q9, e7, h8⟩ := Option.bind_eq_some_iff.mp h6
      rcases fr_ite h8 with h9 | h9
      ·
        exact fr_e2 h9 (Fr.rf (S := S))
      ·
        obtain ⟨q13, e10, h11⟩ := Option.bind_eq_some_iff.mp h9
        obtain ⟨q16, e12, h13⟩ := Option.bind_eq_some_iff.mp h11
        rcases fr_ite h13 with h14 | h14
        ·
          obtain ⟨q20, e15, h16⟩ := Option.bind_eq_some_iff.mp h14
          have f17 : Fr (w1_f_X11_go) (w2_f_X11_go) S q20 := (Fr.rf (S := S)).tr (Fr.mo (fr_f_X11_setsOff e15) (fun a k q => by unfold w1_f_X11_setsOff at q; unfold w1_f_X11_go; exact q) (fun _ _ q => False.elim q))
          exact fr_e2 h16 f17
        ·
          exact fr_e2 h14 (Fr.rf (S := S))
def w1_lp_X11_words_118 (a k : Nat) : Prop := False
def w2_lp_X11_words_118 (a k : Nat) : Prop := a = 156
theorem fr_lp_X11_words_118 {p1 : Int32} {K : fS → Option (fS)} {r : fS} {v1 v2 : Nat → Nat → Prop} (s1 : ∀ a k, w1_lp_X11_words_118 a k → v1 a k) (s2 : ∀ a k, w2_lp_X11_words_118 a k → v2 a k) (hK : ∀ (x0 : fS), K x0 = some r → Fr v1 v2 x0 r) : ∀ (n : Nat) (p3 : Int32) (S0 : fS), lp_X11_words_118 p1 K n p3 S0 = some r → Fr v1 v2 S0 r := by
  intro n
  induction n with
  | zero => intro p3 S0 h; exact mm_no h
  | succ n ih =>
    intro p3 S0 h
    rw [lp_X11_words_118.eq_2] at h
    obtain ⟨a49, e1, h2⟩ := Option.bind_eq_some_iff.mp h
    rcases fr_ite h2 with h3 | h3
    ·
      exact (Fr.rf (S := S0)).tr (hK _ h3)
    ·
      obtain ⟨a53, e4, h5⟩ := Option.bind_eq_some_iff.mp h3
      obtain ⟨a56, e6, h7⟩ := Option.bind_eq_some_iff.mp h5
      rcases fr_ite h7 with h8 | h8
      ·
        obtain ⟨a60, e9, h10⟩ := Option.bind_eq_some_iff.mp h8
        obtain ⟨a63, e11, h12⟩ := Option.bind_eq_some_iff.mp h10
        rcases fr_ite h12 with h13 | h13
        ·
          exact (Fr.rf (S := S0)).tr (ih _ _ h13)
        ·
          obtain ⟨S67, e14, h15⟩ := Option.bind_eq_some_iff.mp h13
          have f16 : Fr v1 v2 S0 S67 := (Fr.rf (S := S0)).tr (fr_sL e14 (fun k => by refine s2 _ _ ?_; unfold w2_lp_X11_words_118; exact rfl))
          exact f16.tr (ih _ _ h15)
      ·
        obtain ⟨S70, e17, h18⟩ := Option.bind_eq_some_iff.mp h8
        have f19 : Fr v1 v2 S0 S70 := (Fr.rf (S := S0)).tr (fr_sL e17 (fun k => by refine s2 _ _ ?_; unfold w2_lp_X11_words_118; exact rfl))
        obtain ⟨a73, e20, h21⟩ := Option.bind_eq_some_iff.mp h18
        obtain ⟨a76, e22, h23⟩ := Option.bind_eq_some_iff.mp h21
        rcases fr_ite h23 with h24 | h24
        ·
          exact f19.tr (ih _ _ h24)
        ·
          obtain ⟨S80, e25, h26⟩ := Option.bind_eq_some_iff.mp h24
          have f27 : Fr v1 v2 S0 S80 := f19.tr (fr_sL e25 (fun k => by refine s2 _ _ ?_; unfold w2_lp_X11_words_118; exact rfl))
          exact f27.tr (ih _ _ h26)
def w1_f_X11_words (a k : Nat) : Prop := False
def w2_f_X11_words (a k : Nat) : Prop := a = 156
theorem fr_f_X11_words {v1 : Int32} {S : fS} {r : fS} (h : f_X11_words v1 S = some r) : Fr (w1_f_X11_words) (w2_f_X11_words) S r := by
  unfold f_X11_words at h
  obtain ⟨q1, e1, h2⟩ := Option.bind_eq_some_iff.mp h
  obtain ⟨a4, e3, h4⟩ := Option.bind_eq_some_iff.mp h2
  obtain ⟨S7, e5, h6⟩ := Option.bind_eq_some_iff.mp h4
  have f7 : Fr (w1_f_X11_words) (w2_f_X11_words) S S7 := (Fr.rf (S := S)).tr (fr_sL e5 (fun k => by unfold w2_f_X11_words; exact rfl))
  obtain ⟨S10, e8, h9⟩ := Option.bind_eq_some_iff.mp h6
  have f10 : Fr (w1_f_X11_words) (w2_f_X11_words) S S10 := f7.tr (fr_sL e8 (fun k => by unfold w2_f_X11_words; exact rfl))
  obtain ⟨S13, e11, h12⟩ := Option.bind_eq_some_iff.mp h9
  have f13 : Fr (w1_f_X11_words) (w2_f_X11_words) S S13 := f10.tr (fr_sL e11 (fun k => by unfold w2_f_X11_words; exact rfl))
  obtain ⟨a16, e14, h15⟩ := Option.bind_eq_some_iff.mp h12
  obtain ⟨a19, e16, h17⟩ := Option.bind_eq_some_iff.mp h15
  obtain ⟨S22, e18, h19⟩ := Option.bind_eq_some_iff.mp h17
  have f20 : Fr (w1_f_X11_words) (w2_f_X11_words) S S22 := f13.tr (fr_sL e18 (fun k => by unfold w2_f_X11_words; exact rfl))
  obtain ⟨q25, e21, h22⟩ := Option.bind_eq_some_iff.mp h19
  obtain ⟨S28, e23, h24⟩ := Option.bind_eq_some_iff.mp h22
  have f25 : Fr (w1_f_X11_words) (w2_f_X11_words) S S28 := f20.tr (fr_sL e23 (fun k => by unfold w2_f_X11_words; exact rfl))
  obtain ⟨a31, e26, h27⟩ := Option.bind_eq_some_iff.mp h24
  obtain ⟨a34, e28, h29⟩ := Option.bind_eq_some_iff.mp h27
  obtain ⟨a37, e30, h31⟩ := Option.bind_eq_some_iff.mp h29
  obtain ⟨S40, e32, h33⟩ := Option.bind_eq_some_iff.mp h31
  have f34 : Fr (w1_f_X11_words) (w2_f_X11_words) S S40 := f25.tr (fr_sL e32 (fun k => by unfold w2_f_X11_words; exact rfl))
  obtain ⟨S43, e35, h36⟩ := Option.bind_eq_some_iff.mp h33
  have f37 : Fr (w1_f_X11_words) (w2_f_X11_words) S S43 := f34.tr (fr_sL e35 (fun k => by unfold w2_f_X11_words; exact rfl))
  obtain ⟨S46, e38, h39⟩ := Option.bind_eq_some_iff.mp h36
  have f40 : Fr (w1_f_X11_words) (w2_f_X11_words) S S46 := f37.tr (fr_sL e38 (fun k => by unfold w2_f_X11_words; exact rfl))
  refine f40.tr (fr_lp_X11_words_118 (v1 := w1_f_X11_words) (v2 := w2_f_X11_words) (fun _ _ q => False.elim q) (fun a k q => by unfold w2_lp_X11_words_118 at q; unfold w2_f_X11_words; exact q) (fun S83 h41 => ?_) _ _ _ h39)
  exact fr_e1 h41 (Fr.rf (S := S83))
def w1_f_X11_push (a k : Nat) : Prop := (a = 145 ∧ k = 23)
def w2_f_X11_push (a k : Nat) : Prop := a = 155
theorem fr_f_X11_push {v1 : Int64} {S : fS} {r : fS} (h : f_X11_push v1 S = some r) : Fr (w1_f_X11_push) (w2_f_X11_push) S r := by
  unfold f_X11_push at h
  obtain ⟨S1, e1, h2⟩ := Option.bind_eq_some_iff.mp h
  have f3 : Fr (w1_f_X11_push) (w2_f_X11_push) S S1 := (Fr.rf (S := S)).tr (fr_sL e1 (fun k => by unfold w2_f_X11_push; exact rfl))
  obtain ⟨S4, e4, h5⟩ := Option.bind_eq_some_iff.mp h2
  have f6 : Fr (w1_f_X11_push) (w2_f_X11_push) S S4 := f3.tr (fr_pI e4 (by unfold w1_f_X11_push; exact ⟨rfl, rfl⟩))
  exact fr_e1 h5 f6
def w1_f_X11_pop (a k : Nat) : Prop := (a = 145 ∧ k = 23)
def w2_f_X11_pop (a k : Nat) : Prop := False
theorem fr_f_X11_pop {S : fS} {r : Int64 × fS} (h : f_X11_pop S = some r) : Fr (w1_f_X11_pop) (w2_f_X11_pop) S r.2 := by
  unfold f_X11_pop at h
  obtain ⟨S1, e1, h2⟩ := Option.bind_eq_some_iff.mp h
  have f3 : Fr (w1_f_X11_pop) (w2_f_X11_pop) S S1 := (Fr.rf (S := S)).tr (fr_pI e1 (by unfold w1_f_X11_pop; exact ⟨rfl, rfl⟩))
  obtain ⟨a4, e4, h5⟩ := Option.bind_eq_some_iff.mp h2
  exact fr_e2 h5 f3
def w1_lp_X11_reckons_8 (a k : Nat) : Prop := (a = 145 ∧ k = 23)
def w2_lp_X11_reckons_8 (a k : Nat) : Prop := a = 155
theorem fr_lp_X11_reckons_8 {p1 : Int32} {p3 : Int32} {K : fS → Option (Int64 × fS)} {r : Int64 × fS} {v1 v2 : Nat → Nat → Prop} (s1 : ∀ a k, w1_lp_X11_reckons_8 a k → v1 a k) (s2 : ∀ a k, w2_lp_X11_reckons_8 a k → v2 a k) (hK : ∀ (x0 : fS), K x0 = some r → Fr v1 v2 x0 r.2) : ∀ (n : Nat) (p4 : Int32) (S0 : fS), lp_X11_reckons_8 p1 p3 K n p4 S0 = some r → Fr v1 v2 S0 r.2 := by
  intro n
  induction n with
  | zero => intro p4 S0 h; exact mm_no h
  | succ n ih =>
    intro p4 S0 h
    rw [lp_X11_reckons_8.eq_2] at h
    rcases fr_ite h with h1 | h1
    ·
      exact (Fr.rf (S := S0)).tr (hK _ h1)
    ·
      obtain ⟨a5, e2, h3⟩ := Option.bind_eq_some_iff.mp h1
      obtain ⟨a8, e4, h5⟩ := Option.bind_eq_some_iff.mp h3
      rcases fr_ite h5 with h6 | h6
      ·
        obtain ⟨q38, e7, h8⟩ := Option.bind_eq_some_iff.mp h6
        have f9 : Fr v1 v2 S0 q38 := (Fr.rf (S := S0)).tr (Fr.mo (fr_f_X11_push e7) (fun a k q => by refine s1 _ _ ?_; unfold w1_f_X11_push at q; unfold w1_lp_X11_reckons_8; exact q) (fun a k q => by refine s2 _ _ ?_; unfold w2_f_X11_push at q; unfold w2_lp_X11_reckons_8; exact q))
        exact f9.tr (ih _ _ h8)
      ·
        rcases fr_ite h6 with h10 | h10
        ·
          obtain ⟨a32, e11, h12⟩ := Option.bind_eq_some_iff.mp h10
          obtain ⟨q35, e13, h14⟩ := Option.bind_eq_some_iff.mp h12
          have f15 : Fr v1 v2 S0 q35 := (Fr.rf (S := S0)).tr (Fr.mo (fr_f_X11_push e13) (fun a k q => by refine s1 _ _ ?_; unfold w1_f_X11_push at q; unfold w1_lp_X11_reckons_8; exact q) (fun a k q => by refine s2 _ _ ?_; unfold w2_f_X11_push at q; unfold w2_lp_X11_reckons_8; exact q))
          exact f15.tr (ih _ _ h14)
        ·
          rcases fr_ite h10 with h16 | h16
          ·
            obtain ⟨q26, e17, h18⟩ := Option.bind_eq_some_iff.mp h16
            have f19 : Fr v1 v2 S0 q26.2 := (Fr.rf (S := S0)).tr (Fr.mo (fr_f_X11_pop e17) (fun a k q => by refine s1 _ _ ?_; unfold w1_f_X11_pop at q; unfold w1_lp_X11_reckons_8; exact q) (fun _ _ q => False.elim q))
            obtain ⟨q29, e20, h21⟩ := Option.bind_eq_some_iff.mp h18
            have f22 : Fr v1 v2 S0 q29 := f19.tr (Fr.mo (fr_f_X11_push e20) (fun a k q => by refine s1 _ _ ?_; unfold w1_f_X11_push at q; unfold w1_lp_X11_reckons_8; exact q) (fun a k q => by refine s2 _ _ ?_; unfold w2_f_X11_push at q; unfold w2_lp_X11_reckons_8; exact q))
            exact f22.tr (ih _ _ h21)
          ·
            obtain ⟨q14, e23, h24⟩ := Option.bind_eq_some_iff.mp h16
            have f25 : Fr v1 v2 S0 q14.2 := (Fr.rf (S := S0)).tr (Fr.mo (fr_f_X11_pop e23) (fun a k q => by refine s1 _ _ ?_; unfold w1_f_X11_pop at q; unfold w1_lp_X11_reckons_8; exact q) (fun _ _ q => False.elim q))
            obtain ⟨q17, e26, h27⟩ := Option.bind_eq_some_iff.mp h24
            have f28 : Fr v1 v2 S0 q17.2 := f25.tr (Fr.mo (fr_f_X11_pop e26) (fun a k q => by refine s1 _ _ ?_; unfold w1_f_X11_pop at q; unfold w1_lp_X11_reckons_8; exact q) (fun _ _ q => False.elim q))
            obtain ⟨q20, e29, h30⟩ := Option.bind_eq_some_iff.mp h27
            obtain ⟨q23, e31, h32⟩ := Option.bind_eq_some_iff.mp h30
            have f33 : Fr v1 v2 S0 q23 := f28.tr (Fr.mo (fr_f_X11_push e31) (fun a k q => by refine s1 _ _ ?_; unfold w1_f_X11_push at q; unfold w1_lp_X11_reckons_8; exact q) (fun a k q => by refine s2 _ _ ?_; unfold w2_f_X11_push at q; unfold w2_lp_X11_reckons_8; exact q))
            exact f33.tr (ih _ _ h32)
def w1_f_X11_reckons (a k : Nat) : Prop := (a = 145 ∧ k = 23)
def w2_f_X11_reckons (a k : Nat) : Prop := a = 155
theorem fr_f_X11_reckons {v1 : Int32} {v2 : Int32} {v3 : Int32} {S : fS} {r : Int64 × fS} (h : f_X11_reckons v1 v2 v3 S = some r) : Fr (w1_f_X11_reckons) (w2_f_X11_reckons) S r.2 := by
  unfold f_X11_reckons at h
  obtain ⟨S1, e1, h2⟩ := Option.bind_eq_some_iff.mp h
  have f3 : Fr (w1_f_X11_reckons) (w2_f_X11_reckons) S S1 := (Fr.rf (S := S)).tr (fr_pI e1 (by unfold w1_f_X11_reckons; exact ⟨rfl, rfl⟩))
  refine f3.tr (fr_lp_X11_reckons_8 (v1 := w1_f_X11_reckons) (v2 := w2_f_X11_reckons) (fun a k q => by unfold w1_lp_X11_reckons_8 at q; unfold w1_f_X11_reckons; exact q) (fun a k q => by unfold w2_lp_X11_reckons_8 at q; unfold w2_f_X11_reckons; exact q) (fun S41 h4 => ?_) _ _ _ h2)
  obtain ⟨q43, e5, h6⟩ := Option.bind_eq_some_iff.mp h4
  have f7 : Fr (w1_f_X11_reckons) (w2_f_X11_reckons) S41 q43.2 := (Fr.rf (S := S41)).tr (Fr.mo (fr_f_X11_pop e5) (fun a k q => by unfold w1_f_X11_pop at q; unfold w1_f_X11_reckons; exact q) (fun _ _ q => False.elim q))
  exact fr_e2 h6 f7
def w1_lp_X11_sent_7 (a k : Nat) : Prop := (a = 145 ∧ k = 23)
def w2_lp_X11_sent_7 (a k : Nat) : Prop := a = 155
theorem fr_lp_X11_sent_7 {p1 : Int32} {K : fS → Option (Int32 × fS)} {r : Int32 × fS} {v1 v2 : Nat → Nat → Prop} (s1 : ∀ a k, w1_lp_X11_sent_7 a k → v1 a k) (s2 : ∀ a k, w2_lp_X11_sent_7 a k → v2 a k) (hK : ∀ (x0 : fS), K x0 = some r → Fr v1 v2 x0 r.2) : ∀ (n : Nat) (p3 : Int32) (S0 : fS), lp_X11_sent_7 p1 K n p3 S0 = some r → Fr v1 v2 S0 r.2 := by
  intro n
  induction n with
  | zero => intro p3 S0 h; exact mm_no h
  | succ n ih =>
    intro p3 S0 h
    rw [lp_X11_sent_7.eq_2] at h
    obtain ⟨a4, e1, h2⟩ := Option.bind_eq_some_iff.mp h
    rcases fr_ite h2 with h3 | h3
    ·
      exact (Fr.rf (S := S0)).tr (hK _ h3)
    ·
      obtain ⟨a8, e4, h5⟩ := Option.bind_eq_some_iff.mp h3
      rcases fr_ite h5 with h6 | h6
      ·
        obtain ⟨a12, e7, h8⟩ := Option.bind_eq_some_iff.mp h6
        exact fr_e2 h8 (Fr.rf (S := S0))
      ·
        obtain ⟨a15, e9, h10⟩ := Option.bind_eq_some_iff.mp h6
        obtain ⟨a18, e11, h12⟩ := Option.bind_eq_some_iff.mp h10
        obtain ⟨q21, e13, h14⟩ := Option.bind_eq_some_iff.mp h12
        have f15 : Fr v1 v2 S0 q21.2 := (Fr.rf (S := S0)).tr (Fr.mo (fr_f_X11_reckons e13) (fun a k q => by refine s1 _ _ ?_; unfold w1_f_X11_reckons at q; unfold w1_lp_X11_sent_7; exact q) (fun a k q => by refine s2 _ _ ?_; unfold w2_f_X11_reckons at q; unfold w2_lp_X11_sent_7; exact q))
        rcases fr_ite h14 with h16 | h16
        ·
          obtain ⟨a25, e17, h18⟩ := Option.bind_eq_some_iff.mp h16
          exact fr_e2 h18 f15
        ·
          exact f15.tr (ih _ _ h16)
def w1_f_X11_sent (a k : Nat) : Prop := (a = 145 ∧ k = 23)
def w2_f_X11_sent (a k : Nat) : Prop := a = 155 ∨ a = 156
theorem fr_f_X11_sent {v1 : Int32} {v2 : Int32} {S : fS} {r : Int32 × fS} (h : f_X11_sent v1 v2 S = some r) : Fr (w1_f_X11_sent) (w2_f_X11_sent) S r.2 := by
  unfold f_X11_sent at h
  obtain ⟨q1, e1, h2⟩ := Option.bind_eq_some_iff.mp h
  have f3 : Fr (w1_f_X11_sent) (w2_f_X11_sent) S q1 := (Fr.rf (S := S)).tr (Fr.mo (fr_f_X11_words e1) (fun _ _ q => False.elim q) (fun a k q => by unfold w2_f_X11_words at q; unfold w2_f_X11_sent; exact Or.inr ((q))))
  refine f3.tr (fr_lp_X11_sent_7 (v1 := w1_f_X11_sent) (v2 := w2_f_X11_sent) (fun a k q => by unfold w1_lp_X11_sent_7 at q; unfold w1_f_X11_sent; exact q) (fun a k q => by unfold w2_lp_X11_sent_7 at q; unfold w2_f_X11_sent; exact Or.inl (q)) (fun S28 h4 => ?_) _ _ _ h2)
  exact fr_e2 h4 (Fr.rf (S := S28))
def w1_lp_X11_ageAll_2 (a k : Nat) : Prop := a = 157
def w2_lp_X11_ageAll_2 (a k : Nat) : Prop := a = 158
theorem fr_lp_X11_ageAll_2 {K : fS → Option (fS)} {r : fS} {v1 v2 : Nat → Nat → Prop} (s1 : ∀ a k, w1_lp_X11_ageAll_2 a k → v1 a k) (s2 : ∀ a k, w2_lp_X11_ageAll_2 a k → v2 a k) (hK : ∀ (x0 : fS), K x0 = some r → Fr v1 v2 x0 r) : ∀ (n : Nat) (p1 : Int32) (S0 : fS), lp_X11_ageAll_2 K n p1 S0 = some r → Fr v1 v2 S0 r := by
  intro n
  induction n with
  | zero => intro p1 S0 h; exact mm_no h
  | succ n ih =>
    intro p1 S0 h
    rw [lp_X11_ageAll_2.eq_2] at h
    obtain ⟨a1, e1, h2⟩ := Option.bind_eq_some_iff.mp h
    rcases fr_ite h2 with h3 | h3
    ·
      exact (Fr.rf (S := S0)).tr (hK _ h3)
    ·
      obtain ⟨q5, e4, h5⟩ := Option.bind_eq_some_iff.mp h3
      rcases fr_ite h5 with h6 | h6
      ·
        obtain ⟨a9, e7, h8⟩ := Option.bind_eq_some_iff.mp h6
        obtain ⟨q12, e9, h10⟩ := Option.bind_eq_some_iff.mp h8
        obtain ⟨S15, e11, h12⟩ := Option.bind_eq_some_iff.mp h10
        have f13 : Fr v1 v2 S0 S15 := (Fr.rf (S := S0)).tr (fr_sL e11 (fun k => by refine s2 _ _ ?_; unfold w2_lp_X11_ageAll_2; exact rfl))
        obtain ⟨a18, e14, h15⟩ := Option.bind_eq_some_iff.mp h12
        obtain ⟨S21, e16, h17⟩ := Option.bind_eq_some_iff.mp h15
        have f18 : Fr v1 v2 S0 S21 := f13.tr (fr_sI e16 (fun k => by refine s1 _ _ ?_; unfold w1_lp_X11_ageAll_2; exact rfl))
        obtain ⟨q24, e19, h20⟩ := Option.bind_eq_some_iff.mp h17
        obtain ⟨q27, e21, h22⟩ := Option.bind_eq_some_iff.mp h20
        rcases fr_ite h22 with h23 | h23
        ·
          obtain ⟨q31, e24, h25⟩ := Option.bind_eq_some_iff.mp h23
          obtain ⟨q34, e26, h27⟩ := Option.bind_eq_some_iff.mp h25
          have f28 : Fr v1 v2 S0 q34 := f18.tr (Fr.mo (fr_f_X11_stands e26) (fun a k q => by refine s1 _ _ ?_; unfold w1_f_X11_stands at q; unfold w1_lp_X11_ageAll_2; exact q) (fun _ _ q => False.elim q))
          exact f28.tr (ih _ _ h27)
        ·
          exact f18.tr (ih _ _ h23)
      ·
        obtain ⟨a37, e29, h30⟩ := Option.bind_eq_some_iff.mp h6
        obtain ⟨q40, e31, h32⟩ := Option.bind_eq_some_iff.mp h30
        obtain ⟨q43, e33, h34⟩ := Option.bind_eq_some_iff.mp h32
        obtain ⟨S46, e35, h36⟩ := Option.bind_eq_some_iff.mp h34
        have f37 : Fr v1 v2 S0 S46 := (Fr.rf (S := S0)).tr (fr_sL e35 (fun k => by refine s2 _ _ ?_; unfold w2_lp_X11_ageAll_2; exact rfl))
        exact f37.tr (ih _ _ h36)
def w1_f_X11_ageAll (a k : Nat) : Prop := a = 157
def w2_f_X11_ageAll (a k : Nat) : Prop := a = 158
theorem fr_f_X11_ageAll {S : fS} {r : fS} (h : f_X11_ageAll S = some r) : Fr (w1_f_X11_ageAll) (w2_f_X11_ageAll) S r := by
  unfold f_X11_ageAll at h
  refine (Fr.rf (S := S)).tr (fr_lp_X11_ageAll_2 (v1 := w1_f_X11_ageAll) (v2 := w2_f_X11_ageAll) (fun a k q => by unfold w1_lp_X11_ageAll_2 at q; unfold w1_f_X11_ageAll; exact q) (fun a k q => by unfold w2_lp_X11_ageAll_2 at q; unfold w2_f_X11_ageAll; exact q) (fun S49 h1 => ?_) _ _ _ h)
  obtain ⟨a51, e2, h3⟩ := Option.bind_eq_some_iff.mp h1
  obtain ⟨S54, e4, h5⟩ := Option.bind_eq_some_iff.mp h3
  have f6 : Fr (w1_f_X11_ageAll) (w2_f_X11_ageAll) S49 S54 := (Fr.rf (S := S49)).tr (fr_sI e4 (fun k => by unfold w1_f_X11_ageAll; exact rfl))
  exact fr_e1 h5 f6
def w1_lp_X11_hour_2 (a k : Nat) : Prop := (a = 145 ∧ k = 23) ∨ a = 157
def w2_lp_X11_hour_2 (a k : Nat) : Prop := a = 155 ∨ a = 156
theorem fr_lp_X11_hour_2 {p1 : Int32} {K : fS → Option (fS)} {r : fS} {v1 v2 : Nat → Nat → Prop} (s1 : ∀ a k, w1_lp_X11_hour_2 a k → v1 a k) (s2 : ∀ a k, w2_lp_X11_hour_2 a k → v2 a k) (hK : ∀ (x0 : fS), K x0 = some r → Fr v1 v2 x0 r) : ∀ (n : Nat) (p2 : Int32) (S0 : fS), lp_X11_hour_2 p1 K n p2 S0 = some r → Fr v1 v2 S0 r := by
  intro n
  induction n with
  | zero => intro p2 S0 h; exact mm_no h
  | succ n ih =>
    intro p2 S0 h
    rw [lp_X11_hour_2.eq_2] at h
    obtain ⟨a1, e1, h2⟩ := Option.bind_eq_some_iff.mp h
    rcases fr_ite h2 with h3 | h3
    ·
      exact (Fr.rf (S := S0)).tr (hK _ h3)
    ·
      rcases fr_ite h3 with h4 | h4
      ·
        exact (Fr.rf (S := S0)).tr (hK _ h4)
      ·
        obtain ⟨q6, e5, h6⟩ := Option.bind_eq_some_iff.mp h4
        rcases fr_ite h6 with h7 | h7
        ·
          obtain ⟨q10, e8, h9⟩ := Option.bind_eq_some_iff.mp h7
          have f10 : Fr v1 v2 S0 q10.2 := (Fr.rf (S := S0)).tr (Fr.mo (fr_f_X11_sent e8) (fun a k q => by refine s1 _ _ ?_; unfold w1_f_X11_sent at q; unfold w1_lp_X11_hour_2; exact Or.inl (q)) (fun a k q => by refine s2 _ _ ?_; unfold w2_f_X11_sent at q; unfold w2_lp_X11_hour_2; rcases q with q | q; exact Or.inl (q); exact Or.inr ((q))))
          obtain ⟨q13, e11, h12⟩ := Option.bind_eq_some_iff.mp h9
          rcases fr_ite h12 with h13 | h13
          ·
            rcases fr_ite h13 with h14 | h14
            ·
              exact f10.tr (ih _ _ h14)
            ·
              obtain ⟨q18, e15, h16⟩ := Option.bind_eq_some_iff.mp h14
              have f17 : Fr v1 v2 S0 q18 := f10.tr (Fr.mo (fr_f_X11_setsOff e15) (fun a k q => by refine s1 _ _ ?_; unfold w1_f_X11_setsOff at q; unfold w1_lp_X11_hour_2; exact Or.inr ((q))) (fun _ _ q => False.elim q))
              exact f17.tr (ih _ _ h16)
          ·
            obtain ⟨q21, e18, h19⟩ := Option.bind_eq_some_iff.mp h13
            obtain ⟨q24, e20, h21⟩ := Option.bind_eq_some_iff.mp h19
            rcases fr_ite h21 with h22 | h22
            ·
              exact f10.tr (ih _ _ h22)
            ·
              obtain ⟨q28, e23, h24⟩ := Option.bind_eq_some_iff.mp h22
              have f25 : Fr v1 v2 S0 q28 := f10.tr (Fr.mo (fr_f_X11_setsOff e23) (fun a k q => by refine s1 _ _ ?_; unfold w1_f_X11_setsOff at q; unfold w1_lp_X11_hour_2; exact Or.inr ((q))) (fun _ _ q => False.elim q))
              exact f25.tr (ih _ _ h24)
        ·
          exact (Fr.rf (S := S0)).tr (ih _ _ h7)
def w1_f_X11_hour (a k : Nat) : Prop := (a = 145 ∧ k = 23) ∨ a = 157
def w2_f_X11_hour (a k : Nat) : Prop := a = 155 ∨ a = 156 ∨ a = 158
theorem fr_f_X11_hour {v1 : Int32} {S : fS} {r : fS} (h : f_X11_hour v1 S = some r) : Fr (w1_f_X11_hour) (w2_f_X11_hour) S r := by
  unfold f_X11_hour at h
  refine (Fr.rf (S := S)).tr (fr_lp_X11_hour_2 (v1 := w1_f_X11_hour) (v2 := w2_f_X11_hour) (fun a k q => by unfold w1_lp_X11_hour_2 at q; unfold w1_f_X11_hour; rcases q with q | q; exact Or.inl (q); exact Or.inr ((q))) (fun a k q => by unfold w2_lp_X11_hour_2 at q; unfold w2_f_X11_hour; rcases q with q | q; exact Or.inl (q); exact Or.inr (Or.inl (q))) (fun S31 h1 => ?_) _ _ _ h)
  obtain ⟨q33, e2, h3⟩ := Option.bind_eq_some_iff.mp h1
  have f4 : Fr (w1_f_X11_hour) (w2_f_X11_hour) S31 q33 := (Fr.rf (S := S31)).tr (Fr.mo (fr_f_X11_ageAll e2) (fun a k q => by unfold w1_f_X11_ageAll at q; unfold w1_f_X11_hour; exact Or.inr ((q))) (fun a k q => by unfold w2_f_X11_ageAll at q; unfold w2_f_X11_hour; exact Or.inr (Or.inr ((q)))))
  exact fr_e1 h3 f4
def w1_lp_X11_tick_43 (a k : Nat) : Prop := (a = 145 ∧ k = 23) ∨ a = 157
def w2_lp_X11_tick_43 (a k : Nat) : Prop := a = 155 ∨ a = 156 ∨ a = 158
theorem fr_lp_X11_tick_43 {p1 : Int32} {p2 : Int32} {K : fS → Option (Int32 × fS)} {r : Int32 × fS} {v1 v2 : Nat → Nat → Prop} (s1 : ∀ a k, w1_lp_X11_tick_43 a k → v1 a k) (s2 : ∀ a k, w2_lp_X11_tick_43 a k → v2 a k) (hK : ∀ (x0 : fS), K x0 = some r → Fr v1 v2 x0 r.2) : ∀ (n : Nat) (p3 : Int32) (S0 : fS), lp_X11_tick_43 p1 p2 K n p3 S0 = some r → Fr v1 v2 S0 r.2 := by
  intro n
  induction n with
  | zero => intro p3 S0 h; exact mm_no h
  | succ n ih =>
    intro p3 S0 h
    rw [lp_X11_tick_43.eq_2] at h
    rcases fr_ite h with h1 | h1
    ·
      exact (Fr.rf (S := S0)).tr (hK _ h1)
    ·
      obtain ⟨q11, e2, h3⟩ := Option.bind_eq_some_iff.mp h1
      have f4 : Fr v1 v2 S0 q11 := (Fr.rf (S := S0)).tr (Fr.mo (fr_f_X11_hour e2) (fun a k q => by refine s1 _ _ ?_; unfold w1_f_X11_hour at q; unfold w1_lp_X11_tick_43; rcases q with q | q; exact Or.inl (q); exact Or.inr ((q))) (fun a k q => by refine s2 _ _ ?_; unfold w2_f_X11_hour at q; unfold w2_lp_X11_tick_43; rcases q with q | q | q; exact Or.inl (q); exact Or.inr (Or.inl (q)); exact Or.inr (Or.inr ((q)))))
      exact f4.tr (ih _ _ h3)
def w1_f_X11_tick (a k : Nat) : Prop := (a = 145 ∧ k = 23) ∨ a = 157
def w2_f_X11_tick (a k : Nat) : Prop := a = 155 ∨ a = 156 ∨ a = 158
theorem fr_f_X11_tick {v1 : Int32} {v2 : Int32} {S : fS} {r : Int32 × fS} (h : f_X11_tick v1 v2 S = some r) : Fr (w1_f_X11_tick) (w2_f_X11_tick) S r.2 := by
  unfold f_X11_tick at h
  rcases fr_ite h with h1 | h1
  ·
    obtain ⟨q2, e2, h3⟩ := Option.bind_eq_some_iff.mp h1
    rcases fr_ite h3 with h4 | h4
    ·
      exact fr_e2 h4 (Fr.rf (S := S))
    ·
      obtain ⟨a6, e5, h6⟩ := Option.bind_eq_some_iff.mp h4
      rcases fr_ite h6 with h7 | h7
      ·
        refine (Fr.rf (S := S)).tr (fr_lp_X11_tick_43 (v1 := w1_f_X11_tick) (v2 := w2_f_X11_tick) (fun a k q => by unfold w1_lp_X11_tick_43 at q; unfold w1_f_X11_tick; rcases q with q | q; exact Or.inl (q); exact Or.inr ((q))) (fun a k q => by unfold w2_lp_X11_tick_43 at q; unfold w2_f_X11_tick; rcases q with q | q | q; exact Or.inl (q); exact Or.inr (Or.inl (q)); exact Or.inr (Or.inr ((q)))) (fun S14 h8 => ?_) _ _ _ h7)
        obtain ⟨a16, e9, h10⟩ := Option.bind_eq_some_iff.mp h8
        exact fr_e2 h10 (Fr.rf (S := S14))
      ·
        exact fr_e2 h7 (Fr.rf (S := S))
  ·
    obtain ⟨q19, e11, h12⟩ := Option.bind_eq_some_iff.mp h1
    rcases fr_ite h12 with h13 | h13
    ·
      exact fr_e2 h13 (Fr.rf (S := S))
    ·
      obtain ⟨q23, e14, h15⟩ := Option.bind_eq_some_iff.mp h13
      rcases fr_ite h15 with h16 | h16
      ·
        exact fr_e2 h16 (Fr.rf (S := S))
      ·
        obtain ⟨a27, e17, h18⟩ := Option.bind_eq_some_iff.mp h16
        rcases fr_ite h18 with h19 | h19
        ·
          refine (Fr.rf (S := S)).tr (fr_lp_X11_tick_43 (v1 := w1_f_X11_tick) (v2 := w2_f_X11_tick) (fun a k q => by unfold w1_lp_X11_tick_43 at q; unfold w1_f_X11_tick; rcases q with q | q; exact Or.inl (q); exact Or.inr ((q))) (fun a k q => by unfold w2_lp_X11_tick_43 at q; unfold w2_f_X11_tick; rcases q with q | q | q; exact Or.inl (q); exact Or.inr (Or.inl (q)); exact Or.inr (Or.inr ((q)))) (fun S31 h20 => ?_) _ _ _ h19)
          obtain ⟨a33, e21, h22⟩ := Option.bind_eq_some_iff.mp h20
          exact fr_e2 h22 (Fr.rf (S := S31))
        ·
          exact fr_e2 h19 (Fr.rf (S := S))
def w1_lp_X11_keeps_2 (a k : Nat) : Prop := a = 159
def w2_lp_X11_keeps_2 (a k : Nat) : Prop := False
theorem fr_lp_X11_keeps_2 {K : fS → Option (fS)} {r : fS} {v1 v2 : Nat → Nat → Prop} (s1 : ∀ a k, w1_lp_X11_keeps_2 a k → v1 a k) (s2 : ∀ a k, w2_lp_X11_keeps_2 a k → v2 a k) (hK : ∀ (x0 : fS), K x0 = some r → Fr v1 v2 x0 r) : ∀ (n : Nat) (p1 : Int32) (S0 : fS), lp_X11_keeps_2 K n p1 S0 = some r → Fr v1 v2 S0 r := by
  intro n
  induction n with
  | zero => intro p1 S0 h; exact mm_no h
  | succ n ih =>
    intro p1 S0 h
    rw [lp_X11_keeps_2.eq_2] at h
    rcases fr_ite h with h1 | h1
    ·
      exact (Fr.rf (S := S0)).tr (hK _ h1)
    ·
      obtain ⟨a2, e2, h3⟩ := Option.bind_eq_some_iff.mp h1
      obtain ⟨S5, e4, h5⟩ := Option.bind_eq_some_iff.mp h3
      have f6 : Fr v1 v2 S0 S5 := (Fr.rf (S := S0)).tr (fr_sI e4 (fun k => by refine s1 _ _ ?_; unfold w1_lp_X11_keeps_2; exact rfl))
      exact f6.tr (ih _ _ h5)
def w1_lp_X11_keeps_29 (a k : Nat) : Prop := False
def w2_lp_X11_keeps_29 (a k : Nat) : Prop := a = 160
theorem fr_lp_X11_keeps_29 {K : fS → Option (fS)} {r : fS} {v1 v2 : Nat → Nat → Prop} (s1 : ∀ a k, w1_lp_X11_keeps_29 a k → v1 a k) (s2 : ∀ a k, w2_lp_X11_keeps_29 a k → v2 a k) (hK : ∀ (x0 : fS), K x0 = some r → Fr v1 v2 x0 r) : ∀ (n : Nat) (p1 : Int32) (S0 : fS), lp_X11_keeps_29 K n p1 S0 = some r → Fr v1 v2 S0 r := by
  intro n
  induction n with
  | zero => intro p1 S0 h; exact mm_no h
  | succ n ih =>
    intro p1 S0 h
    rw [lp_X11_keeps_29.eq_2] at h
    rcases fr_ite h with h1 | h1
    ·
      exact (Fr.rf (S := S0)).tr (hK _ h1)
    ·
      obtain ⟨a11, e2, h3⟩ := Option.bind_eq_some_iff.mp h1
      obtain ⟨S14, e4, h5⟩ := Option.bind_eq_some_iff.mp h3
      have f6 : Fr v1 v2 S0 S14 := (Fr.rf (S := S0)).tr (fr_sL e4 (fun k => by refine s2 _ _ ?_; unfold w2_lp_X11_keeps_29; exact rfl))
      exact f6.tr (ih _ _ h5)
def w1_f_X11_keeps (a k : Nat) : Prop := a = 159
def w2_f_X11_keeps (a k : Nat) : Prop := a = 160
theorem fr_f_X11_keeps {S : fS} {r : fS} (h : f_X11_keeps S = some r) : Fr (w1_f_X11_keeps) (w2_f_X11_keeps) S r := by
  unfold f_X11_keeps at h
  refine (Fr.rf (S := S)).tr (fr_lp_X11_keeps_2 (v1 := w1_f_X11_keeps) (v2 := w2_f_X11_keeps) (fun a k q => by unfold w1_lp_X11_keeps_2 at q; unfold w1_f_X11_keeps; exact q) (fun _ _ q => False.elim q) (fun S8 h1 => ?_) _ _ _ h)
  refine (Fr.rf (S := S8)).tr (fr_lp_X11_keeps_29 (v1 := w1_f_X11_keeps) (v2 := w2_f_X11_keeps) (fun _ _ q => False.elim q) (fun a k q => by unfold w2_lp_X11_keeps_29 at q; unfold w2_f_X11_keeps; exact q) (fun S17 h2 => ?_) _ _ _ h1)
  exact fr_e1 h2 (Fr.rf (S := S17))
def w1_lp_X11_putsBack_2 (a k : Nat) : Prop := a = 157
def w2_lp_X11_putsBack_2 (a k : Nat) : Prop := False
theorem fr_lp_X11_putsBack_2 {K : fS → Option (fS)} {r : fS} {v1 v2 : Nat → Nat → Prop} (s1 : ∀ a k, w1_lp_X11_putsBack_2 a k → v1 a k) (s2 : ∀ a k, w2_lp_X11_putsBack_2 a k → v2 a k) (hK : ∀ (x0 : fS), K x0 = some r → Fr v1 v2 x0 r) : ∀ (n : Nat) (p1 : Int32) (S0 : fS), lp_X11_putsBack_2 K n p1 S0 = some r → Fr v1 v2 S0 r := by
  intro n
  induction n with
  | zero => intro p1 S0 h; exact mm_no h
  | succ n ih =>
    intro p1 S0 h
    rw [lp_X11_putsBack_2.eq_2] at h
    rcases fr_ite h with h1 | h1
    ·
      exact (Fr.rf (S := S0)).tr (hK _ h1)
    ·
      obtain ⟨a2, e2, h3⟩ := Option.bind_eq_some_iff.mp h1
      obtain ⟨S5, e4, h5⟩ := Option.bind_eq_some_iff.mp h3
      have f6 : Fr v1 v2 S0 S5 := (Fr.rf (S := S0)).tr (fr_sI e4 (fun k => by refine s1 _ _ ?_; unfold w1_lp_X11_putsBack_2; exact rfl))
      exact f6.tr (ih _ _ h5)
def w1_lp_X11_putsBack_29 (a k : Nat) : Prop := False
def w2_lp_X11_putsBack_29 (a k : Nat) : Prop := a = 158
theorem fr_lp_X11_putsBack_29 {K : fS → Option (fS)} {r : fS} {v1 v2 : Nat → Nat → Prop} (s1 : ∀ a k, w1_lp_X11_putsBack_29 a k → v1 a k) (s2 : ∀ a k, w2_lp_X11_putsBack_29 a k → v2 a k) (hK : ∀ (x0 : fS), K x0 = some r → Fr v1 v2 x0 r) : ∀ (n : Nat) (p1 : Int32) (S0 : fS), lp_X11_putsBack_29 K n p1 S0 = some r → Fr v1 v2 S0 r := by
  intro n
  induction n with
  | zero => intro p1 S0 h; exact mm_no h
  | succ n ih =>
    intro p1 S0 h
    rw [lp_X11_putsBack_29.eq_2] at h
    rcases fr_ite h with h1 | h1
    ·
      exact (Fr.rf (S := S0)).tr (hK _ h1)
    ·
      obtain ⟨a11, e2, h3⟩ := Option.bind_eq_some_iff.mp h1
      obtain ⟨S14, e4, h5⟩ := Option.bind_eq_some_iff.mp h3
      have f6 : Fr v1 v2 S0 S14 := (Fr.rf (S := S0)).tr (fr_sL e4 (fun k => by refine s2 _ _ ?_; unfold w2_lp_X11_putsBack_29; exact rfl))
      exact f6.tr (ih _ _ h5)
def w1_f_X11_putsBack (a k : Nat) : Prop := a = 157
def w2_f_X11_putsBack (a k : Nat) : Prop := a = 158
theorem fr_f_X11_putsBack {S : fS} {r : fS} (h : f_X11_putsBack S = some r) : Fr (w1_f_X11_putsBack) (w2_f_X11_putsBack) S r := by
  unfold f_X11_putsBack at h
  refine (Fr.rf (S := S)).tr (fr_lp_X11_putsBack_2 (v1 := w1_f_X11_putsBack) (v2 := w2_f_X11_putsBack) (fun a k q => by unfold w1_lp_X11_putsBack_2 at q; unfold w1_f_X11_putsBack; exact q) (fun _ _ q => False.elim q) (fun S8 h1 => ?_) _ _ _ h)
  refine (Fr.rf (S := S8)).tr (fr_lp_X11_putsBack_29 (v1 := w1_f_X11_putsBack) (v2 := w2_f_X11_putsBack) (fun _ _ q => False.elim q) (fun a k q => by unfold w2_lp_X11_putsBack_29 at q; unfold w2_f_X11_putsBack; exact q) (fun S17 h2 => ?_) _ _ _ h1)
  exact fr_e1 h2 (Fr.rf (S := S17))
def w1_lp_X11_ahead_52 (a k : Nat) : Prop := (a = 145 ∧ k = 23) ∨ a = 157
def w2_lp_X11_ahead_52 (a k : Nat) : Prop := a = 155 ∨ a = 156 ∨ a = 158
theorem fr_lp_X11_ahead_52 {p1 : Int32} {p2 : Int32} {p3 : Int32} {p4 : Int32} {K : fS → Option (Int64 × fS)} {r : Int64 × fS} {v1 v2 : Nat → Nat → Prop} (s1 : ∀ a k, w1_lp_X11_ahead_52 a k → v1 a k) (s2 : ∀ a k, w2_lp_X11_ahead_52 a k → v2 a k) (hK : ∀ (x0 : fS), K x0 = some r → Fr v1 v2 x0 r.2) : ∀ (n : Nat) (p5 : Int32) (S0 : fS), lp_X11_ahead_52 p1 p2 p3 p4 K n p5 S0 = some r → Fr v1 v2 S0 r.2 := by
  intro n
  induction n with
  | zero => intro p5 S0 h; exact mm_no h
  | succ n ih =>
    intro p5 S0 h
    rw [lp_X11_ahead_52.eq_2] at h
    rcases fr_ite h with h1 | h1
    ·
      exact (Fr.rf (S := S0)).tr (hK _ h1)
    ·
      obtain ⟨q21, e2, h3⟩ := Option.bind_eq_some_iff.mp h1
      have f4 : Fr v1 v2 S0 q21 := (Fr.rf (S := S0)).tr (Fr.mo (fr_f_X11_hour e2) (fun a k q => by refine s1 _ _ ?_; unfold w1_f_X11_hour at q; unfold w1_lp_X11_ahead_52; rcases q with q | q; exact Or.inl (q); exact Or.inr ((q))) (fun a k q => by refine s2 _ _ ?_; unfold w2_f_X11_hour at q; unfold w2_lp_X11_ahead_52; rcases q with q | q | q; exact Or.inl (q); exact Or.inr (Or.inl (q)); exact Or.inr (Or.inr ((q)))))
      exact f4.tr (ih _ _ h3)
def w1_lp_X11_ahead_81 (a k : Nat) : Prop := False
def w2_lp_X11_ahead_81 (a k : Nat) : Prop := False
theorem fr_lp_X11_ahead_81 {K : Int64 → fS → Option (Int64 × fS)} {r : Int64 × fS} {v1 v2 : Nat → Nat → Prop} (s1 : ∀ a k, w1_lp_X11_ahead_81 a k → v1 a k) (s2 : ∀ a k, w2_lp_X11_ahead_81 a k → v2 a k) (hK : ∀ (x0 : Int64) (x1 : fS), K x0 x1 = some r → Fr v1 v2 x1 r.2) : ∀ (n : Nat) (p5 : Int64) (p7 : Int32) (S0 : fS), lp_X11_ahead_81 K n p5 p7 S0 = some r → Fr v1 v2 S0 r.2 := by
  intro n
  induction n with
  | zero => intro p5 p7 S0 h; exact mm_no h
  | succ n ih =>
    intro p5 p7 S0 h
    rw [lp_X11_ahead_81.eq_2] at h
    obtain ⟨a50, e1, h2⟩ := Option.bind_eq_some_iff.mp h
    rcases fr_ite h2 with h3 | h3
    ·
      exact (Fr.rf (S := S0)).tr (hK _ _ h3)
    ·
      obtain ⟨q54, e4, h5⟩ := Option.bind_eq_some_iff.mp h3
      rcases fr_ite h5 with h6 | h6
      ·
        exact (Fr.rf (S := S0)).tr (ih _ _ _ h6)
      ·
        obtain ⟨q58, e7, h8⟩ := Option.bind_eq_some_iff.mp h6
        obtain ⟨q61, e9, h10⟩ := Option.bind_eq_some_iff.mp h8
        rcases fr_ite h10 with h11 | h11
        ·
          exact (Fr.rf (S := S0)).tr (ih _ _ _ h11)
        ·
          exact (Fr.rf (S := S0)).tr (ih _ _ _ h11)
def w1_f_X11_ahead (a k : Nat) : Prop := (a = 145 ∧ k = 23) ∨ a = 157 ∨ a = 159
def w2_f_X11_ahead (a k : Nat) : Prop := a = 155 ∨ a = 156 ∨ a = 158 ∨ a = 160
theorem fr_f_X11_ahead {v1 : Int32} {v2 : Int32} {v3 : Int32} {v4 : Int32} {S : fS} {r : Int64 × fS} (h : f_X11_ahead v1 v2 v3 v4 S = some r) : Fr (w1_f_X11_ahead) (w2_f_X11_ahead) S r.2 := by
  unfold f_X11_ahead at h
  obtain ⟨q1, e1, h2⟩ := Option.bind_eq_some_iff.mp h
  rcases fr_ite h2 with h3 | h3
  ·
    exact fr_e2 h3 (Fr.rf (S := S))
  ·
    obtain ⟨q5, e4, h5⟩ := Option.bind_eq_some_iff.mp h3
    rcases fr_ite h5 with h6 | h6
    ·
      exact fr_e2 h6 (Fr.rf (S := S))
    ·
      obtain ⟨q9, e7, h8⟩ := Option.bind_eq_some_iff.mp h6
      rcases fr_ite h8 with h9 | h9
      ·
        exact fr_e2 h9 (Fr.rf (S := S))
      ·
        obtain ⟨q13, e10, h11⟩ := Option.bind_eq_some_iff.mp h9
        rcases fr_ite h11 with h12 | h12
        ·
          exact fr_e2 h12 (Fr.rf (S := S))
        ·
          obtain ⟨q17, e13, h14⟩ := Option.bind_eq_some_iff.mp h12
          have f15 : Fr (w1_f_X11_ahead) (w2_f_X11_ahead) S q17 := (Fr.rf (S := S)).tr (Fr.mo (fr_f_X11_keeps e13) (fun a k q => by unfold w1_f_X11_keeps at q; unfold w1_f_X11_ahead; exact Or.inr (Or.inr ((q)))) (fun a k q => by unfold w2_f_X11_keeps at q; unfold w2_f_X11_ahead; exact Or.inr (Or.inr (Or.inr ((q))))))
          refine f15.tr (fr_lp_X11_ahead_52 (v1 := w1_f_X11_ahead) (v2 := w2_f_X11_ahead) (fun a k q => by unfold w1_lp_X11_ahead_52 at q; unfold w1_f_X11_ahead; rcases q with q | q; exact Or.inl (q); exact Or.inr (Or.inl (q))) (fun a k q => by unfold w2_lp_X11_ahead_52 at q; unfold w2_f_X11_ahead; rcases q with q | q | q; exact Or.inl (q); exact Or.inr (Or.inl (q)); exact Or.inr (Or.inr (Or.inl (q)))) (fun S24 h16 => ?_) _ _ _ h14)
          rcases fr_ite h16 with h17 | h17
          ·
            refine (Fr.rf (S := S24)).tr (fr_lp_X11_ahead_81 (v1 := w1_f_X11_ahead) (v2 := w2_f_X11_ahead) (fun _ _ q => False.elim q) (fun _ _ q => False.elim q) (fun u65 S66 h18 => ?_) _ _ _ _ h17)
            obtain ⟨q68, e19, h20⟩ := Option.bind_eq_some_iff.mp h18
            have f21 : Fr (w1_f_X11_ahead) (w2_f_X11_ahead) S66 q68 := (Fr.rf (S := S66)).tr (Fr.mo (fr_f_X11_putsBack e19) (fun a k q => by unfold w1_f_X11_putsBack at q; unfold w1_f_X11_ahead; exact Or.inr (Or.inl (q))) (fun a k q => by unfold w2_f_X11_putsBack at q; unfold w2_f_X11_ahead; exact Or.inr (Or.inr (Or.inl (q)))))
            exact fr_e2 h20 f21
          ·
            rcases fr_ite h17 with h22 | h22
            ·
              obtain ⟨q37, e23, h24⟩ := Option.bind_eq_some_iff.mp h22
              rcases fr_ite h24 with h25 | h25
              ·
                obtain ⟨q41, e26, h27⟩ := Option.bind_eq_some_iff.mp h25
                obtain ⟨q44, e28, h29⟩ := Option.bind_eq_some_iff.mp h27
                have f30 : Fr (w1_f_X11_ahead) (w2_f_X11_ahead) S24 q44 := (Fr.rf (S := S24)).tr (Fr.mo (fr_f_X11_putsBack e28) (fun a k q => by unfold w1_f_X11_putsBack at q; unfold w1_f_X11_ahead; exact Or.inr (Or.inl (q))) (fun a k q => by unfold w2_f_X11_putsBack at q; unfold w2_f_X11_ahead; exact Or.inr (Or.inr (Or.inl (q)))))
                exact fr_e2 h29 f30
              ·
                obtain ⟨q47, e31, h32⟩ := Option.bind_eq_some_iff.mp h25
                have f33 : Fr (w1_f_X11_ahead) (w2_f_X11_ahead) S24 q47 := (Fr.rf (S := S24)).tr (Fr.mo (fr_f_X11_putsBack e31) (fun a k q => by unfold w1_f_X11_putsBack at q; unfold w1_f_X11_ahead; exact Or.inr (Or.inl (q))) (fun a k q => by unfold w2_f_X11_putsBack at q; unfold w2_f_X11_ahead; exact Or.inr (Or.inr (Or.inl (q)))))
                exact fr_e2 h32 f33
            ·
              obtain ⟨a28, e34, h35⟩ := Option.bind_eq_some_iff.mp h22
              obtain ⟨q31, e36, h37⟩ := Option.bind_eq_some_iff.mp h35
              obtain ⟨q34, e38, h39⟩ := Option.bind_eq_some_iff.mp h37
              have f40 : Fr (w1_f_X11_ahead) (w2_f_X11_ahead) S24 q34 := (Fr.rf (S := S24)).tr (Fr.mo (fr_f_X11_putsBack e38) (fun a k q => by unfold w1_f_X11_putsBack at q; unfold w1_f_X11_ahead; exact Or.inr (Or.inl (q))) (fun a k q => by unfold w2_f_X11_putsBack at q; unfold w2_f_X11_ahead; exact Or.inr (Or.inr (Or.inl (q)))))
              exact fr_e2 h39 f40
def w1_lp_X11_plan_57 (a k : Nat) : Prop := False
def w2_lp_X11_plan_57 (a k : Nat) : Prop := a = 162
theorem fr_lp_X11_plan_57 {p1 : Int32} {p2 : Int32} {p3 : Int32} {p4 : Int32} {p5 : Int32} {K : fS → Option (Int64 × fS)} {r : Int64 × fS} {v1 v2 : Nat → Nat → Prop} (s1 : ∀ a k, w1_lp_X11_plan_57 a k → v1 a k) (s2 : ∀ a k, w2_lp_X11_plan_57 a k → v2 a k) (hK : ∀ (x0 : fS), K x0 = some r → Fr v1 v2 x0 r.2) : ∀ (n : Nat) (p6 : Int32) (S0 : fS), lp_X11_plan_57 p1 p2 p3 p4 p5 K n p6 S0 = some r → Fr v1 v2 S0 r.2 := by
  intro n
  induction n with
  | zero => intro p6 S0 h; exact mm_no h
  | succ n ih =>
    intro p6 S0 h
    rw [lp_X11_plan_57.eq_2] at h
    rcases fr_ite h with h1 | h1
    ·
      exact (Fr.rf (S := S0)).tr (hK _ h1)
    ·
      rcases fr_ite h1 with h2 | h2
      ·
        obtain ⟨S26, e3, h4⟩ := Option.bind_eq_some_iff.mp h2
        have f5 : Fr v1 v2 S0 S26 := (Fr.rf (S := S0)).tr (fr_sL e3 (fun k => by refine s2 _ _ ?_; unfold w2_lp_X11_plan_57; exact rfl))
        exact f5.tr (ih _ _ h4)
      ·
        obtain ⟨S23, e6, h7⟩ := Option.bind_eq_some_iff.mp h2
        have f8 : Fr v1 v2 S0 S23 := (Fr.rf (S := S0)).tr (fr_sL e6 (fun k => by refine s2 _ _ ?_; unfold w2_lp_X11_plan_57; exact rfl))
        exact f8.tr (ih _ _ h7)
def w1_lp_X11_plan_108 (a k : Nat) : Prop := False
def w2_lp_X11_plan_108 (a k : Nat) : Prop := a = 162
theorem fr_lp_X11_plan_108 {p1 : Int32} {p3 : Int32} {p4 : Int32} {p5 : Int32} {p6 : Int32} {K : fS → Option (Int64 × fS)} {r : Int64 × fS} {v1 v2 : Nat → Nat → Prop} (s1 : ∀ a k, w1_lp_X11_plan_108 a k → v1 a k) (s2 : ∀ a k, w2_lp_X11_plan_108 a k → v2 a k) (hK : ∀ (x0 : fS), K x0 = some r → Fr v1 v2 x0 r.2) : ∀ (n : Nat) (p7 : Int32) (S0 : fS), lp_X11_plan_108 p1 p3 p4 p5 p6 K n p7 S0 = some r → Fr v1 v2 S0 r.2 := by
  intro n
  induction n with
  | zero => intro p7 S0 h; exact mm_no h
  | succ n ih =>
    intro p7 S0 h
    rw [lp_X11_plan_108.eq_2] at h
    obtain ⟨a32, e1, h2⟩ := Option.bind_eq_some_iff.mp h
    rcases fr_ite h2 with h3 | h3
    ·
      exact (Fr.rf (S := S0)).tr (hK _ h3)
    ·
      obtain ⟨q36, e4, h5⟩ := Option.bind_eq_some_iff.mp h3
      obtain ⟨S39, e6, h7⟩ := Option.bind_eq_some_iff.mp h5
      have f8 : Fr v1 v2 S0 S39 := (Fr.rf (S := S0)).tr (fr_sL e6 (fun k => by refine s2 _ _ ?_; unfold w2_lp_X11_plan_108; exact rfl))
      exact f8.tr (ih _ _ h7)
def w1_lp_X11_plan_100 (a k : Nat) : Prop := False
def w2_lp_X11_plan_100 (a k : Nat) : Prop := a = 162
theorem fr_lp_X11_plan_100 {p1 : Int32} {p3 : Int32} {p4 : Int32} {p5 : Int32} {K : fS → Option (Int64 × fS)} {r : Int64 × fS} {v1 v2 : Nat → Nat → Prop} (s1 : ∀ a k, w1_lp_X11_plan_100 a k → v1 a k) (s2 : ∀ a k, w2_lp_X11_plan_100 a k → v2 a k) (hK : ∀ (x0 : fS), K x0 = some r → Fr v1 v2 x0 r.2) : ∀ (n : Nat) (p6 : Int32) (S0 : fS), lp_X11_plan_100 p1 p3 p4 p5 K n p6 S0 = some r → Fr v1 v2 S0 r.2 := by
  intro n
  induction n with
  | zero => intro p6 S0 h; exact mm_no h
  | succ n ih =>
    intro p6 S0 h
    rw [lp_X11_plan_100.eq_2] at h
    rcases fr_ite h with h1 | h1
    ·
      exact (Fr.rf (S := S0)).tr (hK _ h1)
    ·
      refine (Fr.rf (S := S0)).tr (fr_lp_X11_plan_108 (v1 := v1) (v2 := v2) (fun _ _ q => False.elim q) (fun a k q => by refine s2 _ _ ?_; unfold w2_lp_X11_plan_108 at q; unfold w2_lp_X11_plan_100; exact q) (fun S42 h2 => ?_) _ _ _ h1)
      exact (Fr.rf (S := S42)).tr (ih _ _ h2)
