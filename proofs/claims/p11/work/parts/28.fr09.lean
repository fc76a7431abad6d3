def w1_lp_X11_image_23 (a k : Nat) : Prop := a = 168
def w2_lp_X11_image_23 (a k : Nat) : Prop := False
theorem fr_lp_X11_image_23 {p1 : Int32} {K : fS → Option (Int32 × fS)} {r : Int32 × fS} {v1 v2 : Nat → Nat → Prop} (s1 : ∀ a k, w1_lp_X11_image_23 a k → v1 a k) (s2 : ∀ a k, w2_lp_X11_image_23 a k → v2 a k) (hK : ∀ (x0 : fS), K x0 = some r → Fr v1 v2 x0 r.2) : ∀ (n : Nat) (p2 : Int32) (S0 : fS), lp_X11_image_23 p1 K n p2 S0 = some r → Fr v1 v2 S0 r.2 := by
  intro n
  induction n with
  | zero => intro p2 S0 h; exact mm_no h
  | succ n ih =>
    intro p2 S0 h
    rw [lp_X11_image_23.eq_2] at h
    rcases fr_ite h with h1 | h1
    ·
      exact (Fr.rf (S := S0)).tr (hK _ h1)
    ·
      obtain ⟨a9, e2, h3⟩ := Option.bind_eq_some_iff.mp h1
      obtain ⟨S12, e4, h5⟩ := Option.bind_eq_some_iff.mp h3
      have f6 : Fr v1 v2 S0 S12 := (Fr.rf (S := S0)).tr (fr_sI e4 (fun k => by refine s1 _ _ ?_; unfold w1_lp_X11_image_23; exact rfl))
      exact f6.tr (ih _ _ h5)
def w1_lp_X11_image_56 (a k : Nat) : Prop := False
def w2_lp_X11_image_56 (a k : Nat) : Prop := a = 169
theorem fr_lp_X11_image_56 {p1 : Int32} {K : fS → Option (Int32 × fS)} {r : Int32 × fS} {v1 v2 : Nat → Nat → Prop} (s1 : ∀ a k, w1_lp_X11_image_56 a k → v1 a k) (s2 : ∀ a k, w2_lp_X11_image_56 a k → v2 a k) (hK : ∀ (x0 : fS), K x0 = some r → Fr v1 v2 x0 r.2) : ∀ (n : Nat) (p2 : Int32) (S0 : fS), lp_X11_image_56 p1 K n p2 S0 = some r → Fr v1 v2 S0 r.2 := by
  intro n
  induction n with
  | zero => intro p2 S0 h; exact mm_no h
  | succ n ih =>
    intro p2 S0 h
    rw [lp_X11_image_56.eq_2] at h
    rcases fr_ite h with h1 | h1
    ·
      exact (Fr.rf (S := S0)).tr (hK _ h1)
    ·
      obtain ⟨a18, e2, h3⟩ := Option.bind_eq_some_iff.mp h1
      obtain ⟨S21, e4, h5⟩ := Option.bind_eq_some_iff.mp h3
      have f6 : Fr v1 v2 S0 S21 := (Fr.rf (S := S0)).tr (fr_sL e4 (fun k => by refine s2 _ _ ?_; unfold w2_lp_X11_image_56; exact rfl))
      exact f6.tr (ih _ _ h5)
def w1_f_X11_image (a k : Nat) : Prop := a = 168 ∨ a = 170
def w2_f_X11_image (a k : Nat) : Prop := a = 169
theorem fr_f_X11_image {v1 : Int32} {S : fS} {r : Int32 × fS} (h : f_X11_image v1 S = some r) : Fr (w1_f_X11_image) (w2_f_X11_image) S r.2 := by
  unfold f_X11_image at h
  obtain ⟨q1, e1, h2⟩ := Option.bind_eq_some_iff.mp h
  rcases fr_ite h2 with h3 | h3
  ·
    exact fr_e2 h3 (Fr.rf (S := S))
  ·
    obtain ⟨S5, e4, h5⟩ := Option.bind_eq_some_iff.mp h3
    have f6 : Fr (w1_f_X11_image) (w2_f_X11_image) S S5 := (Fr.rf (S := S)).tr (fr_sI e4 (fun k => by unfold w1_f_X11_image; exact Or.inr ((rfl))))
    refine f6.tr (fr_lp_X11_image_23 (v1 := w1_f_X11_image) (v2 := w2_f_X11_image) (fun a k q => by unfold w1_lp_X11_image_23 at q; unfold w1_f_X11_image; exact Or.inl (q)) (fun _ _ q => False.elim q) (fun S15 h7 => ?_) _ _ _ h5)
    refine (Fr.rf (S := S15)).tr (fr_lp_X11_image_56 (v1 := w1_f_X11_image) (v2 := w2_f_X11_image) (fun _ _ q => False.elim q) (fun a k q => by unfold w2_lp_X11_image_56 at q; unfold w2_f_X11_image; exact q) (fun S24 h8 => ?_) _ _ _ h7)
    obtain ⟨a26, e9, h10⟩ := Option.bind_eq_some_iff.mp h8
    exact fr_e2 h10 (Fr.rf (S := S24))
def w1_lp_X11_back_25 (a k : Nat) : Prop := a = 157
def w2_lp_X11_back_25 (a k : Nat) : Prop := False
theorem fr_lp_X11_back_25 {p1 : Int32} {K : fS → Option (Int32 × fS)} {r : Int32 × fS} {v1 v2 : Nat → Nat → Prop} (s1 : ∀ a k, w1_lp_X11_back_25 a k → v1 a k) (s2 : ∀ a k, w2_lp_X11_back_25 a k → v2 a k) (hK : ∀ (x0 : fS), K x0 = some r → Fr v1 v2 x0 r.2) : ∀ (n : Nat) (p2 : Int32) (S0 : fS), lp_X11_back_25 p1 K n p2 S0 = some r → Fr v1 v2 S0 r.2 := by
  intro n
  induction n with
  | zero => intro p2 S0 h; exact mm_no h
  | succ n ih =>
    intro p2 S0 h
    rw [lp_X11_back_25.eq_2] at h
    rcases fr_ite h with h1 | h1
    ·
      exact (Fr.rf (S := S0)).tr (hK _ h1)
    ·
      obtain ⟨a10, e2, h3⟩ := Option.bind_eq_some_iff.mp h1
      obtain ⟨S13, e4, h5⟩ := Option.bind_eq_some_iff.mp h3
      have f6 : Fr v1 v2 S0 S13 := (Fr.rf (S := S0)).tr (fr_sI e4 (fun k => by refine s1 _ _ ?_; unfold w1_lp_X11_back_25; exact rfl))
      exact f6.tr (ih _ _ h5)
def w1_lp_X11_back_58 (a k : Nat) : Prop := False
def w2_lp_X11_back_58 (a k : Nat) : Prop := a = 158
theorem fr_lp_X11_back_58 {p1 : Int32} {K : fS → Option (Int32 × fS)} {r : Int32 × fS} {v1 v2 : Nat → Nat → Prop} (s1 : ∀ a k, w1_lp_X11_back_58 a k → v1 a k) (s2 : ∀ a k, w2_lp_X11_back_58 a k → v2 a k) (hK : ∀ (x0 : fS), K x0 = some r → Fr v1 v2 x0 r.2) : ∀ (n : Nat) (p2 : Int32) (S0 : fS), lp_X11_back_58 p1 K n p2 S0 = some r → Fr v1 v2 S0 r.2 := by
  intro n
  induction n with
  | zero => intro p2 S0 h; exact mm_no h
  | succ n ih =>
    intro p2 S0 h
    rw [lp_X11_back_58.eq_2] at h
    rcases fr_ite h with h1 | h1
    ·
      exact (Fr.rf (S := S0)).tr (hK _ h1)
    ·
      obtain ⟨a19, e2, h3⟩ := Option.bind_eq_some_iff.mp h1
      obtain ⟨S22, e4, h5⟩ := Option.bind_eq_some_iff.mp h3
      have f6 : Fr v1 v2 S0 S22 := (Fr.rf (S := S0)).tr (fr_sL e4 (fun k => by refine s2 _ _ ?_; unfold w2_lp_X11_back_58; exact rfl))
      exact f6.tr (ih _ _ h5)
def w1_f_X11_back (a k : Nat) : Prop := a = 157
def w2_f_X11_back (a k : Nat) : Prop := a = 158 ∨ a = 161
theorem fr_f_X11_back {v1 : Int32} {S : fS} {r : Int32 × fS} (h : f_X11_back v1 S = some r) : Fr (w1_f_X11_back) (w2_f_X11_back) S r.2 := by
  unfold f_X11_back at h
  obtain ⟨q1, e1, h2⟩ := Option.bind_eq_some_iff.mp h
  rcases fr_ite h2 with h3 | h3
  ·
    exact fr_e2 h3 (Fr.rf (S := S))
  ·
    obtain ⟨a5, e4, h5⟩ := Option.bind_eq_some_iff.mp h3
    rcases fr_ite h5 with h6 | h6
    ·
      exact fr_e2 h6 (Fr.rf (S := S))
    ·
      refine (Fr.rf (S := S)).tr (fr_lp_X11_back_25 (v1 := w1_f_X11_back) (v2 := w2_f_X11_back) (fun a k q => by unfold w1_lp_X11_back_25 at q; unfold w1_f_X11_back; exact q) (fun _ _ q => False.elim q) (fun S16 h7 => ?_) _ _ _ h6)
      refine (Fr.rf (S := S16)).tr (fr_lp_X11_back_58 (v1 := w1_f_X11_back) (v2 := w2_f_X11_back) (fun _ _ q => False.elim q) (fun a k q => by unfold w2_lp_X11_back_58 at q; unfold w2_f_X11_back; exact Or.inl (q)) (fun S25 h8 => ?_) _ _ _ h7)
      obtain ⟨q27, e9, h10⟩ := Option.bind_eq_some_iff.mp h8
      have f11 : Fr (w1_f_X11_back) (w2_f_X11_back) S25 q27 := (Fr.rf (S := S25)).tr (Fr.mo (fr_f_X11_spreads e9) (fun _ _ q => False.elim q) (fun a k q => by unfold w2_f_X11_spreads at q; unfold w2_f_X11_back; exact Or.inr ((q))))
      obtain ⟨a30, e12, h13⟩ := Option.bind_eq_some_iff.mp h10
      exact fr_e2 h13 f11
