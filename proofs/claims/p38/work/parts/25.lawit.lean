def H_0 (P Q : fS → Prop) : Prop := ∀ (a1 a2 a3 a4 a5 : Int32) (S : fS), P S → ∃ r r' S1 S2, f_X10_feed a1 a2 a3 a4 a5 S = some (r, S1) ∧ f_X11_feed a1 a2 a3 a4 a5 S1 = some (r', S2) ∧ Q S2
def H_1 (P Q : fS → Prop) : Prop := ∀ (a1 : Int32) (S : fS), P S → ∃ r r' S1 S2, f_X10_end a1 S = some (r, S1) ∧ f_X11_end a1 S1 = some (r', S2) ∧ Q S2
def H_2 (P Q : fS → Prop) : Prop := ∀ (S : fS), P S → ∃ r r' S1 S2, f_X10_tower  S = some (r, S1) ∧ f_X11_tower  S1 = some (r', S2) ∧ Q S2
def H_3 (P Q : fS → Prop) : Prop := ∀ (S : fS), P S → ∃ r r' S1 S2, f_X10_rule  S = some (r, S1) ∧ f_X11_rule  S1 = some (r', S2) ∧ Q S2
def H_4 (P Q : fS → Prop) : Prop := ∀ (a1 a2 : Int32) (S : fS), P S → ∃ r r', f_X10_floor a1 a2 S = some r ∧ f_X11_floor a1 a2 S = some r' ∧ Q S
def H_5 (P Q : fS → Prop) : Prop := ∀ (a1 a2 : Int32) (S : fS), P S → ∃ r r', f_X10_stair a1 a2 S = some r ∧ f_X11_stair a1 a2 S = some r' ∧ Q S
def H_6 (P Q : fS → Prop) : Prop := ∀ (a1 a2 : Int32) (S : fS), P S → ∃ r r', f_X10_thing a1 a2 S = some r ∧ f_X11_thing a1 a2 S = some r' ∧ Q S
def H_7 (P Q : fS → Prop) : Prop := ∀ (a1 a2 : Int32) (S : fS), P S → ∃ r r', f_X10_age a1 a2 S = some r ∧ f_X11_age a1 a2 S = some r' ∧ Q S
def H_8 (P Q : fS → Prop) : Prop := ∀ (a1 a2 : Int32) (S : fS), P S → ∃ r r', f_X10_older a1 a2 S = some r ∧ f_X11_older a1 a2 S = some r' ∧ Q S
def H_9 (P Q : fS → Prop) : Prop := ∀ (a1 a2 : Int32) (S : fS), P S → ∃ r r' S1 S2, f_X10_go a1 a2 S = some (r, S1) ∧ f_X11_go a1 a2 S1 = some (r', S2) ∧ Q S2
def H_10 (P Q : fS → Prop) : Prop := ∀ (a1 a2 : Int32) (S : fS), P S → ∃ r r' S1 S2, f_X10_tick a1 a2 S = some (r, S1) ∧ f_X11_tick a1 a2 S1 = some (r', S2) ∧ Q S2
def H_11 (P Q : fS → Prop) : Prop := ∀ (a1 a2 a3 a4 : Int32) (S : fS), P S → ∃ r r' S1 S2, f_X10_ahead a1 a2 a3 a4 S = some (r, S1) ∧ f_X11_ahead a1 a2 a3 a4 S1 = some (r', S2) ∧ Q S2
def H_12 (P Q : fS → Prop) : Prop := ∀ (a1 a2 : Int32) (S : fS), P S → ∃ r r', f_X10_far a1 a2 S = some r ∧ f_X11_far a1 a2 S = some r' ∧ Q S
def H_13 (P Q : fS → Prop) : Prop := ∀ (a1 a2 : Int32) (S : fS), P S → ∃ r r', f_X10_next a1 a2 S = some r ∧ f_X11_next a1 a2 S = some r' ∧ Q S
def H_14 (P Q : fS → Prop) : Prop := ∀ (a1 a2 a3 : Int32) (S : fS), P S → ∃ r r', f_X10_clock a1 a2 a3 S = some r ∧ f_X11_clock a1 a2 a3 S = some r' ∧ Q S
def H_15 (P Q : fS → Prop) : Prop := ∀ (a1 a2 a3 : Int32) (S : fS), P S → ∃ r r', f_X10_noons a1 a2 a3 S = some r ∧ f_X11_noons a1 a2 a3 S = some r' ∧ Q S
def H_16 (P Q : fS → Prop) : Prop := ∀ (a1 a2 a3 a4 a5 : Int32) (S : fS), P S → (a4 = 0 ∨ a4 = 1) → ∃ r r' S1 S2, f_X10_plan a1 a2 a3 a4 a5 S = some (r, S1) ∧ f_X11_plan a1 a2 a3 a4 a5 S1 = some (r', S2) ∧ Q S2
def H_17 (P Q : fS → Prop) : Prop := ∀ (a1 a2 a3 a4 a5 : Int32) (S : fS), P S → ∃ r r', f_X10_even a1 a2 a3 a4 a5 S = some r ∧ f_X11_even a1 a2 a3 a4 a5 S = some r' ∧ Q S
def H_18 (P Q : fS → Prop) : Prop := ∀ (a1 a2 a3 a4 a5 : Int32) (S : fS), P S → ∃ r r' S1 S2, f_X10_ripe a1 a2 a3 a4 a5 S = some (r, S1) ∧ f_X11_ripe a1 a2 a3 a4 a5 S1 = some (r', S2) ∧ Q S2
def H_19 (P Q : fS → Prop) : Prop := ∀ (a1 a2 a3 a4 a5 : Int32) (S : fS), P S → ∃ r r', f_X10_owed a1 a2 a3 a4 a5 S = some r ∧ f_X11_owed a1 a2 a3 a4 a5 S = some r' ∧ Q S
def H_20 (P Q : fS → Prop) : Prop := ∀ (a1 a2 a3 a4 : Int32) (S : fS), P S → ∃ r r', f_X10_hands a1 a2 a3 a4 S = some r ∧ f_X11_hands a1 a2 a3 a4 S = some r' ∧ Q S
def H_21 (P Q : fS → Prop) : Prop := ∀ (a1 a2 a3 : Int32) (S : fS), P S → (a3 = 0 ∨ a3 = 1) → ∃ r r' S1 S2, f_X10_waiting a1 a2 a3 S = some (r, S1) ∧ f_X11_waiting a1 a2 a3 S1 = some (r', S2) ∧ Q S2
def H_22 (P Q : fS → Prop) : Prop := ∀ (a1 a2 a3 a4 : Int32) (S : fS), P S → ∃ r r', f_X10_when a1 a2 a3 a4 S = some r ∧ f_X11_when a1 a2 a3 a4 S = some r' ∧ Q S
def H_23 (P Q : fS → Prop) : Prop := ∀ (a1 a2 a3 : Int32) (S : fS), P S → ∃ r r', f_X10_shown a1 a2 a3 S = some r ∧ f_X11_shown a1 a2 a3 S = some r' ∧ Q S
def H_24 (P Q : fS → Prop) : Prop := ∀ (a1 a2 a3 : Int32) (S : fS), P S → ∃ r r', f_X10_noonsIn a1 a2 a3 S = some r ∧ f_X11_noonsIn a1 a2 a3 S = some r' ∧ Q S
def H_25 (P Q : fS → Prop) : Prop := ∀ (a1 a2 : Int32) (S : fS), P S → ∃ r r', f_X10_due a1 a2 S = some r ∧ f_X11_due a1 a2 S = some r' ∧ Q S
def H_26 (P Q : fS → Prop) : Prop := ∀ (S : fS), P S → ∃ r r' S2, f_X10_needed  S = some r ∧ f_X11_needed  S = some (r', S2) ∧ Q S2
def H_27 (P Q : fS → Prop) : Prop := ∀ (a1 a2 a3 : Int32) (S : fS), P S → ∃ r r' S1 S2, f_X10_elder a1 a2 a3 S = some (r, S1) ∧ f_X11_elder a1 a2 a3 S1 = some (r', S2) ∧ Q S2
def H_28 (P Q : fS → Prop) : Prop := ∀ (a1 a2 a3 : Int32) (S : fS), P S → ∃ r r' S1 S2, f_X10_letter a1 a2 a3 S = some (r, S1) ∧ f_X11_letter a1 a2 a3 S1 = some (r', S2) ∧ Q S2
def H_29 (P Q : fS → Prop) : Prop := ∀ (a1 a2 : Int32) (S : fS), P S → ∃ r r', f_X10_letters a1 a2 S = some r ∧ f_X11_letters a1 a2 S = some r' ∧ Q S
def H_30 (P Q : fS → Prop) : Prop := ∀ (S : fS), P S → ∃ r r', f_X10_crossed  S = some r ∧ f_X11_crossed  S = some r' ∧ Q S
def H_31 (P Q : fS → Prop) : Prop := ∀ (a1 : Int32) (S : fS), P S → ∃ r r', f_X10_order a1 S = some r ∧ f_X11_order a1 S = some r' ∧ Q S
def H_32 (P Q : fS → Prop) : Prop := ∀ (a1 : Int32) (S : fS), P S → ∃ r r' S1 S2, f_X10_seed a1 S = some (r, S1) ∧ f_X11_seed a1 S1 = some (r', S2) ∧ Q S2
def H_33 (P Q : fS → Prop) : Prop := ∀ (a1 a2 a3 a4 a5 : Int32) (S : fS), P S → ∃ r r' S1 S2, f_X10_meetings a1 a2 a3 a4 a5 S = some (r, S1) ∧ f_X11_meetings a1 a2 a3 a4 a5 S1 = some (r', S2) ∧ Q S2
def H_34 (P Q : fS → Prop) : Prop := ∀ (a1 : Int32) (S : fS), P S → ∃ r r', f_X10_count a1 S = some r ∧ f_X11_count a1 S = some r' ∧ Q S
def H_35 (P Q : fS → Prop) : Prop := ∀ (a1 : Int32) (S : fS), P S → ∃ r r' S1 S2, f_X10_image a1 S = some (r, S1) ∧ f_X11_image a1 S1 = some (r', S2) ∧ Q S2
def H_36 (P Q : fS → Prop) : Prop := ∀ (a1 : Int32) (S : fS), P S → ∃ r S1 S2, f_X10_back a1 S = some (r, S1) ∧ f_X11_back a1 S1 = some (r, S2) ∧ Q S2
def HH (P Q : fS → Prop) : Prop := H_0 P Q ∧ H_1 P Q ∧ H_2 P Q ∧ H_3 P Q ∧ H_4 P Q ∧ H_5 P Q ∧ H_6 P Q ∧ H_7 P Q ∧ H_8 P Q ∧ H_9 P Q ∧ H_10 P Q ∧ H_11 P Q ∧ H_12 P Q ∧ H_13 P Q ∧ H_14 P Q ∧ H_15 P Q ∧ H_16 P Q ∧ H_17 P Q ∧ H_18 P Q ∧ H_19 P Q ∧ H_20 P Q ∧ H_21 P Q ∧ H_22 P Q ∧ H_23 P Q ∧ H_24 P Q ∧ H_25 P Q ∧ H_26 P Q ∧ H_27 P Q ∧ H_28 P Q ∧ H_29 P Q ∧ H_30 P Q ∧ H_31 P Q ∧ H_32 P Q ∧ H_33 P Q ∧ H_34 P Q ∧ H_35 P Q ∧ H_36 P Q
theorem gX_ex {X : mm_C} {i : Int32} (h0 : 0 ≤ i.toInt) (h1 : i.toInt < X.1) : ∃ y, gX X i = some y := by
  refine ⟨X.2 i.toNatClampNeg, ?_⟩
  unfold gX
  rw [if_neg]
  intro h
  rcases h with h | h
  · have := ni_lt.mp h
    rw [ni_0] at this
    omega
  · have := ni_nat h0
    omega
set_option maxHeartbeats 4000000 in
set_option maxRecDepth 100000 in
theorem law_it {X : mm_C} {P Q : fS → Prop} (H : HH P Q) (hPQ : ∀ S, P S → Q S) {K : fS → Option (Int32 × fS)} {n : Nat} {p3 : Int32} {S0 : fS} (hp : P S0) (hb : 0 ≤ p3.toInt) (he : p3.toInt + 6 ≤ X.1) (hX : X.1 < 100000) :
    ∃ S', Q S' ∧ lp_L_law_18 X K (n + 1) p3 S0 = lp_L_law_18 X K n (p3 + 6) S' := by
  obtain ⟨h0, h1, h2, h3, h4, h5, h6, h7, h8, h9, h10, h11, h12, h13, h14, h15, h16, h17, h18, h19, h20, h21, h22, h23, h24, h25, h26, h27, h28, h29, h30, h31, h32, h33, h34, h35, h36⟩ := H
  have hlen : (Int32.ofNat X.1).toInt = X.1 := Int32.toInt_ofNat_of_lt (by omega)
  have hs6 : (6 : Int32).toInt = 6 := rfl
  obtain ⟨y0, e0⟩ := gX_ex (X := X) (i := p3) hb (by omega)
  obtain ⟨y1, e1⟩ := gX_ex (X := X) (i := p3 + (1 : Int32)) (by rw [ni_add (by rw [show (1 : Int32).toInt = 1 from rfl]; omega) (by rw [show (1 : Int32).toInt = 1 from rfl]; omega), show (1 : Int32).toInt = 1 from rfl]; omega) (by rw [ni_add (by rw [show (1 : Int32).toInt = 1 from rfl]; omega) (by rw [show (1 : Int32).toInt = 1 from rfl]; omega), show (1 : Int32).toInt = 1 from rfl]; omega)
  obtain ⟨y2, e2⟩ := gX_ex (X := X) (i := p3 + (2 : Int32)) (by rw [ni_add (by rw [show (2 : Int32).toInt = 2 from rfl]; omega) (by rw [show (2 : Int32).toInt = 2 from rfl]; omega), show (2 : Int32).toInt = 2 from rfl]; omega) (by rw [ni_add (by rw [show (2 : Int32).toInt = 2 from rfl]; omega) (by rw [show (2 : Int32).toInt = 2 from rfl]; omega), show (2 : Int32).toInt = 2 from rfl]; omega)
  obtain ⟨y3, e3⟩ := gX_ex (X := X) (i := p3 + (3 : Int32)) (by rw [ni_add (by rw [show (3 : Int32).toInt = 3 from rfl]; omega) (by rw [show (3 : Int32).toInt = 3 from rfl]; omega), show (3 : Int32).toInt = 3 from rfl]; omega) (by rw [ni_add (by rw [show (3 : Int32).toInt = 3 from rfl]; omega) (by rw [show (3 : Int32).toInt = 3 from rfl]; omega), show (3 : Int32).toInt = 3 from rfl]; omega)
  obtain ⟨y4, e4⟩ := gX_ex (X := X) (i := p3 + (4 : Int32)) (by rw [ni_add (by rw [show (4 : Int32).toInt = 4 from rfl]; omega) (by rw [show (4 : Int32).toInt = 4 from rfl]; omega), show (4 : Int32).toInt = 4 from rfl]; omega) (by rw [ni_add (by rw [show (4 : Int32).toInt = 4 from rfl]; omega) (by rw [show (4 : Int32).toInt = 4 from rfl]; omega), show (4 : Int32).toInt = 4 from rfl]; omega)
  obtain ⟨y5, e5⟩ := gX_ex (X := X) (i := p3 + (5 : Int32)) (by rw [ni_add (by rw [show (5 : Int32).toInt = 5 from rfl]; omega) (by rw [show (5 : Int32).toInt = 5 from rfl]; omega), show (5 : Int32).toInt = 5 from rfl]; omega) (by rw [ni_add (by rw [show (5 : Int32).toInt = 5 from rfl]; omega) (by rw [show (5 : Int32).toInt = 5 from rfl]; omega), show (5 : Int32).toInt = 5 from rfl]; omega)
  rw [lp_L_law_18.eq_2]
  rw [if_neg (fun h => by
    have h := ni_lt.mp h
    rw [ni_sub (by rw [hlen, hs6]; omega) (by rw [hlen, hs6]; omega), hlen, hs6] at h
    omega)]
  rw [e0]
  rw [Option.bind_some]
  by_cases c0 : (y0 &&& (63 : Int32)) = (0 : Int32)
  · rw [if_pos c0]
    simp only [e1, e2, e3, e4, e5, Option.bind_some]
    obtain ⟨r, r', S1, S2, u1, u2, hq⟩ := h0 y1 y2 y3 y4 y5 S0 hp
    rw [u1]
    simp only [Option.bind_some]
    rw [u2]
    simp only [Option.bind_some]
    exact ⟨S2, hq, rfl⟩
  rw [if_neg c0]
  by_cases c1 : (y0 &&& (63 : Int32)) = (1 : Int32)
  · rw [if_pos c1]
    simp only [e1, e2, e3, e4, e5, Option.bind_some]
    obtain ⟨r, r', S1, S2, u1, u2, hq⟩ := h1 y1 S0 hp
    rw [u1]
    simp only [Option.bind_some]
    rw [u2]
    simp only [Option.bind_some]
    exact ⟨S2, hq, rfl⟩
  rw [if_neg c1]
  by_cases c2 : (y0 &&& (63 : Int32)) = (2 : Int32)
  · rw [if_pos c2]
    obtain ⟨r, r', S1, S2, u1, u2, hq⟩ := h2  S0 hp
    rw [u1]
    simp only [Option.bind_some]
    rw [u2]
    simp only [Option.bind_some]
    exact ⟨S2, hq, rfl⟩
  rw [if_neg c2]
  by_cases c3 : (y0 &&& (63 : Int32)) = (3 : Int32)
  · rw [if_pos c3]
    obtain ⟨r, r', S1, S2, u1, u2, hq⟩ := h3  S0 hp
    rw [u1]
    simp only [Option.bind_some]
    rw [u2]
    simp only [Option.bind_some]
    exact ⟨S2, hq, rfl⟩
  rw [if_neg c3]
  by_cases c4 : (y0 &&& (63 : Int32)) = (4 : Int32)
  · rw [if_pos c4]
    simp only [e1, e2, e3, e4, e5, Option.bind_some]
    obtain ⟨r, r', u1, u2, hq⟩ := h4 y1 y2 S0 hp
    rw [u1]
    simp only [Option.bind_some]
    rw [u2]
    simp only [Option.bind_some]
    exact ⟨S0, hq, rfl⟩
  rw [if_neg c4]
  by_cases c5 : (y0 &&& (63 : Int32)) = (5 : Int32)
  · rw [if_pos c5]
    simp only [e1, e2, e3, e4, e5, Option.bind_some]
    obtain ⟨r, r', u1, u2, hq⟩ := h5 y1 y2 S0 hp
    rw [u1]
    simp only [Option.bind_some]
    rw [u2]
    simp only [Option.bind_some]
    exact ⟨S0, hq, rfl⟩
  rw [if_neg c5]
  by_cases c6 : (y0 &&& (63 : Int32)) = (6 : Int32)
  · rw [if_pos c6]
    simp only [e1, e2, e3, e4, e5, Option.bind_some]
    obtain ⟨r, r', u1, u2, hq⟩ := h6 y1 y2 S0 hp
    rw [u1]
    simp only [Option.bind_some]
    rw [u2]
    simp only [Option.bind_some]
    exact ⟨S0, hq, rfl⟩
  rw [if_neg c6]
  by_cases c7 : (y0 &&& (63 : Int32)) = (7 : Int32)
  · rw [if_pos c7]
    simp only [e1, e2, e3, e4, e5, Option.bind_some]
    obtain ⟨r, r', u1, u2, hq⟩ := h7 y1 y2 S0 hp
    rw [u1]
    simp only [Option.bind_some]
    rw [u2]
    simp only [Option.bind_some]
    exact ⟨S0, hq, rfl⟩
  rw [if_neg c7]
  by_cases c8 : (y0 &&& (63 : Int32)) = (8 : Int32)
  · rw [if_pos c8]
    simp only [e1, e2, e3, e4, e5, Option.bind_some]
    obtain ⟨r, r', u1, u2, hq⟩ := h8 y1 y2 S0 hp
    rw [u1]
    simp only [Option.bind_some]
    rw [u2]
    simp only [Option.bind_some]
    exact ⟨S0, hq, rfl⟩
  rw [if_neg c8]
  by_cases c9 : (y0 &&& (63 : Int32)) = (9 : Int32)
  · rw [if_pos c9]
    simp only [e1, e2, e3, e4, e5, Option.bind_some]
    obtain ⟨r, r', S1, S2, u1, u2, hq⟩ := h9 y1 y2 S0 hp
    rw [u1]
    simp only [Option.bind_some]
    rw [u2]
    simp only [Option.bind_some]
    exact ⟨S2, hq, rfl⟩
  rw [if_neg c9]
  by_cases c10 : (y0 &&& (63 : Int32)) = (10 : Int32)
  · rw [if_pos c10]
    simp only [e1, e2, e3, e4, e5, Option.bind_some]
    obtain ⟨r, r', S1, S2, u1, u2, hq⟩ := h10 y1 y2 S0 hp
    rw [u1]
    simp only [Option.bind_some]
    rw [u2]
    simp only [Option.bind_some]
    exact ⟨S2, hq, rfl⟩
  rw [if_neg c10]
  by_cases c11 : (y0 &&& (63 : Int32)) = (11 : Int32)
  · rw [if_pos c11]
    simp only [e1, e2, e3, e4, e5, Option.bind_some]
    obtain ⟨r, r', S1, S2, u1, u2, hq⟩ := h11 y1 y2 y3 y4 S0 hp
    rw [u1]
    simp only [Option.bind_some]
    rw [u2]
    simp only [Option.bind_some]
    exact ⟨S2, hq, rfl⟩
  rw [if_neg c11]
  by_cases c12 : (y0 &&& (63 : Int32)) = (12 : Int32)
  · rw [if_pos c12]
    simp only [e1, e2, e3, e4, e5, Option.bind_some]
    obtain ⟨r, r', u1, u2, hq⟩ := h12 y1 y2 S0 hp
    rw [u1]
    simp only [Option.bind_some]
    rw [u2]
    simp only [Option.bind_some]
    exact ⟨S0, hq, rfl⟩
  rw [if_neg c12]
  by_cases c13 : (y0 &&& (63 : Int32)) = (13 : Int32)
  · rw [if_pos c13]
    simp only [e1, e2, e3, e4, e5, Option.bind_some]
    obtain ⟨r, r', u1, u2, hq⟩ := h13 y1 y2 S0 hp
    rw [u1]
    simp only [Option.bind_some]
    rw [u2]
    simp only [Option.bind_some]
    exact ⟨S0, hq, rfl⟩
  rw [if_neg c13]
  by_cases c14 : (y0 &&& (63 : Int32)) = (14 : Int32)
  · rw [if_pos c14]
    simp only [e1, e2, e3, e4, e5, Option.bind_some]
    obtain ⟨r, r', u1, u2, hq⟩ := h14 y1 y2 y3 S0 hp
    rw [u1]
    simp only [Option.bind_some]
    rw [u2]
    simp only [Option.bind_some]
    exact ⟨S0, hq, rfl⟩
  rw [if_neg c14]
  by_cases c15 : (y0 &&& (63 : Int32)) = (15 : Int32)
  · rw [if_pos c15]
    simp only [e1, e2, e3, e4, e5, Option.bind_some]
    obtain ⟨r, r', u1, u2, hq⟩ := h15 y1 y2 y3 S0 hp
    rw [u1]
    simp only [Option.bind_some]
    rw [u2]
    simp only [Option.bind_some]
    exact ⟨S0, hq, rfl⟩
  rw [if_neg c15]
  by_cases c16 : (y0 &&& (63 : Int32)) = (16 : Int32)
  · rw [if_pos c16]
    simp only [e1, e2, e3, e4, e5, Option.bind_some]
    by_cases cb : y4 = 0
    · simp only [if_pos cb]
      obtain ⟨r, r', S1, S2, u1, u2, hq⟩ := h16 y1 y2 y3 0 y5 S0 hp (Or.inl rfl)
      rw [u1]
      simp only [Option.bind_some]
      rw [u2]
      simp only [Option.bind_some]
      exact ⟨S2, hq, rfl⟩
    · simp only [if_neg cb]
      obtain ⟨r, r', S1, S2, u1, u2, hq⟩ := h16 y1 y2 y3 1 y5 S0 hp (Or.inr rfl)
      rw [u1]
      simp only [Option.bind_some]
      rw [u2]
      simp only [Option.bind_some]
      exact ⟨S2, hq, rfl⟩
  rw [if_neg c16]
  by_cases c17 : (y0 &&& (63 : Int32)) = (17 : Int32)
  · rw [if_pos c17]
    simp only [e1, e2, e3, e4, e5, Option.bind_some]
    obtain ⟨r, r', u1, u2, hq⟩ := h17 y1 y2 y3 y4 y5 S0 hp
    rw [u1]
    simp only [Option.bind_some]
    rw [u2]
    simp only [Option.bind_some]
    exact ⟨S0, hq, rfl⟩
  rw [if_neg c17]
  by_cases c18 : (y0 &&& (63 : Int32)) = (18 : Int32)
  · rw [if_pos c18]
    simp only [e1, e2, e3, e4, e5, Option.bind_some]
    obtain ⟨r, r', S1, S2, u1, u2, hq⟩ := h18 y1 y2 y3 y4 y5 S0 hp
    rw [u1]
    simp only [Option.bind_some]
    rw [u2]
    simp only [Option.bind_some]
    exact ⟨S2, hq, rfl⟩
  rw [if_neg c18]
  by_cases c19 : (y0 &&& (63 : Int32)) = (19 : Int32)
  · rw [if_pos c19]
    simp only [e1, e2, e3, e4, e5, Option.bind_some]
    obtain ⟨r, r', u1, u2, hq⟩ := h19 y1 y2 y3 y4 y5 S0 hp
    rw [u1]
    simp only [Option.bind_some]
    rw [u2]
    simp only [Option.bind_some]
    exact ⟨S0, hq, rfl⟩
  rw [if_neg c19]
  by_cases c20 : (y0 &&& (63 : Int32)) = (20 : Int32)
  · rw [if_pos c20]
    simp only [e1, e2, e3, e4, e5, Option.bind_some]
    obtain ⟨r, r', u1, u2, hq⟩ := h20 y1 y2 y3 y4 S0 hp
    rw [u1]
    simp only [Option.bind_some]
    rw [u2]
    simp only [Option.bind_some]
    exact ⟨S0, hq, rfl⟩
  rw [if_neg c20]
  by_cases c21 : (y0 &&& (63 : Int32)) = (21 : Int32)
  · rw [if_pos c21]
    simp only [e1, e2, e3, e4, e5, Option.bind_some]
    by_cases cb : y3 = 0
    · simp only [if_pos cb]
      obtain ⟨r, r', S1, S2, u1, u2, hq⟩ := h21 y1 y2 0 S0 hp (Or.inl rfl)
      rw [u1]
      simp only [Option.bind_some]
      rw [u2]
      simp only [Option.bind_some]
      exact ⟨S2, hq, rfl⟩
    · simp only [if_neg cb]
      obtain ⟨r, r', S1, S2, u1, u2, hq⟩ := h21 y1 y2 1 S0 hp (Or.inr rfl)
      rw [u1]
      simp only [Option.bind_some]
      rw [u2]
      simp only [Option.bind_some]
      exact ⟨S2, hq, rfl⟩
  rw [if_neg c21]
  by_cases c22 : (y0 &&& (63 : Int32)) = (22 : Int32)
  · rw [if_pos c22]
    simp only [e1, e2, e3, e4, e5, Option.bind_some]
    obtain ⟨r, r', u1, u2, hq⟩ := h22 y1 y2 y3 y4 S0 hp
    rw [u1]
    simp only [Option.bind_some]
    rw [u2]
    simp only [Option.bind_some]
    exact ⟨S0, hq, rfl⟩
  rw [if_neg c22]
  by_cases c23 : (y0 &&& (63 : Int32)) = (23 : Int32)
  · rw [if_pos c23]
    simp only [e1, e2, e3, e4, e5, Option.bind_some]
    obtain ⟨r, r', u1, u2, hq⟩ := h23 y1 y2 y3 S0 hp
    rw [u1]
    simp only [Option.bind_some]
    rw [u2]
    simp only [Option.bind_some]
    exact ⟨S0, hq, rfl⟩
  rw [if_neg c23]
  by_cases c24 : (y0 &&& (63 : Int32)) = (24 : Int32)
  · rw [if_pos c24]
    simp only [e1, e2, e3, e4, e5, Option.bind_some]
    obtain ⟨r, r', u1, u2, hq⟩ := h24 y1 y2 y3 S0 hp
    rw [u1]
    simp only [Option.bind_some]
    rw [u2]
    simp only [Option.bind_some]
    exact ⟨S0, hq, rfl⟩
  rw [if_neg c24]
  by_cases c25 : (y0 &&& (63 : Int32)) = (25 : Int32)
  · rw [if_pos c25]
    simp only [e1, e2, e3, e4, e5, Option.bind_some]
    obtain ⟨r, r', u1, u2, hq⟩ := h25 y1 y2 S0 hp
    rw [u1]
    simp only [Option.bind_some]
    rw [u2]
    simp only [Option.bind_some]
    exact ⟨S0, hq, rfl⟩
  rw [if_neg c25]
  by_cases c26 : (y0 &&& (63 : Int32)) = (26 : Int32)
  · rw [if_pos c26]
    obtain ⟨r, r', S2, u1, u2, hq⟩ := h26  S0 hp
    rw [u1]
    simp only [Option.bind_some]
    rw [u2]
    simp only [Option.bind_some]
    exact ⟨S2, hq, rfl⟩
  rw [if_neg c26]
  by_cases c27 : (y0 &&& (63 : Int32)) = (27 : Int32)
  · rw [if_pos c27]
    simp only [e1, e2, e3, e4, e5, Option.bind_some]
    obtain ⟨r, r', S1, S2, u1, u2, hq⟩ := h27 y1 y2 y3 S0 hp
    rw [u1]
    simp only [Option.bind_some]
    rw [u2]
    simp only [Option.bind_some]
    exact ⟨S2, hq, rfl⟩
  rw [if_neg c27]
  by_cases c28 : (y0 &&& (63 : Int32)) = (28 : Int32)
  · rw [if_pos c28]
    simp only [e1, e2, e3, e4, e5, Option.bind_some]
    obtain ⟨r, r', S1, S2, u1, u2, hq⟩ := h28 y1 y2 y3 S0 hp
    rw [u1]
    simp only [Option.bind_some]
    rw [u2]
    simp only [Option.bind_some]
    exact ⟨S2, hq, rfl⟩
  rw [if_neg c28]
  by_cases c29 : (y0 &&& (63 : Int32)) = (29 : Int32)
  · rw [if_pos c29]
    simp only [e1, e2, e3, e4, e5, Option.bind_some]
    obtain ⟨r, r', u1, u2, hq⟩ := h29 y1 y2 S0 hp
    rw [u1]
    simp only [Option.bind_some]
    rw [u2]
    simp only [Option.bind_some]
    exact ⟨S0, hq, rfl⟩
  rw [if_neg c29]
  by_cases c30 : (y0 &&& (63 : Int32)) = (30 : Int32)
  · rw [if_pos c30]
    obtain ⟨r, r', u1, u2, hq⟩ := h30  S0 hp
    rw [u1]
    simp only [Option.bind_some]
    rw [u2]
    simp only [Option.bind_some]
    exact ⟨S0, hq, rfl⟩
  rw [if_neg c30]
  by_cases c31 : (y0 &&& (63 : Int32)) = (31 : Int32)
  · rw [if_pos c31]
    simp only [e1, e2, e3, e4, e5, Option.bind_some]
    obtain ⟨r, r', u1, u2, hq⟩ := h31 y1 S0 hp
    rw [u1]
    simp only [Option.bind_some]
    rw [u2]
    simp only [Option.bind_some]
    exact ⟨S0, hq, rfl⟩
  rw [if_neg c31]
  by_cases c32 : (y0 &&& (63 : Int32)) = (32 : Int32)
  · rw [if_pos c32]
    simp only [e1, e2, e3, e4, e5, Option.bind_some]
    obtain ⟨r, r', S1, S2, u1, u2, hq⟩ := h32 y1 S0 hp
    rw [u1]
    simp only [Option.bind_some]
    rw [u2]
    simp only [Option.bind_some]
    exact ⟨S2, hq, rfl⟩
  rw [if_neg c32]
  by_cases c33 : (y0 &&& (63 : Int32)) = (33 : Int32)
  · rw [if_pos c33]
    simp only [e1, e2, e3, e4, e5, Option.bind_some]
    obtain ⟨r, r', S1, S2, u1, u2, hq⟩ := h33 y1 y2 y3 y4 y5 S0 hp
    rw [u1]
    simp only [Option.bind_some]
    rw [u2]
    simp only [Option.bind_some]
    exact ⟨S2, hq, rfl⟩
  rw [if_neg c33]
  by_cases c34 : (y0 &&& (63 : Int32)) = (34 : Int32)
  · rw [if_pos c34]
    simp only [e1, e2, e3, e4, e5, Option.bind_some]
    obtain ⟨r, r', u1, u2, hq⟩ := h34 y1 S0 hp
    rw [u1]
    simp only [Option.bind_some]
    rw [u2]
    simp only [Option.bind_some]
    exact ⟨S0, hq, rfl⟩
  rw [if_neg c34]
  by_cases c35 : (y0 &&& (63 : Int32)) = (35 : Int32)
  · rw [if_pos c35]
    simp only [e1, e2, e3, e4, e5, Option.bind_some]
    obtain ⟨r, r', S1, S2, u1, u2, hq⟩ := h35 y1 S0 hp
    rw [u1]
    simp only [Option.bind_some]
    rw [u2]
    simp only [Option.bind_some]
    exact ⟨S2, hq, rfl⟩
  rw [if_neg c35]
  by_cases c36 : (y0 &&& (63 : Int32)) = (36 : Int32)
  · rw [if_pos c36]
    simp only [e1, e2, e3, e4, e5, Option.bind_some]
    obtain ⟨r, S1, S2, u1, u2, hq⟩ := h36 y1 S0 hp
    rw [u1]
    simp only [Option.bind_some]
    rw [u2]
    simp only [Option.bind_some]
    rw [if_pos trivial]
    exact ⟨S2, hq, rfl⟩
  rw [if_neg c36]
  exact ⟨S0, hPQ _ hp, rfl⟩
theorem law_end {X : mm_C} {K : fS → Option (Int32 × fS)} {n : Nat} {p3 : Int32} {S0 : fS} (he : (X.1 : Int) < p3.toInt + 6) (hX : X.1 < 100000) : lp_L_law_18 X K (n + 1) p3 S0 = K S0 := by
  have hlen : (Int32.ofNat X.1).toInt = X.1 := Int32.toInt_ofNat_of_lt (by omega)
  have hs6 : (6 : Int32).toInt = 6 := rfl
  rw [lp_L_law_18.eq_2]
  rw [if_pos (ni_lt.mpr (by rw [ni_sub (by rw [hlen, hs6]; omega) (by rw [hlen, hs6]; omega), hlen, hs6]; omega))]
theorem law_all {X : mm_C} {R : fS → Prop} (H : HH R R) {K : fS → Option (Int32 × fS)} (hX : X.1 < 100000) : ∀ (n : Nat) (p3 : Int32) (S0 : fS), R S0 → 0 ≤ p3.toInt → p3.toInt ≤ X.1 + 6 → (X.1 : Int) + 6 < p3.toInt + 6 * n → ∃ S', R S' ∧ lp_L_law_18 X K n p3 S0 = K S' := by
  intro n
  induction n with
  | zero => intro p3 S0 _ _ h1 h2; exfalso; omega
  | succ n ih =>
    intro p3 S0 hR hb h1 h2
    by_cases he : p3.toInt + 6 ≤ X.1
    · obtain ⟨S', hR', e⟩ := law_it (K := K) (n := n) H (fun _ h => h) hR hb he hX
      have e6 : (p3 + (6 : Int32)).toInt = p3.toInt + 6 := ni_add (b := 6) (by show _ ≤ p3.toInt + 6; omega) (by show p3.toInt + 6 < _; omega)
      obtain ⟨S2, hR2, e2⟩ := ih (p3 + 6) S' hR' (by omega) (by omega) (by omega)
      exact ⟨S2, hR2, e.trans e2⟩
    · exact ⟨S0, hR, law_end (by omega) hX⟩
