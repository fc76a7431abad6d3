section
/-! the reference: settles(), isInside(), closes() -/
theorem st_st {b b' : Nat} (hb : b ≤ b') : ∀ H, stO b' H ++ stO b (stR b' H) = stO b H ∧ stR b (stR b' H) = stR b H := by
  intro H
  induction H with
  | nil => exact ⟨rfl, rfl⟩
  | cons s H ih =>
    by_cases h : b' ≤ bnd s
    · rw [stO_c h, stR_c h, stO_c (show b ≤ bnd s by omega), stR_c (show b ≤ bnd s by omega)]
      exact ⟨congrArg _ ih.1, ih.2⟩
    · have e1 : stO b' (s :: H) = [] := by show (if b' ≤ bnd s then _ else _) = _; rw [if_neg h]
      have e2 : stR b' (s :: H) = s :: H := by show (if b' ≤ bnd s then _ else _) = _; rw [if_neg h]
      rw [e1, e2]
      exact ⟨rfl, rfl⟩
section MS
variable {t : Nat → Int32} {n x m : Nat} {i u : Int32}
theorem ms_str {y : Nat} {S : fS} (h : y = 4 ∨ y = 5 ∨ y = 6 ∨ y = 16) : f_X11_strength (o3 (hm y)) S = some (o3 (bnd y)) := by
  rcases h with rfl | rfl | rfl | rfl <;> rfl
theorem RH_po {S : fS} {H : List Nat} {s : Nat} (h : RH S (s :: H)) : RH (pI (pI S 145 21 (o3 H.length)) 145 18 (o3 (dep H))) H := by
  obtain ⟨r1, r2, r3⟩ := h
  refine ⟨?_, ?_, fun k hk => ?_⟩
  · rw [pI_ne (by omega), pI_eq]
  · rw [pI_eq]
  · rw [pI_ne (by omega), pI_ne (by omega), r3 k (by show k < H.length + 1; omega), List.reverse_cons, gd_l (by rw [List.length_reverse]; exact hk)]
theorem RH_po' {S : fS} {H : List Nat} {s : Nat} (h : RH S (s :: H)) (hs : dep (s :: H) = dep H) : RH (pI S 145 21 (o3 H.length)) H := by
  have := RH_po h
  refine RH_eq this ?_ ?_ (fun k => ?_)
  · rw [pI_eq, pI_ne (by omega), pI_eq]
  · rw [pI_ne (by omega), pI_eq, h.2.1, hs]
  · rw [pI_ne (by omega), pI_ne (by omega), pI_ne (by omega)]
theorem RH_top {S : fS} {H : List Nat} {s : Nat} (h : RH S (s :: H)) : S.1 154 H.length = o3 (hm s) := by
  rw [h.2.2 H.length (by show _ < H.length + 1; omega), List.reverse_cons]
  have := gd_r (c := H.reverse) (q := s) (d := 0)
  rw [List.length_reverse] at this
  rw [this]
theorem ms_settles (hx : x < 6) {b : Nat} (hb : 1 ≤ b) (hb3 : b ≤ 3) {K : fS → Option fS} : ∀ (H : List Nat) (c : List (Nat × Nat)) (S : fS) nn, H.length < nn → RQ S x m c → RH S H → fH H → dep H ≤ 10 → c.length + H.length ≤ 400 → ∃ T, lp_X11_settles_0 (o3 b) K nn (mS S i 0 u) = K (mS T i 0 u) ∧ eMr x S T ∧ RQ T x m (c ++ stO b H) ∧ RH T (stR b H) := by
  intro H
  induction H with
  | nil =>
    intro c S nn hnn hR hH hf hd hc
    obtain ⟨nn, rfl⟩ : ∃ k, nn = k + 1 := ⟨nn - 1, by have : 0 < nn := hnn; omega⟩
    rw [lp_X11_settles_0.eq_2, mS_ne (by omega), hH.1, if_pos (by decide)]
    exact ⟨S, rfl, eMr.rf, by rw [show stO b [] = [] from rfl, List.append_nil]; exact hR, hH⟩
  | cons s H ih =>
    intro c S nn hnn hR hH hf hd hc
    obtain ⟨nn, rfl⟩ : ∃ k, nn = k + 1 := ⟨nn - 1, by have : H.length + 1 < nn := hnn; omega⟩
    have hnn : H.length + 1 < nn + 1 := hnn
    have hc : c.length + (H.length + 1) ≤ 400 := hc
    have hs := hf s List.mem_cons_self
    have hf' : fH H := fun y hy => hf y (List.mem_cons_of_mem _ hy)
    have hb6 := bnd_6 s
    rw [lp_X11_settles_0.eq_2, mS_ne (by omega), hH.1, show (s :: H).length = H.length + 1 from rfl]
    rw [if_neg (show ¬ o3 (H.length + 1) ≤ (0 : Int32) from fun q => by have := (o3_le (b := 0) (by omega) (by omega)).mp q; omega), show (1 : Int32) = o3 1 from rfl, o3_sub (by omega), show H.length + 1 - 1 = H.length by omega, gI_o (by omega) (by omega), bd_some, mS_ne (by omega), RH_top hH, ms_str hs, bd_some]
    by_cases hq : b ≤ bnd s
    · rw [if_neg (show ¬ o3 (bnd s) < o3 b from fun q => by have := (o3_lt (by omega) (by omega)).mp q; omega), bd_some, mS_p (by omega), mS_ne (by omega), pI_eq, gI_o (by omega) (by omega), bd_some, mS_ne (by omega), pI_ne (by omega), RH_top hH]
      have h16 : s ≠ 16 := fun q => by rw [q] at hq; have : bnd 16 = 0 := rfl; omega
      have hR1 : RQ (pI S 145 21 (o3 H.length)) x m c := by
        refine RQ_eq hR ?_ ?_ (fun k => ?_) (fun k => ?_) <;> rw [pI_ne (by omega)]
      obtain ⟨T1, e1, e2, e3⟩ := mp_puts (i := i) (w := 0) (u := u) hR1 hx (by omega) (s := s) (v := 0) (a := o3 (hm s)) (b := 0) (by rcases hs with rfl | rfl | rfl | rfl <;> first | rfl | exact absurd rfl h16) rfl
      have hF := fr_f_X11_puts e1
      have k21 : T1.1 145 21 = o3 H.length := by
        have := hF.1 145 21 (by unfold w1_f_X11_puts; omega)
        rw [mS_ne (by omega), mS_ne (by omega), pI_eq] at this
        exact this
      have k18 : T1.1 145 18 = o3 (dep (s :: H)) := by
        have := hF.1 145 18 (by unfold w1_f_X11_puts; omega)
        rw [mS_ne (by omega), mS_ne (by omega), pI_ne (by omega)] at this
        exact this.trans hH.2.1
      have k154 : ∀ k, T1.1 154 k = S.1 154 k := fun k => by
        have := hF.1 154 k (by unfold w1_f_X11_puts; omega)
        rw [mS_ne (by omega), mS_ne (by omega), pI_ne (by omega)] at this
        exact this
      have hH1 : RH T1 (s :: H) → True := fun _ => trivial
      have e0 : eMr x S (pI S 145 21 (o3 H.length)) := eMr_pI (by unfold wMr; omega)
      rw [e1, bd_some, mS_ne (by omega), k21, gI_o (by omega) (by omega), bd_some, mS_ne (by omega), k154, RH_top hH, stO_c hq, stR_c hq]
      by_cases h4 : s = 4
      · subst h4
        have hd4 : dep (4 :: H) = dep H + 1 := dep_4
        rw [if_pos (show o3 (hm 4) = (11 : Int32) from rfl), bd_some, mS_ne (by omega), k18, hd4, o3_sub (by omega), show dep H + 1 - 1 = dep H by omega, mS_p (by omega)]
        have hH2 : RH (pI T1 145 18 (o3 (dep H))) H := by
          refine RH_eq (RH_po hH) ?_ ?_ (fun k => ?_)
          · rw [pI_ne (by omega), pI_ne (by omega), pI_eq, k21]
          · rw [pI_eq, pI_eq]
          · rw [pI_ne (by omega), pI_ne (by omega), pI_ne (by omega), k154]
        have hR2 : RQ (pI T1 145 18 (o3 (dep H))) x m (c ++ [(4, 0)]) := by
          refine RQ_eq e2 ?_ ?_ (fun k => ?_) (fun k => ?_) <;> rw [pI_ne (by omega)]
        obtain ⟨T, g1, g2, g3, g4⟩ := ih (c ++ [(4, 0)]) _ nn (by omega) hR2 hH2 hf' (by omega) (by rw [ln_app]; omega)
        exact ⟨T, g1, ((e0.tr e3).tr (eMr_pI (by unfold wMr; omega))).tr g2, by rw [List.append_assoc] at g3; exact g3, g4⟩
      · have hde : dep (s :: H) = dep H := dep_pu ⟨h4, h16⟩
        rw [if_neg (show ¬ o3 (hm s) = (11 : Int32) by rcases hs with rfl | rfl | rfl | rfl <;> first | exact absurd rfl h4 | decide)]
        have hH2 : RH T1 H := by
          refine RH_eq (RH_po' hH hde) ?_ ?_ (fun k => ?_)
          · rw [pI_eq, k21]
          · rw [pI_ne (by omega), k18, hH.2.1]
          · rw [pI_ne (by omega), k154]
        obtain ⟨T, g1, g2, g3, g4⟩ := ih (c ++ [(s, 0)]) _ nn (by omega) e2 hH2 hf' (by omega) (by rw [ln_app]; omega)
        exact ⟨T, g1, (e0.tr e3).tr g2, by rw [List.append_assoc] at g3; exact g3, g4⟩
    · have e1 : stO b (s :: H) = [] := by show (if b ≤ bnd s then _ else _) = _; rw [if_neg hq]
      have e2 : stR b (s :: H) = s :: H := by show (if b ≤ bnd s then _ else _) = _; rw [if_neg hq]
      rw [if_pos (show o3 (bnd s) < o3 b from (o3_lt (by omega) (by omega)).mpr (by omega)), e1, e2, List.append_nil]
      exact ⟨S, rfl, eMr.rf, hR, hH⟩
theorem ms_set (hx : x < 6) {b : Nat} (hb : 1 ≤ b) (hb3 : b ≤ 3) {H : List Nat} {c : List (Nat × Nat)} {S : fS} (hR : RQ S x m c) (hH : RH S H) (hf : fH H) (hd : dep H ≤ 10) (hc : c.length + H.length ≤ 400) : ∃ T, f_X11_settles (o3 b) (mS S i 0 u) = some (mS T i 0 u) ∧ eMr x S T ∧ RQ T x m (c ++ stO b H) ∧ RH T (stR b H) := ms_settles hx hb hb3 (K := fun S25 => some S25) H c S FU (FU_lt (by omega)) hR hH hf hd hc
theorem tk_s : ∀ (H : List Nat) (d : Nat), d < H.length → brk (H.take (d + 1)) = brk (H.take d) + (if H.getD d 0 = 16 then 1 else 0) := by
  intro H
  induction H with
  | nil => intro d h; exact absurd h (Nat.not_lt_zero _)
  | cons s H ih =>
    intro d h
    cases d with
    | zero => show brk (List.take 0 H) + _ = _; rw [List.take_zero]; rfl
    | succ d =>
      have := ih d (Nat.lt_of_succ_lt_succ h)
      show brk (List.take (d + 1) H) + _ = brk (List.take d H) + _ + _
      rw [this]
      have : (s :: H).getD (d + 1) 0 = H.getD d 0 := rfl
      rw [this]
      omega
theorem gd_rev : ∀ (H : List Nat) (d : Nat), d < H.length → H.reverse.getD (H.length - 1 - d) 0 = H.getD d 0 := by
  intro H d h
  rw [List.getD_eq_getElem?_getD, List.getElem?_reverse (by omega), List.getD_eq_getElem?_getD, show H.length - 1 - (H.length - 1 - d) = d by omega]
theorem ms_in {S : fS} {H : List Nat} (hH : RH S H) (hL : H.length ≤ 400) (hf : fH H) {K : Unit → Option Int32} : ∀ d p nn, p + d = H.length → d < nn → lp_X11_isInside_2 S K nn (o3 p) = if 0 < brk (H.take d) then some 1 else K () := by
  intro d
  induction d with
  | zero =>
    intro p nn hp hnn
    obtain ⟨nn, rfl⟩ : ∃ k, nn = k + 1 := ⟨nn - 1, by omega⟩
    rw [lp_X11_isInside_2.eq_2, hH.1, if_pos ((o3_le (by omega) (by omega)).mpr (by omega)), List.take_zero, if_neg (by decide)]
  | succ d ih =>
    intro p nn hp hnn
    obtain ⟨nn, rfl⟩ : ∃ k, nn = k + 1 := ⟨nn - 1, by omega⟩
    rw [lp_X11_isInside_2.eq_2, hH.1, if_neg (fun q => by have := (o3_le (by omega) (by omega)).mp q; omega), gI_o (by omega) (by omega), bd_some, hH.2.2 p (by omega), tk_s H d (by omega), show p = H.length - 1 - d by omega, gd_rev H d (by omega)]
    have hy : H.getD d 0 ∈ H := by
      rw [List.getD_eq_getElem?_getD, List.getElem?_eq_getElem (by omega)]
      exact List.getElem_mem _
    have hy := hf _ hy
    by_cases h16 : H.getD d 0 = 16
    · rw [if_pos (by rw [h16]; rfl), if_pos h16, if_pos (by omega)]
    · rw [if_neg (by rcases hy with e | e | e | e <;> first | exact absurd e h16 | (rw [e]; decide)), if_neg h16, Nat.add_zero, o3_s, ih (H.length - 1 - d + 1) nn (by omega) (by omega)]
theorem ms_inside {S : fS} {H : List Nat} (hH : RH S H) (hL : H.length ≤ 400) (hf : fH H) : f_X11_isInside (mS S i 0 u) = some (if 0 < brk H then 1 else 0) := by
  unfold f_X11_isInside
  have hH' : RH (mS S i 0 u) H := RH_eq hH (mS_ne (by omega)) (mS_ne (by omega)) (fun k => mS_ne (by omega))
  have := ms_in hH' hL hf (K := fun _ => some 0) H.length 0 FU (by omega) (FU_lt (by omega))
  rw [show (0 : Int32) = o3 0 from rfl] at *
  rw [this, List.take_length]
  split <;> rfl
end MS
end
