section
section MC
variable {t : Nat → Int32} {n x : Nat}
theorem mc_105 {p1 s0 p2 : Int32} {k : Nat} {X : fS} (h : (p1 = 60 ∧ s0 = 0 ∧ k = 11) ∨ (p1 = 60 ∧ s0 = 1 ∧ k = 12) ∨ (p1 = 61 ∧ s0 = 0 ∧ k = 13) ∨ (p1 = 62 ∧ s0 = 1 ∧ k = 14) ∨ (p1 = 62 ∧ s0 = 0 ∧ k = 15)) : j_X11_compare_105 p1 p2 s0 X = (f_X11_makes p2 X).bind fun q => if q.1 = (0 : Int32) then some ((0 : Int32), q.2) else j_X11_compare_152 (o3 (k - 11)) q.2 := by
  unfold j_X11_compare_105
  congr 1
  funext q
  by_cases hq : q.1 = (0 : Int32)
  · rw [if_pos hq, if_pos hq]
  rw [if_neg hq, if_neg hq]
  rcases h with ⟨rfl, rfl, rfl⟩ | ⟨rfl, rfl, rfl⟩ | ⟨rfl, rfl, rfl⟩ | ⟨rfl, rfl, rfl⟩ | ⟨rfl, rfl, rfl⟩
  · rw [if_pos (by decide), if_pos (by decide)]; rfl
  · rw [if_pos (by decide), if_neg (by decide)]; rfl
  · rw [if_neg (by decide), if_pos (by decide)]; rfl
  · rw [if_neg (by decide), if_neg (by decide), if_neg (by decide)]; rfl
  · rw [if_neg (by decide), if_neg (by decide), if_pos (by decide)]; rfl
theorem mc_44 {S : fS} {j : Nat} {u p1 : Int32} (hl : n ≤ 400) (hn : S.1 145 1 = o3 n) (h : j < n) (hp : S.1 146 j = p1) (h3 : p1 = 60 ∨ p1 = 61 ∨ p1 = 62) : j_X11_compare_44 p1 (o3 j) (mS S (o3 j) 0 u) = (f_X11_makes (o3 j) (mS S (o3 (j + cmL (cm (S.1 146) n j))) 0 u)).bind fun q => if q.1 = (0 : Int32) then some ((0 : Int32), q.2) else j_X11_compare_152 (o3 (cm (S.1 146) n j - 11)) q.2 := by
  unfold j_X11_compare_44 cm
  rw [bd_some, mS_nx, mS_13, o3_s]
  by_cases h1 : p1 = 61
  · rw [if_pos h1, if_pos ⟨h, hp.trans h1⟩]
    unfold j_X11_compare_89 j_X11_compare_90
    rw [if_pos rfl, mc_105 (k := 13) (by subst h1; decide)]
    rfl
  · rw [if_neg h1, mS_1, hn, mS_13, if_neg (show ¬ (j < n ∧ S.1 146 j = 61) from fun q => h1 (hp.symm.trans q.2))]
    by_cases h2 : j + 1 < n
    · rw [if_neg (show ¬ o3 n ≤ o3 (j + 1) from fun q => by have := (o3_le (by omega) (by omega)).mp q; omega), gI_o (by omega) (by omega), bd_some, mS_t]
      by_cases h4 : S.1 146 (j + 1) = 61
      · rw [if_pos h4]
        unfold j_X11_compare_90
        rw [if_neg (by decide), bd_some, mS_nx, mS_13, o3_s]
        rcases h3 with e | e | e
        · rw [if_pos ⟨h, hp.trans e⟩, if_pos ⟨h2, h4⟩, mc_105 (k := 12) (by subst e; decide)]; rfl
        · exact absurd e h1
        · rw [if_neg (show ¬ (j < n ∧ S.1 146 j = 60) from fun q => absurd (e.symm.trans (hp.symm.trans q.2)) (by decide)), if_pos ⟨h, hp.trans e⟩, if_pos ⟨h2, h4⟩, mc_105 (k := 14) (by subst e; decide)]; rfl
      · rw [if_neg h4]
        unfold j_X11_compare_89 j_X11_compare_90
        rw [if_pos rfl]
        rcases h3 with e | e | e
        · rw [if_pos ⟨h, hp.trans e⟩, if_neg (fun q => h4 q.2), mc_105 (k := 11) (by subst e; decide)]; rfl
        · exact absurd e h1
        · rw [if_neg (show ¬ (j < n ∧ S.1 146 j = 60) from fun q => absurd (e.symm.trans (hp.symm.trans q.2)) (by decide)), if_pos ⟨h, hp.trans e⟩, if_neg (fun q => h4 q.2), mc_105 (k := 15) (by subst e; decide)]; rfl
    · rw [if_pos (show o3 n ≤ o3 (j + 1) from (o3_le (by omega) (by omega)).mpr (by omega))]
      unfold j_X11_compare_89 j_X11_compare_90
      rw [if_pos rfl]
      rcases h3 with e | e | e
      · rw [if_pos ⟨h, hp.trans e⟩, if_neg (fun q => h2 q.1), mc_105 (k := 11) (by subst e; decide)]; rfl
      · exact absurd e h1
      · rw [if_neg (show ¬ (j < n ∧ S.1 146 j = 60) from fun q => absurd (e.symm.trans (hp.symm.trans q.2)) (by decide)), if_pos ⟨h, hp.trans e⟩, if_neg (fun q => h2 q.1), mc_105 (k := 15) (by subst e; decide)]; rfl
theorem mc_sgn {S : fS} {j : Nat} {u : Int32} (hl : n ≤ 400) (hn : S.1 145 1 = o3 n) (hb : ∀ k, byt (S.1 146 k)) {p1 : Int32} (hp1 : p1 = seen (S.1 146) n j) {Z : Option (Int32 × fS)} : (if p1 = (60 : Int32) then j_X11_compare_44 p1 (o3 j) (mS S (o3 j) 0 u) else if p1 = (61 : Int32) then j_X11_compare_44 p1 (o3 j) (mS S (o3 j) 0 u) else if p1 = (62 : Int32) then j_X11_compare_44 p1 (o3 j) (mS S (o3 j) 0 u) else Z) = if cm (S.1 146) n j = 0 then Z else (f_X11_makes (o3 j) (mS S (o3 (j + cmL (cm (S.1 146) n j))) 0 u)).bind fun q => if q.1 = (0 : Int32) then some ((0 : Int32), q.2) else j_X11_compare_152 (o3 (cm (S.1 146) n j - 11)) q.2 := by
  have key : ∀ a : Int32, a = 60 ∨ a = 61 ∨ a = 62 → p1 = a → (j_X11_compare_44 p1 (o3 j) (mS S (o3 j) 0 u) = if cm (S.1 146) n j = 0 then Z else (f_X11_makes (o3 j) (mS S (o3 (j + cmL (cm (S.1 146) n j))) 0 u)).bind fun q => if q.1 = (0 : Int32) then some ((0 : Int32), q.2) else j_X11_compare_152 (o3 (cm (S.1 146) n j - 11)) q.2) := by
    intro a ha e
    have hh : j < n ∧ S.1 146 j = a := (seen_eq hb (by rcases ha with rfl | rfl | rfl <;> decide) (by rcases ha with rfl | rfl | rfl <;> decide)).mp (hp1.symm.trans e)
    rw [if_neg, e]
    · exact mc_44 hl hn hh.1 hh.2 ha
    · unfold cm
      rcases ha with rfl | rfl | rfl
      · rw [if_neg (fun q => absurd (hh.2.symm.trans q.2) (by decide)), if_pos hh]; split <;> decide
      · rw [if_pos hh]; decide
      · rw [if_neg (fun q => absurd (hh.2.symm.trans q.2) (by decide)), if_neg (fun q => absurd (hh.2.symm.trans q.2) (by decide)), if_pos hh]; split <;> decide
  by_cases h0 : p1 = 60
  · rw [if_pos h0]; exact key 60 (by decide) h0
  rw [if_neg h0]
  by_cases h1 : p1 = 61
  · rw [if_pos h1]; exact key 61 (by decide) h1
  rw [if_neg h1]
  by_cases h2 : p1 = 62
  · rw [if_pos h2]; exact key 62 (by decide) h2
  rw [if_neg h2, if_pos]
  unfold cm
  rw [if_neg (fun q => h1 (hp1.trans ((seen_eq hb (by decide) (by decide)).mpr q))), if_neg (fun q => h0 (hp1.trans ((seen_eq hb (by decide) (by decide)).mpr q))), if_neg (fun q => h2 (hp1.trans ((seen_eq hb (by decide) (by decide)).mpr q)))]
theorem AR_cm {m i k : Nat} {c : List (Nat × Nat)} {H : List Nat} (he : elH H) (hd : dep H ≤ 10) (hi : i ≤ n) (hs : sk t n i = i) (hr : rk t n i = 0) (hk : cm t n i = k) (ht : tp 4 H) : AR t n false m c H i = if k = 0 then (1 + 8 * i, 0, 0, []) else if 60 ≤ m then (1 + 8 * i + 3, 0, 0, []) else VR t n true (m + 1) c (k :: H) (i + cmL k) := by
  unfold AR aft
  rw [hs, if_pos hr, if_neg (by decide), hk]
  by_cases h0 : k = 0
  · rw [if_pos h0, if_pos h0]; rfl
  rw [if_neg h0, if_neg h0]
  by_cases h6 : 60 ≤ m
  · rw [if_pos h6, if_pos h6]; rfl
  rw [if_neg h6, if_neg h6, ht.1, ht.2, List.append_nil]
  obtain ⟨k1, k2, k3⟩ := cm_cs (t := t) (n := n) (j := i) (by omega)
  rw [hk] at k1 k2 k3
  exact RUN_V (fun y hy => by
    rcases List.mem_cons.mp hy with rfl | hy
    · omega
    · exact he y hy) (by rw [dep_pu (by omega)]; exact hd) k2
theorem bnd_cm {k : Nat} (h : 11 ≤ k ∧ k ≤ 15) : bnd k = 4 := (show ∀ a, a < 16 → 11 ≤ a → bnd a = 4 by decide) _ (by omega) (by omega)
theorem mx_cmp (hl : n ≤ 400) (hx : x < 6) (hb : ∀ k, byt (t k)) {S : fS} {m i : Nat} {c : List (Nat × Nat)} {u : Int32} (hn : S.1 145 1 = o3 n) (ht : S.1 146 = t) (hR : RQ S x m c) (hm : m ≤ 60) (hc : c.length ≤ i) (hi : i ≤ n) : ∃ F T i' m' c' w' u', f_X11_compare (mS S (o3 i) 0 u) = some (if F = 0 then (1, mS T (o3 i') 0 u') else (0, mS T w' (o3 F) u')) ∧ pce t n x m c i S T F i' m' c' ∧ (F = 0 → i < i' ∧ rk t n i' = 0 ∧ ∃ e, c' = c ++ e ∧ tyB e) ∧ ∀ H, elH H → dep H ≤ 10 → tp 4 H → VR t n false m c H i = if F = 0 then AR t n true m' c' H i' else (F, 0, 0, []) := by
  obtain ⟨F1, T1, i1, m1, c1, w1, u1, a1, ⟨a2, a3⟩, a4, a5⟩ := mx_sum hl hx hb (u := u) hn ht hR hm hc hi
  unfold f_X11_compare
  rw [a1, bd_some]
  by_cases hF : F1 = 0
  · obtain ⟨d1, d2, d3, d4, d5, d6⟩ := a3 hF
    obtain ⟨e1, e2, x1, x2, x3⟩ := a4 hF
    have hn1 := (eMr_1 a2).trans hn
    have ht1 := (eMr_t a2).trans ht
    rw [if_pos hF]
    dsimp only
    rw [if_neg (show ¬ (1 : Int32) = 0 by decide), mt_see hn1 hl d3, bd_some, ht1, d4]
    dsimp only
    rw [mS_13, mc_sgn hl hn1 (by rw [ht1]; exact hb) (by rw [ht1])]
    rw [ht1]
    have key : ∀ H, elH H → dep H ≤ 10 → tp 4 H → VR t n false m c H i = if cm t n i1 = 0 then (1 + 8 * i1, 0, 0, []) else if 60 ≤ m1 then (1 + 8 * i1 + 3, 0, 0, []) else VR t n true (m1 + 1) c1 (cm t n i1 :: H) (i1 + cmL (cm t n i1)) := fun H h1 h2 h3 => by
      have := a5 false H h1 h2 (tp_mo h3 (by omega))
      rw [if_pos hF, AR_cm h1 h2 d3 d4 e2 rfl h3] at this
      exact this
    by_cases hk : cm t n i1 = 0
    · rw [if_pos hk, mt_fails mS_14, bd_some, mS_wr, show (8 : Int32) = o3 8 from rfl, show (1 : Int32) = o3 1 from rfl, show (0 : Int32) = o3 0 from rfl, o3_mul, o3_add, o3_add]
      refine ⟨1 + 8 * i1, T1, 0, 0, [], o3 i1, u1, ?_, ⟨a2, fun q => by omega⟩, fun q => by omega, fun H h1 h2 h3 => ?_⟩
      · rw [if_neg (by omega)]; rfl
      · rw [key H h1 h2 h3, if_pos hk, if_neg (by omega)]
    · obtain ⟨k1, k2, k3⟩ := cm_cs hk
      rw [if_neg hk, mp_makes d1 d5, bd_some]
      by_cases h6 : 60 ≤ m1
      · rw [if_pos h6]
        dsimp only
        rw [if_pos rfl]
        refine ⟨1 + 8 * i1 + 3, T1, 0, 0, [], o3 (i1 + cmL (cm t n i1)), u1, ?_, ⟨a2, fun q => by omega⟩, fun q => by omega, fun H h1 h2 h3 => ?_⟩
        · rw [if_neg (by omega)]
        · rw [key H h1 h2 h3, if_neg hk, if_pos h6, if_neg (by omega)]
      · rw [if_neg h6]
        dsimp only
        rw [if_neg (show ¬ (1 : Int32) = 0 by decide)]
        have e17 : eMr x T1 (pI T1 145 17 (o3 (m1 + 1))) := eMr_pI (by unfold wMr; omega)
        have hE := a2.tr e17
        obtain ⟨F2, T2, i2, m2, c2, w2, u2, b1, ⟨b2, b3⟩, b4, b5⟩ := mx_sum hl hx hb (u := u1) (i := i1 + cmL (cm t n i1)) ((eMr_1 hE).trans hn) ((eMr_t hE).trans ht) (RQ_17 (m' := m1 + 1) d1) (by omega) (by omega) k2
        unfold j_X11_compare_152
        rw [b1, bd_some]
        generalize hcm : cm t n i1 = k at *
        have hbk := bnd_cm k1
        have el : ∀ H, elH H → elH (k :: H) := fun H he y hy => by
          rcases List.mem_cons.mp hy with rfl | hy
          · omega
          · exact he y hy
        have key2 : ∀ H, elH H → dep H ≤ 10 → tp 4 H → VR t n false m c H i = if F2 = 0 then AR t n true m2 c2 (k :: H) i2 else (F2, 0, 0, []) := fun H h1 h2 h3 => by
          rw [key H h1 h2 h3, if_neg hk, if_neg h6, b5 true (k :: H) (el H h1) (by rw [dep_pu (by omega)]; exact h2) (tp_c (by omega))]
        by_cases hG : F2 = 0
        · obtain ⟨f1, f2, f3, f4, f5, f6⟩ := b3 hG
          obtain ⟨g1, g2, y1, y2, y3⟩ := b4 hG
          rw [if_pos hG]
          dsimp only
          rw [if_neg (show ¬ (1 : Int32) = 0 by decide)]
          obtain ⟨T3, p1, p2, p3⟩ := mp_puts (i := o3 i2) (w := 0) (u := u2) f1 hx (by omega) (s := k) (v := 0) (a := (6 : Int32) + o3 (k - 11)) (b := 0) (by
            have : k = 11 ∨ k = 12 ∨ k = 13 ∨ k = 14 ∨ k = 15 := by omega
            rcases this with rfl | rfl | rfl | rfl | rfl <;> rfl) rfl
          rw [p1, bd_some]
          refine ⟨0, T3, i2, m2, c2 ++ [(k, 0)], 0, u2, ?_, ⟨(hE.tr b2).tr p3, fun _ => ⟨p2, by omega, f3, f4, f5, by rw [ln_app]; omega⟩⟩, fun _ => ⟨by omega, g2, _, by rw [y2, x2]; simp only [List.append_assoc], tyB_c k1 x3 y3⟩, fun H h1 h2 h3 => ?_⟩
          · rw [if_pos rfl]
          · rw [key2 H h1 h2 h3, if_pos hG, if_pos rfl, AR_hold (by omega) (by omega) (Or.inl (by rw [f4]; exact g2))]
        · rw [if_neg hG]
          dsimp only
          rw [if_pos rfl]
          refine ⟨F2, T2, 0, 0, [], w2, u2, ?_, ⟨hE.tr b2, fun q => absurd q hG⟩, fun q => absurd q hG, fun H h1 h2 h3 => ?_⟩
          · rw [if_neg hG]
          · rw [key2 H h1 h2 h3, if_neg hG, if_neg hG]
  · rw [if_neg hF]
    dsimp only
    rw [if_pos rfl]
    refine ⟨F1, T1, 0, 0, [], w1, u1, by rw [if_neg hF], ⟨a2, fun q => absurd q hF⟩, fun q => absurd q hF, fun H h1 h2 h3 => ?_⟩
    rw [a5 false H h1 h2 (tp_mo h3 (by omega)), if_neg hF, if_neg hF]
end MC
end
