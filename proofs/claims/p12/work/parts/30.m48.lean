section
/-! the reference: what is held -/
def hm : Nat → Nat
  | 4 => 11
  | 5 => 12
  | 6 => 13
  | _ => 91
def fH (H : List Nat) : Prop := ∀ y ∈ H, y = 4 ∨ y = 5 ∨ y = 6 ∨ y = 16
def RH (S : fS) (H : List Nat) : Prop := S.1 145 21 = o3 H.length ∧ S.1 145 18 = o3 (dep H) ∧ ∀ k, k < H.length → S.1 154 k = o3 (hm (H.reverse.getD k 0))
theorem fH_el {H : List Nat} (h : fH H) : elH H := fun y hy => by have := h y hy; omega
theorem fH_st {b : Nat} {H : List Nat} (h : fH H) : fH (stR b H) := fun y hy => h y (stR_mem H hy)
theorem fH_tl {H : List Nat} (h : fH H) : fH H.tail := fun y hy => h y (List.mem_of_mem_tail hy)
theorem fH_c {s : Nat} {H : List Nat} (h : fH H) (hs : s = 4 ∨ s = 5 ∨ s = 6 ∨ s = 16) : fH (s :: H) := fun y hy => by
  rcases List.mem_cons.mp hy with rfl | hy
  · exact hs
  · exact h y hy
theorem RH_eq {S T : fS} {H : List Nat} (h : RH S H) (h1 : T.1 145 21 = S.1 145 21) (h2 : T.1 145 18 = S.1 145 18) (h3 : ∀ k, T.1 154 k = S.1 154 k) : RH T H := ⟨h1.trans h.1, h2.trans h.2.1, fun k hk => (h3 k).trans (h.2.2 k hk)⟩
theorem RQ_eq {S T : fS} {x m : Nat} {c : List (Nat × Nat)} (h : RQ S x m c) (h1 : T.1 145 16 = S.1 145 16) (h2 : T.1 145 17 = S.1 145 17) (h3 : ∀ k, T.1 148 k = S.1 148 k) (h4 : ∀ k, T.1 147 k = S.1 147 k) : RQ T x m c := ⟨h1.trans h.1, h2.trans h.2.1, (h3 x).trans h.2.2.1, fun k hk => (h4 _).trans (h.2.2.2 k hk)⟩
theorem RH_fr {w1 w2 : Nat → Nat → Prop} {S T : fS} {i w u i' w' u' : Int32} {H : List Nat} (h : RH S H) (hF : Fr w1 w2 (mS S i w u) (mS T i' w' u')) (h1 : ¬ w1 145 21) (h2 : ¬ w1 145 18) (h3 : ∀ k, ¬ w1 154 k) : RH T H := by
  refine RH_eq h ?_ ?_ (fun k => ?_)
  · have := hF.1 145 21 h1; rw [mS_ne (by omega), mS_ne (by omega)] at this; exact this
  · have := hF.1 145 18 h2; rw [mS_ne (by omega), mS_ne (by omega)] at this; exact this
  · have := hF.1 154 k (h3 k); rw [mS_ne (by omega), mS_ne (by omega)] at this; exact this
section MH
variable {t : Nat → Int32} {n x m : Nat} {c : List (Nat × Nat)} {u : Int32}
theorem RH_pu {S : fS} {H : List Nat} {s d : Nat} (h : RH S H) (hd : d = dep (s :: H)) : RH (pI (pI (pI S 145 18 (o3 d)) 154 H.length (o3 (hm s))) 145 21 (o3 (H.length + 1))) (s :: H) := by
  obtain ⟨r1, r2, r3⟩ := h
  refine ⟨?_, ?_, fun k hk => ?_⟩
  · rw [pI_eq]; rfl
  · rw [pI_ne (by omega), pI_ne (by omega), pI_eq, hd]
  · have hk : k < H.length + 1 := hk
    rw [pI_ne (by omega), List.reverse_cons]
    by_cases e : k = H.length
    · subst e
      rw [pI_eq, show (H.reverse ++ [s]).getD H.length 0 = s by
        have := gd_r (c := H.reverse) (q := s) (d := 0)
        rwa [List.length_reverse] at this]
    · rw [pI_ne (by omega), pI_ne (by omega), gd_l (by rw [List.length_reverse]; omega)]
      exact r3 k (by omega)
theorem mo_opens {S : fS} {H : List Nat} {j s : Nat} {v : Int32} (hR : RQ S x m c) (hH : RH S H) (hd : dep H ≤ 10) (hL : H.length < 400) (hs : s = 4 ∨ s = 16) (hv : v = o3 (hm s)) : ∃ T, f_X11_opens v (mS S (o3 j) 0 u) = some (if 10 ≤ dep H then (0, mS S (o3 j) (o3 (1 + 8 * j + 2)) u) else (1, mS T (o3 j) 0 u)) ∧ RQ T x m c ∧ RH T (s :: H) ∧ eMr x S T := by
  refine ⟨_, ?_, ?_, RH_pu (s := s) (d := dep H + 1) hH (by rcases hs with rfl | rfl <;> rfl), ((eMr_pI (by unfold wMr; omega)).tr (eMr_pI (by unfold wMr; omega))).tr (eMr_pI (by unfold wMr; omega))⟩
  · unfold f_X11_opens
    rw [mS_ne (by omega), hH.2.1]
    by_cases h : 10 ≤ dep H
    · rw [if_pos (show o3 (dep H) = (10 : Int32) by rw [show dep H = 10 by omega]; rfl), if_pos h, mS_13, mt_fails mS_14, bd_some, mS_wr, show (8 : Int32) = o3 8 from rfl, show (1 : Int32) = o3 1 from rfl, show (2 : Int32) = o3 2 from rfl, o3_mul, o3_add, o3_add]
      rfl
    · rw [if_neg (show ¬ o3 (dep H) = (10 : Int32) from fun q => by have := (o3_inj (b := 10) (by omega) (by omega)).mp q; omega), if_neg h, bd_some, o3_s, mS_p (by omega), mS_ne (by omega), pI_ne (by omega), hH.1, sI_o (by omega) (by omega), bd_some, mS_p (by omega), bd_some, mS_ne (by omega), pI_ne (by omega), pI_ne (by omega), hH.1, o3_s, mS_p (by omega), hv]
  · refine RQ_eq hR ?_ ?_ (fun k => ?_) (fun k => ?_) <;> rw [pI_ne (by omega), pI_ne (by omega), pI_ne (by omega)]
theorem mo_fact (hl : n ≤ 400) (hb : ∀ k, byt (t k)) {K : fS → Option (Int32 × fS)} : ∀ d i H (S : fS) nn, dep H + d = 10 → d + 1 < nn → S.1 145 1 = o3 n → S.1 146 = t → RQ S x m c → RH S H → H.length ≤ i → i ≤ n → ∃ T w', lp_X11_fact_2 K nn 1 (mS S (o3 i) 0 u) = (if (opn t n (d + 1) i H).1 = 0 then K (mS T (o3 (opn t n (d + 1) i H).2.1) 0 u) else some (0, mS T w' (o3 (opn t n (d + 1) i H).1) u)) ∧ eMr x S T ∧ ((opn t n (d + 1) i H).1 = 0 → RQ T x m c ∧ RH T (opn t n (d + 1) i H).2.2) := by
  intro d
  induction d with
  | zero =>
    intro i H S nn hd hnn hn ht hR hH hL hi
    obtain ⟨nn, rfl⟩ : ∃ k, nn = k + 2 := ⟨nn - 2, by omega⟩
    subst ht
    have hj := sk_le (t := S.1 146) hi
    have hg := sk_ge (t := S.1 146) (n := n) (i := i)
    rw [lp_X11_fact_2.eq_2, if_neg (by decide), mt_see hn hl hi, bd_some, opn_s]
    dsimp only
    generalize hsk : sk (S.1 146) n i = j at hj hg
    have hid : sk (S.1 146) n j = j := by rw [← hsk]; exact sk_id
    rw [mr_word hn hl 7237492 5 (by decide) (by decide) hj, bd_some, hid]
    dsimp only
    by_cases hw : wat (S.1 146) n (mm_sb.getD 5 []) j = true
    · obtain ⟨T, e1, e2, e3, e4⟩ := mo_opens (u := u) (j := j) hR hH (by omega) (by
        have := (wat_ll (t := S.1 146) (n := n) _ j (mw_L 5 (by decide))).mp hw
        have h2 := ll_le (t := S.1 146) (n := n) _ j rfl hj
        rw [this.1, show (mm_sb.getD 5 []).length = 3 from rfl] at h2
        omega) (s := 4) (Or.inl rfl) (v := 11) rfl
      rw [if_pos hw, if_neg (by decide), e1, bd_some, if_pos (show 10 ≤ dep H by omega), if_pos hw, if_pos (show 10 ≤ dep H by omega)]
      dsimp only
      rw [if_pos rfl]
      exact ⟨S, o3 j, by rw [if_neg (by omega)], eMr.rf, fun q => by omega⟩
    · rw [if_neg hw, if_pos (by decide), if_neg hw]
      by_cases h9 : j < n ∧ S.1 146 j = 91
      · obtain ⟨T, e1, e2, e3, e4⟩ := mo_opens (u := u) (j := j) hR hH (by omega) (by omega) (s := 16) (Or.inr rfl) (v := 91) rfl
        rw [if_pos ((seen_eq hb (by decide) (by decide)).mpr h9), if_pos h9, e1, bd_some, if_pos (show 10 ≤ dep H by omega), if_pos (show 10 ≤ dep H by omega)]
        dsimp only
        rw [if_pos rfl]
        exact ⟨S, o3 j, by rw [if_neg (by omega)], eMr.rf, fun q => by omega⟩
      · rw [if_neg (fun q => h9 ((seen_eq hb (by decide) (by decide)).mp q)), if_neg h9, lp_X11_fact_2.eq_2, if_pos (by decide)]
        exact ⟨S, 0, rfl, eMr.rf, fun _ => ⟨hR, hH⟩⟩
  | succ d ih =>
    intro i H S nn hd hnn hn ht hR hH hL hi
    obtain ⟨nn, rfl⟩ : ∃ k, nn = k + 2 := ⟨nn - 2, by omega⟩
    subst ht
    have hj := sk_le (t := S.1 146) hi
    have hg := sk_ge (t := S.1 146) (n := n) (i := i)
    rw [lp_X11_fact_2.eq_2, if_neg (by decide), mt_see hn hl hi, bd_some, opn_s]
    dsimp only
    generalize hsk : sk (S.1 146) n i = j at hj hg
    have hid : sk (S.1 146) n j = j := by rw [← hsk]; exact sk_id
    rw [mr_word hn hl 7237492 5 (by decide) (by decide) hj, bd_some, hid]
    dsimp only
    by_cases hw : wat (S.1 146) n (mm_sb.getD 5 []) j = true
    · have hl3 := (wat_ll (t := S.1 146) (n := n) _ j (mw_L 5 (by decide))).mp hw
      have h2 := ll_le (t := S.1 146) (n := n) _ j rfl hj
      rw [hl3.1, show (mm_sb.getD 5 []).length = 3 from rfl] at h2
      obtain ⟨T, e1, e2, e3, e4⟩ := mo_opens (u := u) (j := j) hR hH (by omega) (by omega) (s := 4) (Or.inl rfl) (v := 11) rfl
      rw [if_pos hw, if_neg (by decide), e1, bd_some, if_neg (show ¬ 10 ≤ dep H by omega), if_pos hw, if_neg (show ¬ 10 ≤ dep H by omega)]
      dsimp only
      rw [if_neg (by decide), mt_pass ((eMr_1 e4).trans hn) hl hj, bd_some, eMr_t e4, hl3.1, show (mm_sb.getD 5 []).length = 3 from rfl]
      obtain ⟨T2, w', g1, g2, g3⟩ := ih (j + 3) (4 :: H) T (nn + 1) (by rw [dep_4]; omega) (by omega) ((eMr_1 e4).trans hn) (eMr_t e4) e2 e3 (by show H.length + 1 ≤ j + 3; omega) (by omega)
      exact ⟨T2, w', g1, e4.tr g2, g3⟩
    · rw [if_neg hw, if_pos (by decide), if_neg hw]
      by_cases h9 : j < n ∧ S.1 146 j = 91
      · obtain ⟨T, e1, e2, e3, e4⟩ := mo_opens (u := u) (j := j) hR hH (by omega) (by omega) (s := 16) (Or.inr rfl) (v := 91) rfl
        rw [if_pos ((seen_eq hb (by decide) (by decide)).mpr h9), if_pos h9, e1, bd_some, if_neg (show ¬ 10 ≤ dep H by omega), if_neg (show ¬ 10 ≤ dep H by omega)]
        dsimp only
        rw [if_neg (by decide), bd_some, mS_13, mS_nx, o3_s]
        obtain ⟨T2, w', g1, g2, g3⟩ := ih (j + 1) (16 :: H) T (nn + 1) (by rw [dep_16]; omega) (by omega) ((eMr_1 e4).trans hn) (eMr_t e4) e2 e3 (by show H.length + 1 ≤ j + 1; omega) (by omega)
        exact ⟨T2, w', g1, e4.tr g2, g3⟩
      · rw [if_neg (fun q => h9 ((seen_eq hb (by decide) (by decide)).mp q)), if_neg h9, lp_X11_fact_2.eq_2, if_pos (by decide)]
        exact ⟨S, 0, rfl, eMr.rf, fun _ => ⟨hR, hH⟩⟩
end MH
end
