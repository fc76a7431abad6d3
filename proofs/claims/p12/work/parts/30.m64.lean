section
/-! the relation between class and reference -/
def rTp (n : Nat) (S : fS) : Prop := n ≤ 400 ∧ S.1 1 1 = o3 n ∧ S.1 145 1 = o3 n ∧ S.1 2 = S.1 146 ∧ ∀ k, byt (S.1 146 k)
def rSc (s : Sn) (S : fS) : Prop := okN s ∧ scC S 3 s ∧ scM (S.1 157) (S.2 158) s ∧ rHm S s.1.length (dst s.2.1)
def rRu (L : List (List Cl)) (S : fS) : Prop := L.length ≤ 6 ∧ S.1 0 10 = o3 L.length ∧ S.1 145 2 = o3 L.length ∧ ∀ r, r < L.length → cdC S (127 + 3 * r) (ccode (L.getD r [])) ∧ cdM S r (L.getD r [])
/-- an image: of class and reference -/
def im1 (S : fS) (i : Nat) (s : Sn) : Prop := okN s ∧ scC S (51 + 19 * i) s ∧ scM (fun k => S.1 168 (158 * i + k)) (fun k => S.2 169 (8 * i + k)) s
def rIm (M : Nat → Option Sn) (S : fS) : Prop := ∀ i, i < 4 → (M i = none ∧ S.1 (51 + 19 * i) 4 = 0 ∧ S.1 170 i = 0) ∨ ∃ s, M i = some s ∧ S.1 (51 + 19 * i) 4 = 1 ∧ S.1 170 i = 1 ∧ im1 S i s
def Rel (S : fS) : Prop := ∃ n s L M, rTp n S ∧ rSc s S ∧ rRu L S ∧ rIm M S
theorem rTp_eq {n : Nat} {S T : fS} (h : rTp n S) (h1 : T.1 1 1 = S.1 1 1) (h2 : T.1 145 1 = S.1 145 1) (h3 : ∀ k, T.1 2 k = S.1 2 k) (h4 : ∀ k, T.1 146 k = S.1 146 k) : rTp n T := by
  obtain ⟨a, b, c, d, e⟩ := h
  exact ⟨a, h1.trans b, h2.trans c, (funext h3).trans (d.trans (funext h4).symm), fun k => by rw [h4]; exact e k⟩
theorem poC_eq {S T : fS} {b : Nat} {D : Mx} {P : Po} (h : poC S b D P) (h1 : ∀ a k, b ≤ a → a ≤ b + 4 → T.1 a k = S.1 a k) : poC T b D P := by
  obtain ⟨a, d⟩ := h
  refine ⟨(h1 _ _ (by omega) (by omega)).trans a, fun k hk => ?_⟩
  obtain ⟨e1, e2, e3, e4⟩ := d k hk
  exact ⟨(h1 _ _ (by omega) (by omega)).trans e1, (h1 _ _ (by omega) (by omega)).trans e2, (h1 _ _ (by omega) (by omega)).trans e3, (h1 _ _ (by omega) (by omega)).trans e4⟩
theorem scC_eq {S T : fS} {b : Nat} {s : Sn} (h : scC S b s) (h1 : ∀ a k, b < a → a ≤ b + 18 → T.1 a k = S.1 a k) (h2 : ∀ a k, b < a → a ≤ b + 18 → T.2 a k = S.2 a k) (h3 : 0 ≤ (T.1 b 3).toInt) : scC T b s := by
  obtain ⟨a, c, d, e, _⟩ := h
  exact ⟨twC_eq a (fun x k p q => h1 x k (by omega) (by omega)) (fun x k p q => h2 x k (by omega) (by omega)), rWm_eq c (fun k => h1 _ k (by omega) (by omega)), cwC_eq d (fun x k p q => h1 x k (by omega) (by omega)) (fun k => h2 _ k (by omega) (by omega)), poC_eq e (fun x k p q => h1 x k (by omega) (by omega)), h3⟩
theorem rSc_eq {s : Sn} {S T : fS} (h : rSc s S) (h1 : ∀ a k, 3 < a → a ≤ 21 → T.1 a k = S.1 a k) (h2 : ∀ a k, 3 < a → a ≤ 21 → T.2 a k = S.2 a k) (h3 : 0 ≤ (T.1 3 3).toInt) (h4 : ∀ k, T.1 157 k = S.1 157 k) (h5 : ∀ a k, a = 158 ∨ a = 161 → T.2 a k = S.2 a k) : rSc s T := by
  obtain ⟨a, b, c, d⟩ := h
  refine ⟨a, scC_eq b (fun x k p q => h1 x k (by omega) (by omega)) (fun x k p q => h2 x k (by omega) (by omega)) h3, ?_, rHm_eq d (fun k => h5 _ k (by omega))⟩
  rw [show T.1 157 = S.1 157 from funext h4, show T.2 158 = S.2 158 from funext fun k => h5 158 k (Or.inl rfl)]
  exact c
theorem rRu_eq {L : List (List Cl)} {S T : fS} (h : rRu L S) (h1 : T.1 0 10 = S.1 0 10) (h2 : T.1 145 2 = S.1 145 2) (h3 : ∀ a k, 127 ≤ a → a ≤ 144 → k ≠ 3 ∨ ¬ a % 3 = 1 → T.1 a k = S.1 a k) (h4 : ∀ a k, a = 147 ∨ (a = 148 ∧ k < 6) ∨ a = 149 ∨ a = 150 → T.1 a k = S.1 a k) : rRu L T := by
  obtain ⟨a, b, c, d⟩ := h
  refine ⟨a, h1.trans b, h2.trans c, fun r hr => ?_⟩
  obtain ⟨x, y⟩ := d r hr
  exact ⟨cdC_eq x (h3 _ _ (by omega) (by omega) (by omega)) (fun k => h3 _ _ (by omega) (by omega) (by omega)), cdM_eq y (fun a k h => h4 a k (by omega))⟩
theorem im1_eq {S T : fS} {i : Nat} {s : Sn} (hi : i < 4) (h : im1 S i s) (h1 : ∀ a k, 51 ≤ a → a ≤ 126 → T.1 a k = S.1 a k) (h2 : ∀ a k, 51 ≤ a → a ≤ 126 → T.2 a k = S.2 a k) (h3 : ∀ k, T.1 168 k = S.1 168 k) (h4 : ∀ k, T.2 169 k = S.2 169 k) : im1 T i s := by
  obtain ⟨a, b, c⟩ := h
  refine ⟨a, scC_eq b (fun x k p q => h1 x k (by omega) (by omega)) (fun x k p q => h2 x k (by omega) (by omega)) (by rw [h1 _ _ (by omega) (by omega)]; exact b.2.2.2.2), ?_⟩
  rw [show (fun k => T.1 168 (158 * i + k)) = (fun k => S.1 168 (158 * i + k)) from funext fun k => h3 _, show (fun k => T.2 169 (8 * i + k)) = (fun k => S.2 169 (8 * i + k)) from funext fun k => h4 _]
  exact c
theorem rIm_eq {M : Nat → Option Sn} {S T : fS} (h : rIm M S) (h1 : ∀ a k, 51 ≤ a → a ≤ 126 → T.1 a k = S.1 a k) (h2 : ∀ a k, 51 ≤ a → a ≤ 126 → T.2 a k = S.2 a k) (h3 : ∀ k, T.1 168 k = S.1 168 k) (h4 : ∀ k, T.2 169 k = S.2 169 k) (h5 : ∀ k, T.1 170 k = S.1 170 k) : rIm M T := fun i hi => by
  rcases h i hi with ⟨a, b, c⟩ | ⟨s, a, b, c, d⟩
  · exact Or.inl ⟨a, (h1 _ _ (by omega) (by omega)).trans b, (h5 i).trans c⟩
  · exact Or.inr ⟨s, a, (h1 _ _ (by omega) (by omega)).trans b, (h5 i).trans c, im1_eq hi d h1 h2 h3 h4⟩
/-! feed() -/
theorem zt_byt {v k : Int32} : byt (zt v k) := by
  unfold zt byt
  rw [Int8.toInt_toInt32]
  have h1 := Int8.le_toInt (Int32.toInt8 (Int8.toInt32 (Int32.toInt8 (v >>> (k &&& 31)))))
  have h2 := Int8.toInt_lt (Int32.toInt8 (Int8.toInt32 (Int32.toInt8 (v >>> (k &&& 31)))))
  exact ⟨h1, by omega⟩
/-- c: the class's tape; m: the reference's -/
def fdC (S T : fS) (n n' : Nat) (f : Nat → Int32) : Prop := T.1 1 1 = o3 n' ∧ T.1 2 = f ∧ (∀ a k, ¬ (a = 2 ∨ (a = 1 ∧ k = 1)) → T.1 a k = S.1 a k) ∧ T.2 = S.2
def fdM (S T : fS) (n n' : Nat) (f : Nat → Int32) : Prop := T.1 145 1 = o3 n' ∧ T.1 146 = f ∧ (∀ a k, ¬ (a = 146 ∨ (a = 145 ∧ k = 1)) → T.1 a k = S.1 a k) ∧ T.2 = S.2
def p4 (f : Nat → Int32) (n : Nat) (v : Int32) : Nat → Int32 := udN (udN (udN (udN f n (zt v 24)) (n + 1) (zt v 16)) (n + 2) (zt v 8)) (n + 3) (zt v 0)
theorem pI_upd {S : fS} {a k : Nat} {x : Int32} : (pI S a k x).1 a = udN (S.1 a) k x := by
  funext j
  rw [pI_get]
  unfold udN
  by_cases h : j = k
  · rw [if_pos ⟨rfl, h⟩, if_pos h]
  · rw [if_neg (fun q => h q.2), if_neg h]
theorem fd_zc {S T : fS} {n n' : Nat} {f : Nat → Int32} {b : Int32} (h : fdC S T n n' f) (hn : n' < 400) : fdC S (zc T b) n (n' + 1) (udN f n' b) := by
  obtain ⟨h1, h2, h3, h4⟩ := h
  unfold zc
  rw [h1, o3_nat (by omega), o3_s]
  refine ⟨pI_eq, ?_, fun a k hk => ?_, h4⟩
  · rw [pI_row (by omega), pI_upd, h2]
  · rw [pI_ne (by omega), pI_ne (by omega)]; exact h3 a k hk
theorem fd_zm {S T : fS} {n n' : Nat} {f : Nat → Int32} {b : Int32} (h : fdM S T n n' f) (hn : n' < 400) : fdM S (zm T b) n (n' + 1) (udN f n' b) := by
  obtain ⟨h1, h2, h3, h4⟩ := h
  unfold zm
  rw [h1, o3_nat (by omega), o3_s]
  refine ⟨pI_eq, ?_, fun a k hk => ?_, h4⟩
  · rw [pI_row (by omega), pI_upd, h2]
  · rw [pI_ne (by omega), pI_ne (by omega)]; exact h3 a k hk
theorem fd_zc4 {S T : fS} {n n' : Nat} {f : Nat → Int32} {v : Int32} (h : fdC S T n n' f) (hn : n' + 4 ≤ 400) : fdC S (zc4 T v) n (n' + 4) (p4 f n' v) := fd_zc (fd_zc (fd_zc (fd_zc h (by omega)) (by omega)) (by omega)) (by omega)
theorem fd_zm4 {S T : fS} {n n' : Nat} {f : Nat → Int32} {v : Int32} (h : fdM S T n n' f) (hn : n' + 4 ≤ 400) : fdM S (zm4 T v) n (n' + 4) (p4 f n' v) := fd_zm (fd_zm (fd_zm (fd_zm h (by omega)) (by omega)) (by omega)) (by omega)
theorem p4_byt {f : Nat → Int32} {n : Nat} {v : Int32} (h : ∀ k, byt (f k)) : ∀ k, byt (p4 f n v k) := by
  have u : ∀ (g : Nat → Int32) m k', (∀ k, byt (g k)) → ∀ k, byt (udN g m (zt v k') k) := fun g m k' hg k => by
    unfold udN
    split
    · exact zt_byt
    · exact hg k
  exact u _ _ _ (u _ _ _ (u _ _ _ (u _ _ _ h)))
theorem t_0 (a1 a2 a3 a4 a5 : Int32) (S : fS) (hR : Rel S) : ∃ r S1 S2, f_X10_feed a1 a2 a3 a4 a5 S = some (r, S1) ∧ f_X11_feed a1 a2 a3 a4 a5 S1 = some (r, S2) ∧ Rel S2 := by
  obtain ⟨n, s, L, M, hT, hS, hL, hM⟩ := hR
  obtain ⟨t1, t2, t3, t4, t5⟩ := hT
  by_cases h : n ≤ 380
  · have hc : fdC S S n n (S.1 2) := ⟨t2, rfl, fun _ _ _ => rfl, rfl⟩
    have hc5 := fd_zc4 (v := a5) (fd_zc4 (v := a4) (fd_zc4 (v := a3) (fd_zc4 (v := a2) (fd_zc4 (v := a1) hc (by omega)) (by omega)) (by omega)) (by omega)) (by omega)
    rw [op_feed (by rw [t2, o3_int (by omega)]; omega) (by rw [t2, o3_int (by omega)]; omega)]
    generalize zc4 (zc4 (zc4 (zc4 (zc4 S a1) a2) a3) a4) a5 = S1 at hc5
    obtain ⟨c1, c2, c3, c4⟩ := hc5
    have hm : fdM S1 S1 n n (S.1 2) := ⟨(c3 _ _ (by omega)).trans t3, by rw [show S1.1 146 = S.1 146 from funext fun k => c3 _ _ (by omega)]; exact t4.symm, fun _ _ _ => rfl, rfl⟩
    have hm5 := fd_zm4 (v := a5) (fd_zm4 (v := a4) (fd_zm4 (v := a3) (fd_zm4 (v := a2) (fd_zm4 (v := a1) hm (by omega)) (by omega)) (by omega)) (by omega)) (by omega)
    have hfm := om_feed (a := a1) (b := a2) (c := a3) (d := a4) (e := a5) (S := S1) (by rw [hm.1, o3_int (by omega)]; omega) (by rw [hm.1, o3_int (by omega)]; omega)
    generalize zm4 (zm4 (zm4 (zm4 (zm4 S1 a1) a2) a3) a4) a5 = S2 at hm5 hfm
    obtain ⟨m1, m2, m3, m4⟩ := hm5
    have e1 : ∀ a k, ¬ (a = 2 ∨ a = 146 ∨ (a = 1 ∧ k = 1) ∨ (a = 145 ∧ k = 1)) → S2.1 a k = S.1 a k := fun a k hk => (m3 a k (by omega)).trans (c3 a k (by omega))
    have e2 : ∀ a k, S2.2 a k = S.2 a k := fun a k => by rw [m4, c4]
    refine ⟨_, S1, S2, rfl, by rw [hfm, m1, c1], n + 4 + 4 + 4 + 4 + 4, s, L, M, ⟨by omega, ?_, m1, ?_, ?_⟩, ?_, ?_, ?_⟩
    · rw [m3 1 1 (by omega)]; exact c1
    · rw [m2, show S2.1 2 = S1.1 2 from funext fun k => m3 _ _ (by omega), c2]
    · rw [m2]
      have hb : ∀ k, byt (S.1 2 k) := by rw [t4]; exact t5
      exact p4_byt (p4_byt (p4_byt (p4_byt (p4_byt hb))))
    · exact rSc_eq hS (fun a k _ _ => e1 a k (by omega)) (fun a k _ _ => e2 a k) (by rw [e1 3 3 (by omega)]; exact hS.2.1.2.2.2.2) (fun k => e1 _ _ (by omega)) (fun a k _ => e2 a k)
    · exact rRu_eq hL (e1 _ _ (by omega)) (e1 _ _ (by omega)) (fun a k _ _ _ => e1 a k (by omega)) (fun a k _ => e1 a k (by omega))
    · exact rIm_eq hM (fun a k _ _ => e1 a k (by omega)) (fun a k _ _ => e2 a k) (fun k => e1 _ _ (by omega)) (fun k => e2 _ k) (fun k => e1 _ _ (by omega))
  · unfold f_X10_feed
    rw [t2, show (20 : Int32) = o3 20 from rfl, o3_add, if_neg (show ¬ o3 (n + 20) ≤ (400 : Int32) from fun q => by have := (o3_le (b := 400) (by omega) (by omega)).mp q; omega)]
    refine ⟨-1, S, S, rfl, ?_, n, s, L, M, ⟨t1, t2, t3, t4, t5⟩, hS, hL, hM⟩
    unfold f_X11_feed
    rw [t3, show (20 : Int32) = o3 20 from rfl, o3_add, if_neg (show ¬ o3 (n + 20) ≤ (400 : Int32) from fun q => by have := (o3_le (b := 400) (by omega) (by omega)).mp q; omega)]
/-! end() -/
theorem t_1 (a1 : Int32) (S : fS) (hR : Rel S) : ∃ r S1 S2, f_X10_end a1 S = some (r, S1) ∧ f_X11_end a1 S1 = some (r, S2) ∧ Rel S2 := by
  obtain ⟨n, s, L, M, ⟨t1, t2, t3, t4, t5⟩, hS, hL, hM⟩ := hR
  unfold f_X10_end
  rw [t2]
  rcases op_isFrom01 (v := a1) (a := 0) (b := o3 n) (S := S) with ⟨h, g⟩ | ⟨h, g1, g2⟩
  · rw [h, bd_some, if_pos rfl]
    refine ⟨-1, S, S, rfl, ?_, n, s, L, M, ⟨t1, t2, t3, t4, t5⟩, hS, hL, hM⟩
    unfold f_X11_end
    rw [t3]
    by_cases hz : a1 < 0
    · rw [if_pos hz]
    · rw [if_neg hz, if_neg (fun q => g ⟨by rw [ni_lt] at hz; omega, ni_le.mp q⟩)]
  · rw [h, bd_some, if_neg (show ¬ (1 : Int32) = 0 by decide), bd_some]
    rw [ni_0] at g1
    rw [o3_int (by omega)] at g2
    obtain ⟨m, hm, hm2⟩ := o3_ex g1
    refine ⟨a1, pI S 1 1 a1, pI (pI S 1 1 a1) 145 1 a1, rfl, ?_, m, s, L, M, ⟨by omega, ?_, ?_, ?_, ?_⟩, ?_, ?_, ?_⟩
    · unfold f_X11_end
      rw [pI_ne (by omega), t3, if_neg (by rw [ni_lt, ni_0]; omega), if_pos (by rw [ni_le, o3_int (by omega)]; exact g2), bd_some]
    · rw [pI_ne (by omega), pI_eq]; exact hm
    · rw [pI_eq]; exact hm
    · rw [pI_row (by omega), pI_row (by omega), pI_row (by omega), pI_row (by omega)]; exact t4
    · rw [pI_row (by omega), pI_row (by omega)]; exact t5
    · exact rSc_eq hS (fun a k _ _ => by rw [pI_ne (by omega), pI_ne (by omega)]) (fun _ _ _ _ => rfl) (by rw [pI_ne (by omega), pI_ne (by omega)]; exact hS.2.1.2.2.2.2) (fun k => by rw [pI_ne (by omega), pI_ne (by omega)]) (fun _ _ _ => rfl)
    · exact rRu_eq hL (by rw [pI_ne (by omega), pI_ne (by omega)]) (by rw [pI_ne (by omega), pI_ne (by omega)]) (fun a k _ _ _ => by rw [pI_ne (by omega), pI_ne (by omega)]) (fun a k _ => by rw [pI_ne (by omega), pI_ne (by omega)])
    · exact rIm_eq hM (fun a k _ _ => by rw [pI_ne (by omega), pI_ne (by omega)]) (fun _ _ _ _ => rfl) (fun k => by rw [pI_ne (by omega), pI_ne (by omega)]) (fun _ => rfl) (fun k => by rw [pI_ne (by omega), pI_ne (by omega)])
end
