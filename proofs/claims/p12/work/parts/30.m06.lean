section
/-! the class reads a tower -/
def d5 : Nat × Nat × Nat × Nat × Nat := (0, 0, 0, 0, 0)
def twC (S : fS) (b : Nat) (F : List (Nat × Nat)) (E : List (Nat × Nat × Nat × Nat × Nat)) : Prop := S.1 b 6 = o3 F.length ∧ S.1 b 7 = o3 E.length ∧ (∀ k, k < F.length → S.2 (b + 1) k = pc (F.getD k (0, 0))) ∧ (∀ k, k < E.length → S.1 (b + 2) k = o3 (E.getD k d5).1 ∧ S.1 (b + 3) k = o3 (E.getD k d5).2.1 ∧ S.1 (b + 4) k = o3 (E.getD k d5).2.2.1 ∧ S.2 (b + 5) k = pc (E.getD k d5).2.2.2)
def cwC0 (S : fS) (c : Nat) (H : List Nat) : Prop := S.1 c 5 = o3 H.length ∧ S.1 c 6 = 0 ∧ ∀ k, k < H.length → S.1 (c + 1) k = o3 (H.getD k 0) ∧ S.1 (c + 2) k = -1 ∧ S.1 (c + 3) k = 0 ∧ S.1 (c + 4) k = -1 ∧ S.2 (c + 5) k = 0
def TBc (S : fS) (B : TB) : Prop := twC S 24 B.1 B.2.1 ∧ cwC0 S 31 B.2.2
theorem tS_pI {S : fS} {i s f x : Int32} {a k : Nat} (h : a ≠ 1) : pI (tS S i s f) a k x = tS (pI S a k x) i s f := by
  unfold tS
  rw [pI_sw (fun q => h q.1.symm), pI_sw (a := 1) (k := 3) (fun q => h q.1.symm), pI_sw (a := 1) (k := 2) (fun q => h q.1.symm)]
theorem tS_pL {S : fS} {i s f : Int32} {a k : Nat} {x : Int64} : pL (tS S i s f) a k x = tS (pL S a k x) i s f := rfl
theorem tS_ne {S : fS} {i s f : Int32} {a k : Nat} (h : a ≠ 1) : (tS S i s f).1 a k = S.1 a k := by
  unfold tS
  rw [pI_get, pI_get, pI_get, if_neg (fun q => h q.1), if_neg (fun q => h q.1), if_neg (fun q => h q.1)]
theorem tS_L {S : fS} {i s f : Int32} : (tS S i s f).2 = S.2 := rfl
theorem l1_20 : (1 : Int32).toInt = 1 ∧ (20 : Int32).toInt = 20 ∧ (9 : Int32).toInt = 9 := ⟨rfl, rfl, rfl⟩
section CW
variable {S : fS} {n : Nat} {s f : Int32}
theorem ct_pace (hn : S.1 1 1 = o3 n) (hl : n ≤ 400) {i : Nat} (hi : i ≤ n) : f_X9_readPace (tS S (o3 i) s f) = some (if nmf (S.1 2) n i 1 20 = 0 then (if nmf (S.1 2) n (nmp (S.1 2) n i) 1 20 = 0 then (pc (nmv (S.1 2) n i, nmv (S.1 2) n (nmp (S.1 2) n i)), tS S (o3 (nmp (S.1 2) n (nmp (S.1 2) n i))) (o3 (sk (S.1 2) n (nmp (S.1 2) n i))) f) else (-1, tS S (o3 (nmp (S.1 2) n (nmp (S.1 2) n i))) (o3 (sk (S.1 2) n (nmp (S.1 2) n i))) (o3 (nmf (S.1 2) n (nmp (S.1 2) n i) 1 20)))) else (-1, tS S (o3 (nmp (S.1 2) n i)) (o3 (sk (S.1 2) n i)) (o3 (nmf (S.1 2) n i 1 20)))) := by
  have h2 := nmp_le (t := S.1 2) hi
  unfold f_X9_readPace
  rw [ct_num hn hl hi, bd_some, l1_20.1, l1_20.2.1]
  by_cases c1 : nmf (S.1 2) n i 1 20 = 0
  · have g1 := (nmf_0 c1).2.2
    rw [if_pos c1, if_pos c1]
    dsimp only
    rw [if_pos (o3_0le (by omega)), ct_num hn hl h2, bd_some, l1_20.1, l1_20.2.1]
    by_cases c2 : nmf (S.1 2) n (nmp (S.1 2) n i) 1 20 = 0
    · have g2 := (nmf_0 c2).2.2
      rw [if_pos c2, if_pos c2]
      dsimp only
      rw [if_pos (show (0 : Int32) < o3 _ from (o3_lt (a := 0) (by omega) (by omega)).mpr (by omega)), o6_of3 (by omega), o6_of3 (by omega), show (232792560 : Int64) = o6 232792560 from rfl, o6_dL (by omega) (by omega) (by omega), bd_some, o6_mul]
      rfl
    · rw [if_neg c2, if_neg c2]
      rfl
  · rw [if_neg c1, if_neg c1]
    rfl
theorem pc_lt {q : Nat × Nat} (h : okF q) : q.1 * (232792560 / q.2) < 9223372036854775808 := by
  have h1 : 232792560 / q.2 ≤ 232792560 := Nat.div_le_self _ _
  have h2 := h.2.1
  generalize 232792560 / q.2 = x at h1
  have h3 : q.1 * x ≤ 20 * 232792560 := Nat.mul_le_mul h2 h1
  omega
theorem pc_nn {q : Nat × Nat} (h : okF q) : (0 : Int64) ≤ pc q := o6_0le (pc_lt h)
def upF (S : fS) (k : Nat) (p : Int64) : fS := pI (pL S 25 k p) 24 6 (o3 (k + 1))
theorem upF_B {B : TB} {q : Nat × Nat} (hB : TBc S B) : TBc (upF S B.1.length (pc q)) (B.1 ++ [q], B.2) := by
  obtain ⟨⟨h1, h2, h3, h4⟩, h5, h6, h7⟩ := hB
  refine ⟨⟨?_, h2, fun k hk => ?_, fun k hk => h4 k hk⟩, h5, h6, fun k hk => h7 k hk⟩
  · show o3 (B.1.length + 1) = _
    rw [ln_app]
  · rw [ln_app] at hk
    show (pL S 25 B.1.length (pc q)).2 25 k = _
    rw [pL_get, gd_app]
    by_cases hc : k = B.1.length
    · rw [if_pos ⟨rfl, hc⟩, if_pos hc]
    · rw [if_neg (fun q => hc q.2), if_neg hc]
      exact h3 k (by omega)
theorem ct_floor (hn : S.1 1 1 = o3 n) (hl : n ≤ 400) {B : TB} (hB : TBc S B) (h10 : B.1.length < 10) {i : Nat} (hi : i ≤ n) : ∃ S' i' s', f_X9_readFloor (tS S (o3 i) s f) = some (if (tFl (S.1 2) n B i).1 = 0 then (1, tS S' (o3 (tFl (S.1 2) n B i).2.1) s' f) else (0, tS S i' s' (o3 (tFl (S.1 2) n B i).1))) ∧ ((tFl (S.1 2) n B i).1 = 0 → TBc S' (tFl (S.1 2) n B i).2.2) := by
  unfold f_X9_readFloor
  rw [ct_pace hn hl hi, bd_some]
  unfold tFl
  by_cases c1 : nmf (S.1 2) n i 1 20 = 0
  · have g1 := (nmf_0 c1).2.2
    rw [if_pos c1, if_pos c1]
    by_cases c2 : nmf (S.1 2) n (nmp (S.1 2) n i) 1 20 = 0
    · have g2 := (nmf_0 c2).2.2
      rw [if_pos c2, if_pos c2]
      dsimp only
      rw [if_pos (pc_nn ⟨by show 1 ≤ nmv _ _ _; omega, by show nmv _ _ _ ≤ 20; omega, by show 1 ≤ nmv _ _ _; omega, by show nmv _ _ _ ≤ 20; omega⟩), tS_ne (by decide), hB.1.1, sL_o (by omega) (by omega), bd_some, bd_some, tS_pL, tS_ne (by decide), tS_pI (by decide), pL_1, hB.1.1, o3_s]
      exact ⟨upF S B.1.length (pc (nmv (S.1 2) n i, nmv (S.1 2) n (nmp (S.1 2) n i))), 0, _, rfl, fun _ => upF_B hB⟩
    · rw [if_neg c2, if_neg c2]
      exact ⟨S, _, _, by dsimp only; rw [if_neg (by decide), if_neg c2], fun q => absurd q c2⟩
  · rw [if_neg c1, if_neg c1]
    exact ⟨S, _, _, by dsimp only; rw [if_neg (by decide), if_neg c1], fun q => absurd q c1⟩
def upS (S : fS) (k : Nat) (a b c : Int32) (p : Int64) : fS := pI (pL (pI (pI (pI S 26 k a) 27 k b) 28 k c) 29 k p) 24 7 (o3 (k + 1))
theorem upS_B {B : TB} {a b c d e : Nat} (hB : TBc S B) : TBc (upS S B.2.1.length (o3 a) (o3 b) (o3 c) (pc (d, e))) (B.1, B.2.1 ++ [(a, b, c, d, e)], B.2.2) := by
  obtain ⟨⟨h1, h2, h3, h4⟩, h5, h6, h7⟩ := hB
  refine ⟨⟨h1, ?_, fun k hk => h3 k hk, fun k hk => ?_⟩, h5, h6, fun k hk => h7 k hk⟩
  · show o3 (B.2.1.length + 1) = _
    rw [ln_app]
  · rw [ln_app] at hk
    show (pI S 26 B.2.1.length (o3 a)).1 26 k = _ ∧ (pI S 27 B.2.1.length (o3 b)).1 27 k = _ ∧ (pI S 28 B.2.1.length (o3 c)).1 28 k = _ ∧ (pL S 29 B.2.1.length (pc (d, e))).2 29 k = _
    rw [pI_get, pI_get, pI_get, pL_get, gd_app]
    by_cases hc : k = B.2.1.length
    · rw [if_pos hc, if_pos ⟨rfl, hc⟩, if_pos ⟨rfl, hc⟩, if_pos ⟨rfl, hc⟩, if_pos ⟨rfl, hc⟩]
      exact ⟨rfl, rfl, rfl, rfl⟩
    · rw [if_neg hc, if_neg (fun q => hc q.2), if_neg (fun q => hc q.2), if_neg (fun q => hc q.2), if_neg (fun q => hc q.2)]
      exact h4 k (by omega)
theorem ct_addStair {a b c : Int32} {p : Int64} {k : Nat} {i : Int32} (hk : S.1 24 7 = o3 k) (h12 : k < 12) : f_X8_addStair 24 a b c p (tS S i s f) = some (tS (upS S k a b c p) i s f) := by
  unfold f_X8_addStair
  rw [tS_ne (by decide), hk, if_neg (show ¬ (12 : Int32) ≤ o3 _ from fun q => by have := (o3_le (a := 12) (by omega) (by omega)).mp q; omega)]
  rw [sI_o (by omega) (by omega), bd_some, tS_pI (by decide), tS_ne (by decide), show (pI S (24 + 2) k a).1 24 7 = S.1 24 7 from rfl, hk]
  rw [sI_o (by omega) (by omega), bd_some, tS_pI (by decide), tS_ne (by decide), show (pI (pI S (24 + 2) k a) (24 + 3) k b).1 24 7 = S.1 24 7 from rfl, hk]
  rw [sI_o (by omega) (by omega), bd_some, tS_pI (by decide), tS_ne (by decide), show (pI (pI (pI S (24 + 2) k a) (24 + 3) k b) (24 + 4) k c).1 24 7 = S.1 24 7 from rfl, hk]
  rw [sL_o (by omega) (by omega), bd_some, tS_pL, tS_ne (by decide), show (pL (pI (pI (pI S (24 + 2) k a) (24 + 3) k b) (24 + 4) k c) (24 + 5) k p).1 24 7 = S.1 24 7 from rfl, hk, bd_some, tS_pI (by decide), o3_s]
  rfl
theorem o3_p {k : Nat} (h : k < 1000000) : (o3 k - 1).toInt = k - 1 := by
  rw [ni_sub (b := 1) (by rw [o3_int (by omega)]; show _ ≤ _ - (1 : Int); omega) (by rw [o3_int (by omega)]; show _ - (1 : Int) < _; omega), o3_int (by omega)]
  rfl
theorem ct_stair (hn : S.1 1 1 = o3 n) (hl : n ≤ 400) {B : TB} (hB : TBc S B) (hok : okB B) (h12 : B.2.1.length < 12) {i : Nat} (hi : i ≤ n) : ∃ S' i' s', f_X9_readStair (tS S (o3 i) s f) = some (if (tSt (S.1 2) n B i).1 = 0 then (1, tS S' (o3 (tSt (S.1 2) n B i).2.1) s' f) else (0, tS S i' s' (o3 (tSt (S.1 2) n B i).1))) ∧ ((tSt (S.1 2) n B i).1 = 0 → TBc S' (tSt (S.1 2) n B i).2.2) := by
  have hm : B.1.length < 1000000 := by have := hok.1; omega
  have hi1 := nmp_le (t := S.1 2) hi
  have hi2 := nmp_le (t := S.1 2) hi1
  have hi3 := nmp_le (t := S.1 2) hi2
  unfold f_X9_readStair
  rw [tS_ne (by decide), hB.1.1, ct_num hn hl hi, bd_some, o3_p hm, ni_0]
  unfold tSt
  by_cases c1 : nmf (S.1 2) n i 0 (B.1.length - 1) = 0
  · have g1 := (nmf_0 c1).2.2
    rw [if_pos c1, if_pos c1]
    dsimp only
    rw [if_pos (o3_0le (by omega)), tS_ne (by decide), hB.1.1, ct_num hn hl hi1, bd_some, o3_p hm, ni_0]
    by_cases c2 : nmf (S.1 2) n (nmp (S.1 2) n i) 0 (B.1.length - 1) = 0
    · have g2 := (nmf_0 c2).2.2
      rw [if_pos c2, if_pos c2]
      dsimp only
      rw [if_pos (o3_0le (by omega))]
      by_cases c3 : nmv (S.1 2) n i = nmv (S.1 2) n (nmp (S.1 2) n i)
      · rw [if_pos ((o3_inj (by omega) (by omega)).mpr c3), if_pos c3, ct_fail, bd_some, tS_3]
        refine ⟨S, o3 (nmp (S.1 2) n (nmp (S.1 2) n i)), o3 (sk (S.1 2) n (nmp (S.1 2) n i)), ?_, fun q => absurd q (by show ¬ (1 + 8 * _ + 1 = 0); omega)⟩
        rw [if_neg (by show ¬ (1 + 8 * _ + 1 = 0); omega)]
        show some (0, pI (tS S _ _ f) 1 4 _) = _
        rw [tS_fa, show (1 : Int32) = o3 1 from rfl, show (8 : Int32) = o3 8 from rfl, o3_mul, o3_add, o3_add]
      · rw [if_neg (fun q => c3 ((o3_inj (by omega) (by omega)).mp q)), if_neg c3, ct_num hn hl hi2, bd_some, l1_20.1, l1_20.2.2]
        by_cases c4 : nmf (S.1 2) n (nmp (S.1 2) n (nmp (S.1 2) n i)) 1 9 = 0
        · have g4 := (nmf_0 c4).2.2
          rw [if_pos c4, if_pos c4]
          dsimp only
          rw [if_pos (o3_0le (by omega)), ct_pace hn hl hi3, bd_some]
          unfold tPc
          generalize nmp (S.1 2) n (nmp (S.1 2) n (nmp (S.1 2) n i)) = p at hi3
          by_cases c5 : nmf (S.1 2) n p 1 20 = 0
          · have g5 := (nmf_0 c5).2.2
            rw [if_pos c5, if_pos c5]
            by_cases c6 : nmf (S.1 2) n (nmp (S.1 2) n p) 1 20 = 0
            · have g6 := (nmf_0 c6).2.2
              rw [if_pos c6, if_pos c6]
              dsimp only
              rw [if_pos (pc_nn ⟨by show 1 ≤ nmv _ _ _; omega, by show nmv _ _ _ ≤ 20; omega, by show 1 ≤ nmv _ _ _; omega, by show nmv _ _ _ ≤ 20; omega⟩), ct_addStair hB.1.2.1 h12, bd_some]
              exact ⟨_, 0, _, rfl, fun _ => upS_B hB⟩
            · rw [if_neg c6, if_neg c6]
              exact ⟨S, _, _, by dsimp only; rw [if_neg (by decide), if_neg c6], fun q => absurd q c6⟩
          · rw [if_neg c5, if_neg c5]
            exact ⟨S, _, _, by dsimp only; rw [if_neg (by decide), if_neg c5], fun q => absurd q c5⟩
        · rw [if_neg c4, if_neg c4]
          exact ⟨S, _, _, by dsimp only; rw [if_neg (by decide), if_neg c4], fun q => absurd q c4⟩
    · rw [if_neg c2, if_neg c2]
      exact ⟨S, _, _, by dsimp only; rw [if_neg (by decide), if_neg c2], fun q => absurd q c2⟩
  · rw [if_neg c1, if_neg c1]
    exact ⟨S, _, _, by dsimp only; rw [if_neg (by decide), if_neg c1], fun q => absurd q c1⟩
def upT (S : fS) (k : Nat) (a : Int32) : fS := pI (pL (pI (pI (pI (pI S 32 k a) 33 k (-1)) 34 k 0) 35 k (-1)) 36 k 0) 31 5 (o3 (k + 1))
theorem upT_B {B : TB} {a : Nat} (hB : TBc S B) : TBc (upT S B.2.2.length (o3 a)) (B.1, B.2.1, B.2.2 ++ [a]) := by
  obtain ⟨⟨h1, h2, h3, h4⟩, h5, h6, h7⟩ := hB
  refine ⟨⟨h1, h2, fun k hk => h3 k hk, fun k hk => h4 k hk⟩, ?_, h6, fun k hk => ?_⟩
  · show o3 (B.2.2.length + 1) = _
    rw [ln_app]
  · rw [ln_app] at hk
    show (pI S 32 B.2.2.length (o3 a)).1 32 k = _ ∧ (pI S 33 B.2.2.length (-1)).1 33 k = _ ∧ (pI S 34 B.2.2.length 0).1 34 k = _ ∧ (pI S 35 B.2.2.length (-1)).1 35 k = _ ∧ (pL S 36 B.2.2.length 0).2 36 k = _
    rw [pI_get, pI_get, pI_get, pI_get, pL_get, gd_app]
    by_cases hc : k = B.2.2.length
    · rw [if_pos hc, if_pos ⟨rfl, hc⟩, if_pos ⟨rfl, hc⟩, if_pos ⟨rfl, hc⟩, if_pos ⟨rfl, hc⟩, if_pos ⟨rfl, hc⟩]
      exact ⟨rfl, rfl, rfl, rfl, rfl⟩
    · rw [if_neg hc, if_neg (fun q => hc q.2), if_neg (fun q => hc q.2), if_neg (fun q => hc q.2), if_neg (fun q => hc q.2), if_neg (fun q => hc q.2)]
      exact h7 k (by omega)
theorem ct_addThing {a : Int32} {k : Nat} {i : Int32} (hk : S.1 31 5 = o3 k) (h8 : k < 8) : f_X0_addThing 31 a (tS S i s f) = some (tS (upT S k a) i s f) := by
  unfold f_X0_addThing f_X0_putOn
  rw [tS_ne (by decide), hk, if_neg (show ¬ (8 : Int32) ≤ o3 _ from fun q => by have := (o3_le (a := 8) (by omega) (by omega)).mp q; omega)]
  rw [sI_o (by omega) (by omega), bd_some, tS_pI (by decide), sI_o (by omega) (by omega), bd_some, tS_pI (by decide), sI_o (by omega) (by omega), bd_some, tS_pI (by decide), sI_o (by omega) (by omega), bd_some, tS_pI (by decide), bd_some, tS_ne (by decide)]
  rw [show (pI (pI (pI (pI S (31 + 1) k a) (31 + 2) k (-1)) (31 + 3) k 0) (31 + 4) k (-1)).1 31 5 = S.1 31 5 from rfl, hk, sL_o (by omega) (by omega), bd_some, tS_pL, tS_ne (by decide), bd_some, tS_pI (by decide)]
  rw [show (pL (pI (pI (pI (pI S (31 + 1) k a) (31 + 2) k (-1)) (31 + 3) k 0) (31 + 4) k (-1)) (31 + 5) k 0).1 31 5 = S.1 31 5 from rfl, hk, o3_s]
  rfl
theorem ct_thing (hn : S.1 1 1 = o3 n) (hl : n ≤ 400) {B : TB} (hB : TBc S B) (hok : okB B) (h8 : B.2.2.length < 8) {i : Nat} (hi : i ≤ n) : ∃ S' i' s', f_X9_readThing (tS S (o3 i) s f) = some (if (tTh (S.1 2) n B i).1 = 0 then (1, tS S' (o3 (tTh (S.1 2) n B i).2.1) s' f) else (0, tS S i' s' (o3 (tTh (S.1 2) n B i).1))) ∧ ((tTh (S.1 2) n B i).1 = 0 → TBc S' (tTh (S.1 2) n B i).2.2) := by
  have hm : B.1.length < 1000000 := by have := hok.1; omega
  unfold f_X9_readThing
  rw [tS_ne (by decide), hB.1.1, ct_num hn hl hi, bd_some, o3_p hm, ni_0]
  unfold tTh
  by_cases c1 : nmf (S.1 2) n i 0 (B.1.length - 1) = 0
  · have g1 := (nmf_0 c1).2.2
    rw [if_pos c1, if_pos c1]
    dsimp only
    rw [if_pos (o3_0le (by omega)), ct_addThing hB.2.1 h8, bd_some]
    exact ⟨_, 0, _, rfl, fun _ => upT_B hB⟩
  · rw [if_neg c1, if_neg c1]
    exact ⟨S, _, _, by dsimp only; rw [if_neg (by decide), if_neg c1], fun q => absurd q c1⟩
theorem cl_F {c : Int32} {X : fS} : j_X9_readClause_30 c 1 X = if (10 : Int32) ≤ X.1 24 6 then j_X9_readClause_155 X else if c < 24 then ((f_X9_readFloor X).bind fun q33 => (bZ q33.1).bind fun z36 => some (z36, q33.2)) else j_X9_readClause_155 X := rfl
theorem cl_S {c : Int32} {X : fS} : j_X9_readClause_31 c 0 1 X = if (12 : Int32) ≤ X.1 24 7 then j_X9_readClause_155 X else if c < 24 then ((f_X9_readStair X).bind fun q30 => j_X9_readClause_195 q30.1 q30.2) else j_X9_readClause_155 X := rfl
theorem cl_T {c : Int32} {X : fS} : j_X9_readClause_57 c 0 0 1 X = if X.1 31 5 < 8 then (if c < 24 then ((f_X9_readThing X).bind fun q22 => j_X9_readClause_195 q22.1 q22.2) else j_X9_readClause_155 X) else j_X9_readClause_155 X := rfl
theorem cl_N {c : Int32} {X : fS} : j_X9_readClause_56 c 0 0 X = some (0, pI X 1 4 (1 + 8 * X.1 1 2 + 0)) := rfl
theorem cl_155 {X : fS} : j_X9_readClause_155 X = some (0, pI X 1 4 (1 + 8 * X.1 1 3 + 4)) := rfl
end CW
end
