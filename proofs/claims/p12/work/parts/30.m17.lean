section
theorem pI_ne {S : fS} {a k b j : Nat} {x : Int32} (h : ¬ (b = a ∧ j = k)) : (pI S a k x).1 b j = S.1 b j := by rw [pI_get, if_neg h]
theorem pL_ne {S : fS} {a k b j : Nat} {x : Int64} (h : ¬ (b = a ∧ j = k)) : (pL S a k x).2 b j = S.2 b j := by rw [pL_get, if_neg h]
/-! a tower's faults are small -/
section TF
variable {t : Nat → Int32} {n : Nat} {B : TB} {i : Nat}
theorem tFl_fl (hi : i ≤ n) : (tFl t n B i).1 ≤ 8 * n + 10 := by
  have h1 := nmf_le (t := t) (lo := 1) (hi := 20) hi
  have h2 := nmf_le (t := t) (lo := 1) (hi := 20) (nmp_le (t := t) hi)
  unfold tFl
  split
  · split
    · exact Nat.zero_le _
    · show nmf t n (nmp t n i) 1 20 ≤ _; omega
  · show nmf t n i 1 20 ≤ _; omega
theorem tPc_fl {a b c : Nat} (hi : i ≤ n) : (tPc t n B a b c i).1 ≤ 8 * n + 10 := by
  have h1 := nmf_le (t := t) (lo := 1) (hi := 20) hi
  have h2 := nmf_le (t := t) (lo := 1) (hi := 20) (nmp_le (t := t) hi)
  unfold tPc
  split
  · split
    · exact Nat.zero_le _
    · show nmf t n (nmp t n i) 1 20 ≤ _; omega
  · show nmf t n i 1 20 ≤ _; omega
theorem tSt_fl (hi : i ≤ n) : (tSt t n B i).1 ≤ 8 * n + 10 := by
  have e1 := nmp_le (t := t) hi
  have e2 := nmp_le (t := t) e1
  have e3 := nmp_le (t := t) e2
  have h1 := nmf_le (t := t) (lo := 0) (hi := B.1.length - 1) hi
  have h2 := nmf_le (t := t) (lo := 0) (hi := B.1.length - 1) e1
  have h3 := nmf_le (t := t) (lo := 1) (hi := 9) e2
  have h4 := sk_le (t := t) e1
  unfold tSt
  split
  · split
    · split
      · show 1 + 8 * sk t n (nmp t n i) + 1 ≤ _; omega
      · split
        · exact tPc_fl e3
        · show nmf t n (nmp t n (nmp t n i)) 1 9 ≤ _; omega
    · show nmf t n (nmp t n i) 0 _ ≤ _; omega
  · show nmf t n i 0 _ ≤ _; omega
theorem tTh_fl (hi : i ≤ n) : (tTh t n B i).1 ≤ 8 * n + 10 := by
  have h1 := nmf_le (t := t) (lo := 0) (hi := B.1.length - 1) hi
  unfold tTh
  split
  · exact Nat.zero_le _
  · show nmf t n i 0 _ ≤ _; omega
theorem tcl_fl {c : Nat} (hi : i ≤ n) : (tcl t n c B i).1 ≤ 8 * n + 10 := by
  have hj := sk_le (t := t) hi
  unfold tcl
  by_cases h1 : wat t n (mm_sb.getD 0 []) (sk t n i) = true
  · rw [if_pos h1]
    have hw : sk t n i + 5 ≤ n := wat_le hj h1
    split
    · show 1 + 8 * sk t n i + 4 ≤ _; omega
    · exact tFl_fl hw
  · rw [if_neg h1]
    by_cases h2 : wat t n (mm_sb.getD 1 []) (sk t n i) = true
    · rw [if_pos h2]
      have hw : sk t n i + 5 ≤ n := wat_le hj h2
      split
      · show 1 + 8 * sk t n i + 4 ≤ _; omega
      · exact tSt_fl hw
    · rw [if_neg h2]
      by_cases h3 : wat t n (mm_sb.getD 2 []) (sk t n i) = true
      · rw [if_pos h3]
        have hw : sk t n i + 5 ≤ n := wat_le hj h3
        split
        · show 1 + 8 * sk t n i + 4 ≤ _; omega
        · exact tTh_fl hw
      · rw [if_neg h3]
        show 1 + 8 * sk t n i ≤ _; omega
end TF
theorem tall_fl {t : Nat → Int32} {n : Nat} : ∀ f c i B, i ≤ n → (tall t n f c i B).1 ≤ 8 * n + 10 := by
  intro f
  induction f with
  | zero => intro c i B _; show 1 ≤ _; omega
  | succ f ih =>
    intro c i B hi
    have h1 := tcl_fl (t := t) (B := B) (c := c) hi
    rw [tall_tl]
    by_cases hz : (tcl t n c B i).1 = 0
    · rw [if_pos hz]
      have hle := tcl_le hi hz
      have hs := sk_le (t := t) hle.1
      unfold tl
      split
      · split
        · exact ih _ _ _ (by omega)
        · show 1 + 8 * _ ≤ _; omega
      · exact Nat.zero_le _
    · rw [if_neg hz]; exact h1
/-- what the reference's reader does behind the clauses -/
def rdK (u30 : Int32) (S31 : fS) : Option (Int32 × fS) := if u30 = (0 : Int32) then (if u30 = (0 : Int32) then ((some (pI S31 145 1 (0 : Int32))).bind fun S35 =>
  if (S35.1 145 14) = (0 : Int32) then (some ((1 : Int32), S35)) else
  (some ((0 : Int32), S35))) else
  (if (S31.1 145 16) = (6 : Int32) then (if (S31.1 145 7) = (0 : Int32) then ((f_X11_fails (0 : Int32) (S31.1 145 13) S31).bind fun q49 =>
  (some (pI q49.2 145 1 (0 : Int32))).bind fun S52 =>
  if (S52.1 145 14) = (0 : Int32) then (some ((1 : Int32), S52)) else
  (some ((0 : Int32), S52))) else
  ((some (pI S31 145 1 (0 : Int32))).bind fun S45 =>
  if (S45.1 145 14) = (0 : Int32) then (some ((1 : Int32), S45)) else
  (some ((0 : Int32), S45)))) else
  ((some (pI S31 145 1 (0 : Int32))).bind fun S40 =>
  if (S40.1 145 14) = (0 : Int32) then (some ((1 : Int32), S40)) else
  (some ((0 : Int32), S40))))) else
  ((f_X11_see  S31).bind fun q56 =>
  if q56.1 = (-1 : Int32) then (if u30 = (0 : Int32) then ((some (pI q56.2 145 1 (0 : Int32))).bind fun S61 =>
  if (S61.1 145 14) = (0 : Int32) then (some ((1 : Int32), S61)) else
  (some ((0 : Int32), S61))) else
  (if (q56.2.1 145 16) = (6 : Int32) then (if (q56.2.1 145 7) = (0 : Int32) then ((f_X11_fails (0 : Int32) (q56.2.1 145 13) q56.2).bind fun q75 =>
  (some (pI q75.2 145 1 (0 : Int32))).bind fun S78 =>
  if (S78.1 145 14) = (0 : Int32) then (some ((1 : Int32), S78)) else
  (some ((0 : Int32), S78))) else
  ((some (pI q56.2 145 1 (0 : Int32))).bind fun S71 =>
  if (S71.1 145 14) = (0 : Int32) then (some ((1 : Int32), S71)) else
  (some ((0 : Int32), S71)))) else
  ((some (pI q56.2 145 1 (0 : Int32))).bind fun S66 =>
  if (S66.1 145 14) = (0 : Int32) then (some ((1 : Int32), S66)) else
  (some ((0 : Int32), S66))))) else
  ((f_X11_fails (0 : Int32) (q56.2.1 145 13) q56.2).bind fun q82 =>
  if q82.1 = (0 : Int32) then ((some (pI q82.2 145 1 (0 : Int32))).bind fun S86 =>
  if (S86.1 145 14) = (0 : Int32) then (some ((1 : Int32), S86)) else
  (some ((0 : Int32), S86))) else
  (if (q82.2.1 145 16) = (6 : Int32) then (if (q82.2.1 145 7) = (0 : Int32) then ((f_X11_fails (0 : Int32) (q82.2.1 145 13) q82.2).bind fun q100 =>
  (some (pI q100.2 145 1 (0 : Int32))).bind fun S103 =>
  if (S103.1 145 14) = (0 : Int32) then (some ((1 : Int32), S103)) else
  (some ((0 : Int32), S103))) else
  ((some (pI q82.2 145 1 (0 : Int32))).bind fun S96 =>
  if (S96.1 145 14) = (0 : Int32) then (some ((1 : Int32), S96)) else
  (some ((0 : Int32), S96)))) else
  ((some (pI q82.2 145 1 (0 : Int32))).bind fun S91 =>
  if (S91.1 145 14) = (0 : Int32) then (some ((1 : Int32), S91)) else
  (some ((0 : Int32), S91))))))
theorem rd_eq {S : fS} : f_X11_readsAll S = ((sI S 148 7 (S.1 145 16) (0 : Int32)).bind fun S1 =>
  (some (pI S1 145 19 (0 : Int32))).bind fun S4 =>
  (some (pI S4 145 13 (0 : Int32))).bind fun S7 =>
  (some (pI S7 145 14 (0 : Int32))).bind fun S10 =>
  (some (pI S10 145 17 (0 : Int32))).bind fun S13 =>
  (f_X11_clauseHere S13).bind fun q16 => lp_X11_readsAll_35 rdK FU q16.1 q16.2) := rfl
theorem rd_0 {X : fS} : rdK 0 X = some (if X.1 145 14 = 0 then 1 else 0, pI X 145 1 0) := by
  unfold rdK
  rw [if_pos (show (0 : Int32) = 0 from rfl), if_pos (show (0 : Int32) = 0 from rfl), bd_some, pI_ne (by omega)]
  by_cases h : X.1 145 14 = 0
  · rw [if_pos h, if_pos h]
  · rw [if_neg h, if_neg h]
theorem rd_1 {X Y : fS} {c : Int32} (e : f_X11_see X = some (c, Y)) (hc : c ≠ -1) (hw : Y.1 145 14 = 0) : rdK 1 X = some (if (1 + 8 * Y.1 145 13 + 0 : Int32) = 0 then 1 else 0, pI (pI Y 145 14 (1 + 8 * Y.1 145 13 + 0)) 145 1 0) := by
  unfold rdK
  rw [if_neg (show ¬ (1 : Int32) = 0 by decide), e, bd_some]
  dsimp only
  rw [if_neg hc, mt_fails hw, bd_some]
  dsimp only
  rw [if_pos (show (0 : Int32) = 0 from rfl), bd_some, pI_ne (by omega), pI_eq]
  by_cases h : (1 + 8 * Y.1 145 13 + 0 : Int32) = 0
  · rw [if_pos h, if_pos h]
  · rw [if_neg h, if_neg h]
theorem rd_2 {X Y : fS} (e : f_X11_see X = some (-1, Y)) (h16 : Y.1 145 16 = 6) (h7 : Y.1 145 7 ≠ 0) (hw : Y.1 145 14 = 0) : rdK 1 X = some (1, pI Y 145 1 0) := by
  unfold rdK
  rw [if_neg (show ¬ (1 : Int32) = 0 by decide), e, bd_some]
  dsimp only
  rw [if_pos (show (-1 : Int32) = -1 from rfl), if_neg (show ¬ (1 : Int32) = 0 by decide), if_pos h16, if_neg h7, bd_some, pI_ne (by omega), if_pos hw]
/-- outside of the reader's own cells -/
def wR (a k : Nat) : Prop := (a = 145 ∧ (k = 1 ∨ k = 7 ∨ k = 8 ∨ k = 9 ∨ k = 13 ∨ k = 14 ∨ k = 15 ∨ k = 17 ∨ k = 19)) ∨ (a = 148 ∧ k = 6) ∨ a = 151 ∨ a = 152 ∨ a = 153
def eD (S T : fS) : Prop := (∀ a k, ¬ wR a k → T.1 a k = S.1 a k) ∧ T.2 = S.2
theorem eD.rf {S : fS} : eD S S := ⟨fun _ _ _ => rfl, rfl⟩
theorem eD.tr {S T U : fS} (h : eD S T) (g : eD T U) : eD S U := ⟨fun a k n => (g.1 a k n).trans (h.1 a k n), g.2.trans h.2⟩
theorem eD_of {S T : fS} (h : eC S T) : eD S T := ⟨fun a k n => h.1 a k (fun q => n (by unfold wR; unfold wM at q; omega)), h.2⟩
theorem eD_pI {S : fS} {a k : Nat} {x : Int32} (h : wR a k) : eD S (pI S a k x) := ⟨fun b j n => by
  rw [pI_get]
  by_cases q : b = a ∧ j = k
  · exact absurd (q.1 ▸ q.2 ▸ h) n
  · rw [if_neg q], rfl⟩
theorem eD_mS {S : fS} {i w u : Int32} : eD S (mS S i w u) := by
  unfold mS
  exact ((eD_pI (by unfold wR; omega)).tr (eD_pI (by unfold wR; omega))).tr (eD_pI (by unfold wR; omega))
theorem mS_mk {X : fS} {i w : Int32} : pI (pI X 145 13 i) 145 14 w = mS X i w (X.1 145 15) := by
  have e : X.1 145 15 = (pI (pI X 145 13 i) 145 14 w).1 145 15 := by rw [pI_get, if_neg (by omega), pI_get, if_neg (by omega)]
  unfold mS
  rw [e, pI_self]
theorem TBm_cg {S T : fS} {B : TB} (h1 : ∀ k, k = 7 ∨ k = 8 ∨ k = 9 → T.1 145 k = S.1 145 k) (h2 : ∀ a k, a = 151 ∨ a = 152 ∨ a = 153 → T.1 a k = S.1 a k) (hB : TBm S B) : TBm T B := by
  obtain ⟨b1, b2, b3, b4, b5, b6⟩ := hB
  refine ⟨?_, ?_, ?_, fun k hk => ⟨?_, ?_⟩, fun k hk => ⟨?_, ?_, ?_, ?_, ?_⟩, fun k hk => ?_⟩
  · rw [h1 7 (by omega)]; exact b1
  · rw [h1 8 (by omega)]; exact b2
  · rw [h1 9 (by omega)]; exact b3
  · rw [h2 _ _ (by omega)]; exact (b4 k hk).1
  · rw [h2 _ _ (by omega)]; exact (b4 k hk).2
  · rw [h2 _ _ (by omega)]; exact (b5 k hk).1
  · rw [h2 _ _ (by omega)]; exact (b5 k hk).2.1
  · rw [h2 _ _ (by omega)]; exact (b5 k hk).2.2.1
  · rw [h2 _ _ (by omega)]; exact (b5 k hk).2.2.2.1
  · rw [h2 _ _ (by omega)]; exact (b5 k hk).2.2.2.2
  · rw [h2 _ _ (by omega)]; exact b6 k hk
end
