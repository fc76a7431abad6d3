section
/-! signs -/
def rk (t : Nat → Int32) (n j : Nat) : Nat := if j < n ∧ t j = 43 then 7 else if j < n ∧ t j = 45 then 8 else if j < n ∧ t j = 42 then 9 else if j < n ∧ t j = 47 then 10 else 0
def jn (t : Nat → Int32) (n j : Nat) : Nat := if wat t n (mm_sb.getD 14 []) j = true then 5 else if wat t n (mm_sb.getD 15 []) j = true then 6 else 0
def jnL (k : Nat) : Nat := if k = 5 then 3 else 2
def cm (t : Nat → Int32) (n j : Nat) : Nat := if j < n ∧ t j = 61 then 13 else if j < n ∧ t j = 60 then (if j + 1 < n ∧ t (j + 1) = 61 then 12 else 11) else if j < n ∧ t j = 62 then (if j + 1 < n ∧ t (j + 1) = 61 then 14 else 15) else 0
def cmL (k : Nat) : Nat := if k = 12 ∨ k = 14 then 2 else 1
section CS
variable {S : fS} {m n : Nat} {c : List (Nat × Nat)} {H : List Nat} {s f : Int32}
theorem cs_reck (hn : S.1 1 1 = o3 n) (hl : n ≤ 400) {i : Nat} (hi : i ≤ n) : f_X5_takeReckoning (tS S (o3 i) s f) = some (if rk (S.1 2) n (sk (S.1 2) n i) = 0 then (-1, tS S (o3 (sk (S.1 2) n i)) s f) else (o3 (rk (S.1 2) n (sk (S.1 2) n i)), tS S (o3 (sk (S.1 2) n i + 1)) (o3 (sk (S.1 2) n i)) f)) := by
  have hj := sk_le (t := S.1 2) hi
  have hid := sk_id (t := S.1 2) (n := n) (i := i)
  unfold f_X5_takeReckoning rk
  rw [ct_sign hn hl (by decide) hi, bd_some]
  generalize sk (S.1 2) n i = j at hj hid
  by_cases h0 : j < n ∧ S.1 2 j = 43
  · simp only [if_pos h0]; rw [if_neg (by decide), if_neg (by omega)]; rfl
  simp only [if_neg h0]
  rw [if_pos trivial, ct_sign hn hl (by decide) hj, bd_some, hid]
  by_cases h1 : j < n ∧ S.1 2 j = 45
  · simp only [if_pos h1]; rw [if_neg (by decide), if_neg (by omega)]; rfl
  simp only [if_neg h1]
  rw [if_pos trivial, ct_sign hn hl (by decide) hj, bd_some, hid]
  by_cases h2 : j < n ∧ S.1 2 j = 42
  · simp only [if_pos h2]; rw [if_neg (by decide), if_neg (by omega)]; rfl
  simp only [if_neg h2]
  rw [if_pos trivial, ct_sign hn hl (by decide) hj, bd_some, hid]
  by_cases h3 : j < n ∧ S.1 2 j = 47
  · simp only [if_pos h3]; rw [if_neg (by decide), if_neg (by omega)]; rfl
  simp only [if_neg h3]
  rw [if_pos trivial, if_pos trivial]
theorem cs_join (hn : S.1 1 1 = o3 n) (hl : n ≤ 400) {i : Nat} (hi : i ≤ n) : f_X5_takeJoining (tS S (o3 i) s f) = some (if jn (S.1 2) n (sk (S.1 2) n i) = 0 then (-1, tS S (o3 (sk (S.1 2) n i)) s f) else (o3 (jn (S.1 2) n (sk (S.1 2) n i)), tS S (o3 (sk (S.1 2) n i + jnL (jn (S.1 2) n (sk (S.1 2) n i)))) (o3 (sk (S.1 2) n i)) f)) := by
  have hj := sk_le (t := S.1 2) hi
  have hid := sk_id (t := S.1 2) (n := n) (i := i)
  unfold f_X5_takeJoining jn
  rw [ct_word hn hl (w := 14) (by decide) hi, bd_some]
  generalize sk (S.1 2) n i = j at hj hid
  by_cases h0 : wat (S.1 2) n (mm_sb.getD 14 []) j = true
  · simp only [if_pos h0]; rw [if_neg (by decide), if_neg (by omega)]; rfl
  simp only [if_neg h0]
  rw [if_pos trivial, ct_word hn hl (w := 15) (by decide) hj, bd_some, hid]
  by_cases h1 : wat (S.1 2) n (mm_sb.getD 15 []) j = true
  · simp only [if_pos h1]; rw [if_neg (by decide), if_neg (by omega)]; rfl
  simp only [if_neg h1]
  rw [if_pos trivial, if_pos trivial]
theorem cs_cmp (hn : S.1 1 1 = o3 n) (hl : n ≤ 400) {i : Nat} (hi : i ≤ n) : f_X5_takeComparing (tS S (o3 i) s f) = some (if cm (S.1 2) n (sk (S.1 2) n i) = 0 then (-1, tS S (o3 (sk (S.1 2) n i)) s f) else (o3 (cm (S.1 2) n (sk (S.1 2) n i)), tS S (o3 (sk (S.1 2) n i + cmL (cm (S.1 2) n (sk (S.1 2) n i)))) (o3 (sk (S.1 2) n i)) f)) := by
  have hj := sk_le (t := S.1 2) hi
  have hid := sk_id (t := S.1 2) (n := n) (i := i)
  unfold f_X5_takeComparing cm
  rw [ct_sign hn hl (by decide) hi, bd_some]
  generalize sk (S.1 2) n i = j at hj hid
  have byte : ∀ s', (f_X7_byteAt ((tS S (o3 (j + 1)) s' f).1 1 2) (tS S (o3 (j + 1)) s' f)) = some (if j + 1 < n then S.1 2 (j + 1) else -1) := fun s' => by
    rw [tS_2, ct_byte hl (X := tS S (o3 (j + 1)) s' f) (by rw [tS_1, hn]) (by omega), tS_t]
  have b61 : ((if j + 1 < n then S.1 2 (j + 1) else -1) = (61 : Int32)) ↔ (j + 1 < n ∧ S.1 2 (j + 1) = 61) := by
    by_cases h : j + 1 < n
    · rw [if_pos h]; exact ⟨fun q => ⟨h, q⟩, fun q => q.2⟩
    · rw [if_neg h]; exact ⟨fun q => absurd q (by decide), fun q => absurd q.1 h⟩
  by_cases h0 : j < n ∧ S.1 2 j = 61
  · simp only [if_pos h0]; rw [if_neg (by decide), if_neg (by omega)]; rfl
  simp only [if_neg h0]
  rw [if_pos trivial, ct_sign hn hl (by decide) hj, bd_some, hid]
  by_cases h1 : j < n ∧ S.1 2 j = 60
  · simp only [if_pos h1]
    rw [if_neg (by decide), byte, bd_some]
    by_cases h2 : j + 1 < n ∧ S.1 2 (j + 1) = 61
    · rw [if_pos (b61.mpr h2), bd_some, tS_2, tS_at, o3_s]
      simp only [if_pos h2]
      rw [if_neg (by decide), if_neg (by omega)]
      rfl
    · rw [if_neg (fun q => h2 (b61.mp q))]
      simp only [if_neg h2]
      rw [if_neg (by decide), if_neg (by omega)]
      rfl
  simp only [if_neg h1]
  rw [if_pos trivial, ct_sign hn hl (by decide) hj, bd_some, hid]
  by_cases h3 : j < n ∧ S.1 2 j = 62
  · simp only [if_pos h3]
    rw [if_neg (by decide), byte, bd_some]
    by_cases h2 : j + 1 < n ∧ S.1 2 (j + 1) = 61
    · rw [if_pos (b61.mpr h2), bd_some, tS_2, tS_at, o3_s]
      simp only [if_pos h2]
      rw [if_pos trivial, if_neg (by omega)]
      rfl
    · rw [if_neg (fun q => h2 (b61.mp q))]
      simp only [if_neg h2]
      rw [if_pos trivial, if_neg (by omega)]
      rfl
  simp only [if_neg h3]
  rw [if_pos trivial, if_pos trivial]
end CS
end
