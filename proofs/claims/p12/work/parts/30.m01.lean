section
/-! texts: what both readers do, byte by byte -/
def skf (t : Nat → Int32) (n : Nat) : Nat → Nat → Nat
  | 0, i => i
  | f + 1, i => if i < n ∧ t i = 32 then skf t n f (i + 1) else i
/-- behind the blanks -/
def sk (t : Nat → Int32) (n i : Nat) : Nat := skf t n (n - i) i
theorem sk_1 {t : Nat → Int32} {n i : Nat} (h : i < n) (ht : t i = 32) : sk t n i = sk t n (i + 1) := by
  unfold sk
  rw [show n - i = (n - (i + 1)) + 1 by omega]
  show (if i < n ∧ t i = 32 then _ else _) = _
  rw [if_pos ⟨h, ht⟩]
theorem sk_0 {t : Nat → Int32} {n i : Nat} (h : ¬ (i < n ∧ t i = 32)) : sk t n i = i := by
  unfold sk
  cases n - i with
  | zero => rfl
  | succ f =>
    show (if i < n ∧ t i = 32 then _ else _) = _
    rw [if_neg h]
theorem skf_pr {t : Nat → Int32} {n : Nat} : ∀ f i, n - i ≤ f → i ≤ skf t n f i ∧ (i ≤ n → skf t n f i ≤ n) ∧ ¬ (skf t n f i < n ∧ t (skf t n f i) = 32) := by
  intro f
  induction f with
  | zero =>
    intro i h
    refine ⟨Nat.le_refl _, fun h => h, fun q => ?_⟩
    have : i < n := q.1
    omega
  | succ f ih =>
    intro i h
    by_cases hc : i < n ∧ t i = 32
    · have e : skf t n (f + 1) i = skf t n f (i + 1) := if_pos hc
      rw [e]
      obtain ⟨h1, h2, h3⟩ := ih (i + 1) (by omega)
      exact ⟨by omega, fun _ => h2 (by omega), h3⟩
    · have e : skf t n (f + 1) i = i := if_neg hc
      rw [e]
      exact ⟨Nat.le_refl _, fun h => h, hc⟩
theorem sk_ge {t : Nat → Int32} {n i : Nat} : i ≤ sk t n i := (skf_pr (n - i) i (Nat.le_refl _)).1
theorem sk_le {t : Nat → Int32} {n i : Nat} (h : i ≤ n) : sk t n i ≤ n := (skf_pr (n - i) i (Nat.le_refl _)).2.1 h
theorem sk_nb {t : Nat → Int32} {n i : Nat} : ¬ (sk t n i < n ∧ t (sk t n i) = 32) := (skf_pr (n - i) i (Nat.le_refl _)).2.2
theorem sk_id {t : Nat → Int32} {n i : Nat} : sk t n (sk t n i) = sk t n i := sk_0 sk_nb
/-- a small letter; a digit -/
def ltr (t : Nat → Int32) (n k : Nat) : Bool := decide (k < n ∧ 97 ≤ (t k).toInt ∧ (t k).toInt ≤ 122)
def dgt (t : Nat → Int32) (n k : Nat) : Prop := k < n ∧ 48 ≤ (t k).toInt ∧ (t k).toInt ≤ 57
/-- just this word stands there: its letters, and none behind it -/
def wat (t : Nat → Int32) (n : Nat) : List Int32 → Nat → Bool
  | [], i => !ltr t n i
  | c :: w, i => decide (i < n ∧ t i = c) && wat t n w (i + 1)
theorem ltr_iff {t : Nat → Int32} {n k : Nat} : ltr t n k = true ↔ k < n ∧ 97 ≤ (t k).toInt ∧ (t k).toInt ≤ 122 := by
  unfold ltr
  rw [decide_eq_true_iff]
/-- how many digits stand there -/
def dlf (t : Nat → Int32) (n : Nat) : Nat → Nat → Nat
  | 0, _ => 0
  | f + 1, i => if i < n ∧ 48 ≤ (t i).toInt ∧ (t i).toInt ≤ 57 then dlf t n f (i + 1) + 1 else 0
def dl (t : Nat → Int32) (n i : Nat) : Nat := dlf t n (n - i) i
/-- the number that the first k digits at i are -/
def dv (t : Nat → Int32) (i : Nat) : Nat → Nat
  | 0 => 0
  | k + 1 => dv t i k * 10 + ((t (i + k)).toInt - 48).toNat
theorem dl_1 {t : Nat → Int32} {n i : Nat} (h : dgt t n i) : dl t n i = dl t n (i + 1) + 1 := by
  unfold dl
  have := h.1
  rw [show n - i = (n - (i + 1)) + 1 by omega]
  exact if_pos h
theorem dl_0 {t : Nat → Int32} {n i : Nat} (h : ¬ dgt t n i) : dl t n i = 0 := by
  unfold dl
  cases n - i with
  | zero => rfl
  | succ f =>
    exact if_neg h
theorem dl_le {t : Nat → Int32} {n : Nat} : ∀ d i, n - i = d → i ≤ n → i + dl t n i ≤ n := by
  intro d
  induction d with
  | zero =>
    intro i h h2
    rw [dl_0 (fun q => by have := q.1; omega)]; omega
  | succ d ih =>
    intro i h h2
    by_cases hc : dgt t n i
    · rw [dl_1 hc]
      have := ih (i + 1) (by omega) (by omega)
      omega
    · rw [dl_0 hc]; omega
theorem dl_end {t : Nat → Int32} {n : Nat} : ∀ d i, n - i = d → ¬ dgt t n (i + dl t n i) := by
  intro d
  induction d with
  | zero =>
    intro i h q
    have := q.1
    omega
  | succ d ih =>
    intro i h
    by_cases hc : dgt t n i
    · rw [dl_1 hc, show i + (dl t n (i + 1) + 1) = i + 1 + dl t n (i + 1) by omega]
      exact ih (i + 1) (by omega)
    · rw [dl_0 hc]; exact hc
theorem dl_dg {t : Nat → Int32} {n : Nat} : ∀ k i, k < dl t n i → dgt t n (i + k) := by
  intro k
  induction k with
  | zero =>
    intro i h
    by_cases hc : dgt t n i
    · exact hc
    · rw [dl_0 hc] at h; omega
  | succ k ih =>
    intro i h
    by_cases hc : dgt t n i
    · rw [dl_1 hc] at h
      have := ih (i + 1) (by omega)
      rw [show i + (k + 1) = i + 1 + k by omega]
      exact this
    · rw [dl_0 hc] at h; omega
theorem dv_lt {t : Nat → Int32} {n i : Nat} : ∀ k, k ≤ dl t n i → dv t i k < 10 ^ k := by
  intro k
  induction k with
  | zero => intro _; exact Nat.one_pos
  | succ k ih =>
    intro h
    have h1 := ih (by omega)
    have h2 := dl_dg (t := t) (n := n) k i (by omega)
    have h3 := h2.2
    show dv t i k * 10 + ((t (i + k)).toInt - 48).toNat < 10 ^ (k + 1)
    rw [Nat.pow_succ]
    omega
theorem dl_sub {t : Nat → Int32} {n j : Nat} : ∀ k, k ≤ dl t n j → dl t n (j + k) = dl t n j - k := by
  intro k
  induction k with
  | zero => intro _; rfl
  | succ k ih =>
    intro h
    have h1 := ih (by omega)
    have h2 := dl_dg (t := t) (n := n) k j (by omega)
    have h3 := dl_1 h2
    rw [show j + (k + 1) = j + k + 1 by omega]
    omega
/-- a number there, from lo to hi: 0, or its fault -/
def nmf (t : Nat → Int32) (n i : Nat) (lo hi : Int) : Nat := if dl t n (sk t n i) = 0 then 1 + 8 * sk t n i else if dl t n (sk t n i) ≤ 5 ∧ lo ≤ dv t (sk t n i) (dl t n (sk t n i)) ∧ (dv t (sk t n i) (dl t n (sk t n i)) : Int) ≤ hi then 0 else 1 + 8 * sk t n i + 1
/-- the number, and the place behind it -/
def nmv (t : Nat → Int32) (n i : Nat) : Nat := dv t (sk t n i) (dl t n (sk t n i))
def nmp (t : Nat → Int32) (n i : Nat) : Nat := sk t n i + dl t n (sk t n i)
theorem nmp_le {t : Nat → Int32} {n i : Nat} (h : i ≤ n) : nmp t n i ≤ n := dl_le _ _ rfl (sk_le h)
theorem nmp_ge {t : Nat → Int32} {n i : Nat} : i ≤ nmp t n i := Nat.le_trans sk_ge (Nat.le_add_right _ _)
theorem nmf_0 {t : Nat → Int32} {n i : Nat} {lo hi : Int} (h : nmf t n i lo hi = 0) : 0 < dl t n (sk t n i) ∧ dl t n (sk t n i) ≤ 5 ∧ lo ≤ nmv t n i ∧ (nmv t n i : Int) ≤ hi := by
  unfold nmf at h
  unfold nmv
  by_cases h1 : dl t n (sk t n i) = 0
  · rw [if_pos h1] at h; omega
  · rw [if_neg h1] at h
    by_cases h2 : dl t n (sk t n i) ≤ 5 ∧ lo ≤ dv t (sk t n i) (dl t n (sk t n i)) ∧ (dv t (sk t n i) (dl t n (sk t n i)) : Int) ≤ hi
    · exact ⟨by omega, h2⟩
    · rw [if_neg h2] at h; omega
theorem nmp_gt {t : Nat → Int32} {n i : Nat} {lo hi : Int} (h : nmf t n i lo hi = 0) : i < nmp t n i := by
  have h1 := (nmf_0 h).1
  have h2 := sk_ge (t := t) (n := n) (i := i)
  unfold nmp
  omega
theorem nmf_le {t : Nat → Int32} {n i : Nat} {lo hi : Int} (h : i ≤ n) : nmf t n i lo hi ≤ 8 * n + 2 := by
  have := sk_le (t := t) h
  unfold nmf
  split
  · omega
  · split
    · omega
    · omega
end
