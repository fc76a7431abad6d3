section
/-! the reference's tape -/
def llf (t : Nat → Int32) (n : Nat) : Nat → Nat → Nat
  | 0, _ => 0
  | f + 1, i => if ltr t n i = true then llf t n f (i + 1) + 1 else 0
/-- how many small letters stand there -/
def ll (t : Nat → Int32) (n i : Nat) : Nat := llf t n (n - i) i
theorem ll_1 {t : Nat → Int32} {n i : Nat} (h : ltr t n i = true) : ll t n i = ll t n (i + 1) + 1 := by
  unfold ll
  have := (ltr_iff.mp h).1
  rw [show n - i = (n - (i + 1)) + 1 by omega]
  exact if_pos h
theorem ll_0 {t : Nat → Int32} {n i : Nat} (h : ¬ ltr t n i = true) : ll t n i = 0 := by
  unfold ll
  cases n - i with
  | zero => rfl
  | succ f => exact if_neg h
theorem ll_le {t : Nat → Int32} {n : Nat} : ∀ d i, n - i = d → i ≤ n → i + ll t n i ≤ n := by
  intro d
  induction d with
  | zero =>
    intro i h h2
    rw [ll_0 (fun q => by have := (ltr_iff.mp q).1; omega)]; omega
  | succ d ih =>
    intro i h h2
    by_cases hc : ltr t n i = true
    · rw [ll_1 hc]
      have := ih (i + 1) (by omega) (by omega)
      omega
    · rw [ll_0 hc]; omega
theorem ll_lt {t : Nat → Int32} {n : Nat} : ∀ k i, k < ll t n i → ltr t n (i + k) = true := by
  intro k
  induction k with
  | zero =>
    intro i h
    by_cases hc : ltr t n i = true
    · exact hc
    · rw [ll_0 hc] at h; omega
  | succ k ih =>
    intro i h
    by_cases hc : ltr t n i = true
    · rw [ll_1 hc] at h
      rw [show i + (k + 1) = i + 1 + k by omega]
      exact ih (i + 1) (by omega)
    · rw [ll_0 hc] at h; omega
theorem ll_sub {t : Nat → Int32} {n j : Nat} : ∀ k, k ≤ ll t n j → ll t n (j + k) = ll t n j - k := by
  intro k
  induction k with
  | zero => intro _; rfl
  | succ k ih =>
    intro h
    have h1 := ih (by omega)
    have h3 := ll_1 (ll_lt (t := t) (n := n) k j (by omega))
    rw [show j + (k + 1) = j + k + 1 by omega]
    omega
/-- the word's letters as one number -/
def pk (t : Nat → Int32) (i : Nat) : Nat → Nat
  | 0 => 0
  | k + 1 => pk t i k * 256 + (t (i + k)).toInt.toNat
def pkW (w : List Int32) : Nat := pk (fun m => w.getD m 0) 0 w.length
def isL (x : Int32) : Prop := 97 ≤ x.toInt ∧ x.toInt ≤ 122
theorem pk_inj {t t' : Nat → Int32} {i i' : Nat} : ∀ k k', (∀ m, m < k → isL (t (i + m))) → (∀ m, m < k' → isL (t' (i' + m))) → pk t i k = pk t' i' k' → k = k' ∧ ∀ m, m < k → t (i + m) = t' (i' + m) := by
  intro k
  induction k with
  | zero =>
    intro k' _ h2 e
    cases k' with
    | zero => exact ⟨rfl, fun m h => absurd h (Nat.not_lt_zero _)⟩
    | succ k' =>
      have h := h2 k' (Nat.lt_succ_self _)
      have e : 0 = pk t' i' k' * 256 + (t' (i' + k')).toInt.toNat := e
      have := h.1
      omega
  | succ k ih =>
    intro k' h1 h2 e
    have g := h1 k (Nat.lt_succ_self _)
    have g1 := g.1
    have g2 := g.2
    cases k' with
    | zero =>
      have e : pk t i k * 256 + (t (i + k)).toInt.toNat = 0 := e
      omega
    | succ k' =>
      have f := h2 k' (Nat.lt_succ_self _)
      have f1 := f.1
      have f2 := f.2
      have e : pk t i k * 256 + (t (i + k)).toInt.toNat = pk t' i' k' * 256 + (t' (i' + k')).toInt.toNat := e
      have e1 : pk t i k = pk t' i' k' := by omega
      have e2 : (t (i + k)).toInt = (t' (i' + k')).toInt := by omega
      obtain ⟨rfl, h⟩ := ih k' (fun m hm => h1 m (by omega)) (fun m hm => h2 m (by omega)) e1
      refine ⟨rfl, fun m hm => ?_⟩
      by_cases hk : m = k
      · subst hk; exact ni_eq.mpr e2
      · exact h m (by omega)
theorem pk_cg {t t' : Nat → Int32} {i i' : Nat} : ∀ k, (∀ m, m < k → t (i + m) = t' (i' + m)) → pk t i k = pk t' i' k := by
  intro k
  induction k with
  | zero => intro _; rfl
  | succ k ih =>
    intro h
    show pk t i k * 256 + (t (i + k)).toInt.toNat = pk t' i' k * 256 + (t' (i' + k)).toInt.toNat
    rw [ih (fun m hm => h m (by omega)), h k (by omega)]
theorem pkk_lt {t : Nat → Int32} {i : Nat} : ∀ k, (∀ m, m < k → isL (t (i + m))) → pk t i k < 256 ^ k ∧ 2 * pk t i k < 256 ^ k ∨ k = 0 := by
  intro k
  induction k with
  | zero => intro _; exact Or.inr rfl
  | succ k ih =>
    intro h
    have g := h k (Nat.lt_succ_self _)
    have g1 := g.1
    have g2 := g.2
    refine Or.inl ?_
    show pk t i k * 256 + (t (i + k)).toInt.toNat < 256 ^ (k + 1) ∧ 2 * (pk t i k * 256 + (t (i + k)).toInt.toNat) < 256 ^ (k + 1)
    rw [Nat.pow_succ]
    rcases ih (fun m hm => h m (by omega)) with h1 | rfl
    · omega
    · have : pk t i 0 = 0 := rfl
      rw [this]
      omega
theorem wat_ll {t : Nat → Int32} {n : Nat} : ∀ (w : List Int32) (j : Nat), (∀ c ∈ w, isL c) → (wat t n w j = true ↔ ll t n j = w.length ∧ ∀ m, m < w.length → t (j + m) = w.getD m 0) := by
  intro w
  induction w with
  | nil =>
    intro j _
    show (!ltr t n j) = true ↔ ll t n j = 0 ∧ _
    constructor
    · intro h
      refine ⟨ll_0 (fun q => ?_), fun m hm => absurd hm (Nat.not_lt_zero _)⟩
      rw [q] at h; exact absurd h (by decide)
    · intro h
      cases hq : ltr t n j
      · rfl
      · have := ll_1 hq; omega
  | cons c w ih =>
    intro j hc
    have hcl := hc c List.mem_cons_self
    have hi := ih (j + 1) (fun x hx => hc x (List.mem_cons_of_mem _ hx))
    show (decide (j < n ∧ t j = c) && wat t n w (j + 1)) = true ↔ ll t n j = w.length + 1 ∧ _
    rw [Bool.and_eq_true, decide_eq_true_iff, hi]
    constructor
    · rintro ⟨⟨h1, h2⟩, h3, h4⟩
      have hl : ltr t n j = true := ltr_iff.mpr ⟨h1, by rw [h2]; exact hcl⟩
      refine ⟨by rw [ll_1 hl, h3], fun m hm => ?_⟩
      cases m with
      | zero => exact h2
      | succ m =>
        have hm : m + 1 < w.length + 1 := hm
        rw [show j + (m + 1) = j + 1 + m by omega]
        exact h4 m (by omega)
    · rintro ⟨h1, h2⟩
      have hl : ltr t n j = true := by
        cases hq : ltr t n j
        · rw [ll_0 (by rw [hq]; decide)] at h1; omega
        · rfl
      rw [ll_1 hl] at h1
      refine ⟨⟨(ltr_iff.mp hl).1, h2 0 (Nat.succ_pos _)⟩, by omega, fun m hm => ?_⟩
      have := h2 (m + 1) (Nat.succ_lt_succ hm)
      rw [show j + 1 + m = j + (m + 1) by omega]
      exact this
theorem wat_pk {t : Nat → Int32} {n j : Nat} {w : List Int32} (hw : ∀ c ∈ w, isL c) : wat t n w j = true ↔ pk t j (ll t n j) = pkW w := by
  have hw2 : ∀ m, m < w.length → isL (w.getD (0 + m) 0) := fun m hm => by
    rw [show 0 + m = m by omega, List.getD_eq_getElem?_getD, List.getElem?_eq_getElem hm]
    exact hw _ (List.getElem_mem hm)
  rw [wat_ll w j hw]
  constructor
  · rintro ⟨h1, h2⟩
    rw [h1]
    exact pk_cg _ (fun m hm => by rw [show 0 + m = m by omega]; exact h2 m hm)
  · intro h
    obtain ⟨h1, h2⟩ := pk_inj _ _ (fun m hm => (ltr_iff.mp (ll_lt m j hm)).2) hw2 h
    exact ⟨h1, fun m hm => by have := h2 m (by omega); rw [show 0 + m = m by omega] at this; exact this⟩
def mS (S : fS) (i w u : Int32) : fS := pI (pI (pI S 145 13 i) 145 14 w) 145 15 u
theorem mS_nx {S : fS} {i w u j : Int32} : pI (mS S i w u) 145 13 j = mS S j w u := by
  unfold mS
  rw [pI_sw (by decide), pI_sw (a := 145) (k := 14) (by decide), pI_pI]
theorem mS_wr {S : fS} {i w u j : Int32} : pI (mS S i w u) 145 14 j = mS S i j u := by
  unfold mS
  rw [pI_sw (by decide), pI_pI]
theorem mS_nu {S : fS} {i w u j : Int32} : pI (mS S i w u) 145 15 j = mS S i w j := by
  unfold mS
  rw [pI_pI]
theorem mS_13 {S : fS} {i w u : Int32} : (mS S i w u).1 145 13 = i := id rfl
theorem mS_14 {S : fS} {i w u : Int32} : (mS S i w u).1 145 14 = w := id rfl
theorem mS_15 {S : fS} {i w u : Int32} : (mS S i w u).1 145 15 = u := id rfl
theorem mS_1 {S : fS} {i w u : Int32} : (mS S i w u).1 145 1 = S.1 145 1 := id rfl
theorem mS_t {S : fS} {i w u : Int32} : (mS S i w u).1 146 = S.1 146 := id rfl
theorem mS_of {S : fS} : mS S (S.1 145 13) (S.1 145 14) (S.1 145 15) = S := by
  unfold mS
  rw [pI_self, pI_self, pI_self]
section MT
variable {S : fS} {n : Nat} {w u : Int32}
theorem mt_seelp (hn : S.1 145 1 = o3 n) (hl : n ≤ 400) {K : fS → Option (Int32 × fS)} : ∀ d i m, n - i = d → i ≤ n → d < m → lp_X11_see_0 K m (mS S (o3 i) w u) = K (mS S (o3 (sk (S.1 146) n i)) w u) := by
  intro d
  induction d with
  | zero =>
    intro i m h1 h2 h3
    obtain ⟨m, rfl⟩ : ∃ m', m = m' + 1 := ⟨m - 1, by omega⟩
    rw [lp_X11_see_0.eq_2, mS_1, mS_13, hn, if_pos ((o3_le (by omega) (by omega)).mpr (by omega)), sk_0 (by omega)]
  | succ d ih =>
    intro i m h1 h2 h3
    obtain ⟨m, rfl⟩ : ∃ m', m = m' + 1 := ⟨m - 1, by omega⟩
    rw [lp_X11_see_0.eq_2, mS_1, mS_13, hn, if_neg (fun q => by have := (o3_le (by omega) (by omega)).mp q; omega), gI_o (by omega) (by omega), bd_some, mS_t]
    by_cases hb : S.1 146 i = 32
    · rw [if_pos hb, bd_some, mS_nx, o3_s, ih (i + 1) m (by omega) (by omega) (by omega), sk_1 (by omega) hb]
    · rw [if_neg hb, sk_0 (fun q => hb q.2)]
/-- what `see` answers at a place that is no blank -/
def seen (t : Nat → Int32) (n j : Nat) : Int32 := if j < n then t j &&& 255 else -1
theorem mt_see (hn : S.1 145 1 = o3 n) (hl : n ≤ 400) {i : Nat} (hi : i ≤ n) : f_X11_see (mS S (o3 i) w u) = some (seen (S.1 146) n (sk (S.1 146) n i), mS S (o3 (sk (S.1 146) n i)) w u) := by
  have hj := sk_le (t := S.1 146) hi
  unfold f_X11_see
  rw [mt_seelp hn hl (n - i) i FU rfl hi (FU_lt (by omega)), mS_1, mS_13, hn]
  unfold seen
  generalize sk (S.1 146) n i = j at hj
  by_cases h : j < n
  · rw [if_neg (fun q => by have := (o3_le (by omega) (by omega)).mp q; omega), gI_o (by omega) (by omega), bd_some, mS_t, if_pos h]
  · rw [if_pos ((o3_le (by omega) (by omega)).mpr (by omega)), if_neg h]
theorem mt_digit (hl : n ≤ 400) {X : fS} (h1 : X.1 145 1 = o3 n) {k : Nat} (hk : k < 2000000) : f_X11_isDigit (o3 k) X = some (if 0 < dl (X.1 146) n k then 1 else 0) := by
  unfold f_X11_isDigit
  rw [h1]
  by_cases hkn : k < n
  · rw [if_neg (fun q => by have := (o3_le (by omega) (by omega)).mp q; omega), gI_o (by omega) (by omega), bd_some, bd_some]
    by_cases hc : dgt (X.1 146) n k
    · obtain ⟨h1, h2, h3⟩ := hc
      rw [if_neg (fun q => by have q := ni_lt.mp q; rw [show (48 : Int32).toInt = 48 from rfl] at q; omega), if_neg (fun q => by have q := ni_lt.mp q; rw [show (57 : Int32).toInt = 57 from rfl] at q; omega), dl_1 ⟨h1, h2, h3⟩, if_pos (by omega)]
    · rw [dl_0 hc, if_neg (Nat.lt_irrefl 0)]
      by_cases h2 : X.1 146 k < 48
      · rw [if_pos h2]
      · rw [if_neg h2, if_pos]
        have h2 : ¬ (X.1 146 k).toInt < 48 := fun q => h2 (ni_lt.mpr q)
        refine ni_lt.mpr ?_
        show 57 < (X.1 146 k).toInt
        exact Int.not_le.mp (fun q => hc ⟨hkn, by omega, q⟩)
  · rw [if_pos ((o3_le (by omega) (by omega)).mpr (by omega)), dl_0 (fun q => hkn q.1), if_neg (Nat.lt_irrefl 0)]
theorem mt_letter (hl : n ≤ 400) {X : fS} (h1 : X.1 145 1 = o3 n) {k : Nat} (hk : k < 2000000) : f_X11_isLetter (o3 k) X = some (if ltr (X.1 146) n k = true then 1 else 0) := by
  unfold f_X11_isLetter
  rw [h1]
  by_cases hkn : k < n
  · rw [if_neg (fun q => by have := (o3_le (by omega) (by omega)).mp q; omega), gI_o (by omega) (by omega), bd_some, bd_some]
    by_cases hc : ltr (X.1 146) n k = true
    · obtain ⟨h1, h2, h3⟩ := ltr_iff.mp hc
      rw [if_neg (fun q => by have q := ni_lt.mp q; rw [show (97 : Int32).toInt = 97 from rfl] at q; omega), if_neg (fun q => by have q := ni_lt.mp q; rw [show (122 : Int32).toInt = 122 from rfl] at q; omega), if_pos hc]
    · rw [if_neg hc]
      by_cases h2 : X.1 146 k < 97
      · rw [if_pos h2]
      · rw [if_neg h2, if_pos]
        have h2 : ¬ (X.1 146 k).toInt < 97 := fun q => h2 (ni_lt.mpr q)
        refine ni_lt.mpr ?_
        show 122 < (X.1 146 k).toInt
        exact Int.not_le.mp (fun q => hc (ltr_iff.mpr ⟨hkn, by omega, q⟩))
  · rw [if_pos ((o3_le (by omega) (by omega)).mpr (by omega)), if_neg (fun q => hkn (ltr_iff.mp q).1)]
theorem pk_sh {x a : Nat} (hx : x < 2 ^ 56) (ha : a < 256) : (Int64.ofNat x <<< (Int32.toInt64 8 &&& 63)) ||| Int64.ofNat a = Int64.ofNat (x * 256 + a) := by
  have h8 : Int32.toInt64 8 &&& 63 = 8 := by decide
  rw [h8]
  apply Int64.toBitVec_inj.mp
  rw [Int64.toBitVec_or, Int64.toBitVec_shiftLeft]
  apply BitVec.eq_of_toNat_eq
  have e1 : (Int64.ofNat x).toBitVec = BitVec.ofNat 64 x := rfl
  have e2 : (Int64.ofNat a).toBitVec = BitVec.ofNat 64 a := rfl
  have e3 : (Int64.ofNat (x * 256 + a)).toBitVec = BitVec.ofNat 64 (x * 256 + a) := rfl
  have e4 : (Int64.toBitVec 8).smod 64 = BitVec.ofNat 64 8 := by decide
  rw [e1, e2, e3, e4, BitVec.toNat_or, BitVec.shiftLeft_eq', BitVec.toNat_shiftLeft, BitVec.toNat_ofNat, BitVec.toNat_ofNat, BitVec.toNat_ofNat, BitVec.toNat_ofNat]
  rw [Nat.mod_eq_of_lt (show x < 2 ^ 64 by omega), Nat.mod_eq_of_lt (show a < 2 ^ 64 by omega), Nat.mod_eq_of_lt (show (8 : Nat) < 2 ^ 64 by decide), Nat.mod_eq_of_lt (show x * 256 + a < 2 ^ 64 by omega)]
  rw [Nat.mod_eq_of_lt (show x <<< 8 < 2 ^ 64 by rw [Nat.shiftLeft_eq]; omega), ← Nat.shiftLeft_add_eq_or_of_lt (by omega), Nat.shiftLeft_eq]
theorem pkk_8 {t : Nat → Int32} {i k : Nat} (hk : k ≤ 8) (h : ∀ m, m < k → isL (t (i + m))) : pk t i k < 2 ^ 63 := by
  rcases pkk_lt k h with h1 | rfl
  · have h2 : 256 ^ k ≤ 256 ^ 8 := Nat.pow_le_pow_right (by decide) hk
    have h3 : (256 : Nat) ^ 8 = 2 * 2 ^ 63 := by decide
    omega
  · show 0 < _
    decide
theorem pkk_7 {t : Nat → Int32} {i k : Nat} (hk : k ≤ 7) (h : ∀ m, m < k → isL (t (i + m))) : pk t i k < 2 ^ 56 := by
  rcases pkk_lt k h with h1 | rfl
  · have h2 : 256 ^ k ≤ 256 ^ 7 := Nat.pow_le_pow_right (by decide) hk
    have h3 : (256 : Nat) ^ 7 = 2 ^ 56 := by decide
    omega
  · show 0 < _
    decide
theorem nl_ofNat {a : Nat} (h : a < 2 ^ 63) : (Int64.ofNat a).toInt = a := Int64.toInt_ofNat_of_lt h
theorem mt_wordlp (hn : S.1 145 1 = o3 n) (hl : n ≤ 400) {c : Int64} {K : Int64 → Int32 → fS → Option (Int32 × fS)} {j : Nat} (hj : j ≤ n) : ∀ d k m, k + d = ll (S.1 146) n j → d < m → lp_X11_isWord_10 c K m (Int64.ofNat (pk (S.1 146) j (min k 8))) (o3 k) (mS S (o3 j) w u) = K (Int64.ofNat (pk (S.1 146) j (min (ll (S.1 146) n j) 8))) (o3 (ll (S.1 146) n j)) (mS S (o3 j) w u) := by
  have hL := ll_le (t := S.1 146) (n := n) _ j rfl hj
  intro d
  induction d with
  | zero =>
    intro k m hk hm
    obtain ⟨m, rfl⟩ : ∃ m', m = m' + 1 := ⟨m - 1, by omega⟩
    have hk : k = ll (S.1 146) n j := hk
    have h0 := ll_sub (t := S.1 146) (n := n) (j := j) k (by omega)
    have hE : ¬ ltr (S.1 146) n (j + k) = true := fun q => by
      have := ll_1 q
      omega
    rw [lp_X11_isWord_10.eq_2, mS_13, o3_add, mt_letter hl (X := mS S (o3 j) w u) (by rw [mS_1, hn]) (by omega), bd_some, mS_t, if_neg hE, if_pos rfl, hk]
  | succ d ih =>
    intro k m hk hm
    obtain ⟨m, rfl⟩ : ∃ m', m = m' + 1 := ⟨m - 1, by omega⟩
    have hg := ll_lt (t := S.1 146) (n := n) k j (by omega)
    obtain ⟨g1, g2, g3⟩ := ltr_iff.mp hg
    rw [lp_X11_isWord_10.eq_2, mS_13, o3_add, mt_letter hl (X := mS S (o3 j) w u) (by rw [mS_1, hn]) (by omega), bd_some, mS_t, if_pos hg, if_neg (by decide)]
    by_cases h8 : 8 ≤ k
    · rw [show (8 : Int32) = o3 8 from rfl, if_pos ((o3_le (by omega) (by omega)).mpr h8), o3_s, show min k 8 = min (k + 1) 8 by omega]
      exact ih (k + 1) m (by omega) (by omega)
    · rw [if_neg (show ¬ (8 : Int32) ≤ o3 _ from fun q => h8 ((o3_le (a := 8) (by omega) (by omega)).mp q)), gI_o (by omega) (by omega), bd_some, mS_t, o3_s, ← ih (k + 1) m (by omega) (by omega)]
      obtain ⟨b, hb, hb2⟩ := o3_ex (x := S.1 146 (j + k)) (by omega)
      have h64 : Int32.toInt64 (S.1 146 (j + k)) = Int64.ofNat b := nl_eq.mpr (by rw [Int32.toInt_toInt64, nl_ofNat (by omega), hb2])
      rw [h64, show min k 8 = k by omega, show min (k + 1) 8 = k + 1 by omega, pk_sh (pkk_7 (by omega) (fun q hq => (ltr_iff.mp (ll_lt (n := n) q j (by omega))).2)) (by omega)]
      have e : pk (S.1 146) j k * 256 + b = pk (S.1 146) j (k + 1) := by
        show _ = pk (S.1 146) j k * 256 + (S.1 146 (j + k)).toInt.toNat
        omega
      rw [e]
theorem mt_isWord (hn : S.1 145 1 = o3 n) (hl : n ≤ 400) {c : Int64} {W : List Int32} (hW : ∀ x ∈ W, isL x) (h1 : 0 < W.length) (h8 : W.length ≤ 8) (hc : c = Int64.ofNat (pkW W)) {i : Nat} (hi : i ≤ n) : f_X11_isWord c (mS S (o3 i) w u) = some (if wat (S.1 146) n W (sk (S.1 146) n i) = true then 1 else 0, mS S (o3 (sk (S.1 146) n i)) w u) := by
  have hj := sk_le (t := S.1 146) hi
  unfold f_X11_isWord
  rw [mt_see hn hl hi, bd_some]
  show lp_X11_isWord_10 c _ FU 0 0 (mS S (o3 (sk (S.1 146) n i)) w u) = _
  generalize sk (S.1 146) n i = j at hj
  have hL := ll_le (t := S.1 146) (n := n) _ j rfl hj
  have hlp := mt_wordlp hn hl (w := w) (u := u) (c := c) hj (ll (S.1 146) n j) 0 FU (by omega) (FU_lt (by omega)) (K := fun u12 u13 S14 => if u13 ≤ (0 : Int32) then (some ((0 : Int32), S14)) else
  (if (9 : Int32) ≤ u13 then (some ((0 : Int32), S14)) else
  (if u12 = c then (some ((1 : Int32), S14)) else
  (some ((0 : Int32), S14)))))
  refine Eq.trans hlp ?_
  have hlet : ∀ m, m < ll (S.1 146) n j → isL (S.1 146 (j + m)) := fun m hm => (ltr_iff.mp (ll_lt m j hm)).2
  have hW2 : ∀ m, m < W.length → isL (W.getD (0 + m) 0) := fun m hm => by
    rw [show 0 + m = m by omega, List.getD_eq_getElem?_getD, List.getElem?_eq_getElem hm]
    exact hW _ (List.getElem_mem hm)
  have hpw : pkW W < 2 ^ 63 := pkk_8 h8 hW2
  by_cases h0 : ll (S.1 146) n j = 0
  · have hw : ¬ wat (S.1 146) n W j = true := fun q => by
      have := (pk_inj _ _ hlet hW2 ((wat_pk hW).mp q)).1
      omega
    rw [if_neg hw, h0]
    rfl
  · rw [if_neg (show ¬ o3 _ ≤ (0 : Int32) from fun q => by have := (o3_le (b := 0) (by omega) (by omega)).mp q; omega)]
    by_cases h9 : 9 ≤ ll (S.1 146) n j
    · have hw : ¬ wat (S.1 146) n W j = true := fun q => by
        have := (pk_inj _ _ hlet hW2 ((wat_pk hW).mp q)).1
        omega
      rw [if_neg hw, if_pos (show (9 : Int32) ≤ o3 _ from (o3_le (a := 9) (by omega) (by omega)).mpr h9)]
    · rw [if_neg (show ¬ (9 : Int32) ≤ o3 _ from fun q => h9 ((o3_le (a := 9) (by omega) (by omega)).mp q)), show min (ll (S.1 146) n j) 8 = ll (S.1 146) n j by omega, hc]
      have hpl : pk (S.1 146) j (ll (S.1 146) n j) < 2 ^ 63 := pkk_8 (by omega) hlet
      by_cases hw : wat (S.1 146) n W j = true
      · rw [if_pos hw, (wat_pk hW).mp hw, if_pos rfl]
      · rw [if_neg hw, if_neg]
        intro q
        have q := nl_eq.mp q
        rw [nl_ofNat hpl, nl_ofNat hpw] at q
        exact hw ((wat_pk hW).mpr (by omega))
theorem mt_passlp (hn : S.1 145 1 = o3 n) (hl : n ≤ 400) {K : fS → Option fS} : ∀ d j m, ll (S.1 146) n j = d → j ≤ n → d < m → lp_X11_passWord_0 K m (mS S (o3 j) w u) = K (mS S (o3 (j + ll (S.1 146) n j)) w u) := by
  intro d
  induction d with
  | zero =>
    intro j m h1 h2 h3
    obtain ⟨m, rfl⟩ : ∃ m', m = m' + 1 := ⟨m - 1, by omega⟩
    have hE : ¬ ltr (S.1 146) n j = true := fun q => by
      have := ll_1 q
      omega
    rw [lp_X11_passWord_0.eq_2, mS_13, mt_letter hl (X := mS S (o3 j) w u) (by rw [mS_1, hn]) (by omega), bd_some, mS_t, if_neg hE, if_pos rfl, h1]
    rfl
  | succ d ih =>
    intro j m h1 h2 h3
    obtain ⟨m, rfl⟩ : ∃ m', m = m' + 1 := ⟨m - 1, by omega⟩
    have hg := ll_lt (t := S.1 146) (n := n) 0 j (by omega)
    have hg : ltr (S.1 146) n j = true := hg
    have h4 := ll_1 hg
    have h5 := (ltr_iff.mp hg).1
    rw [lp_X11_passWord_0.eq_2, mS_13, mt_letter hl (X := mS S (o3 j) w u) (by rw [mS_1, hn]) (by omega), bd_some, mS_t, if_pos hg, if_neg (by decide), bd_some, mS_nx, o3_s, ih (j + 1) m (by omega) (by omega) (by omega), h4, show j + 1 + ll (S.1 146) n (j + 1) = j + (ll (S.1 146) n (j + 1) + 1) by omega]
theorem mt_pass (hn : S.1 145 1 = o3 n) (hl : n ≤ 400) {j : Nat} (hj : j ≤ n) : f_X11_passWord (mS S (o3 j) w u) = some (mS S (o3 (j + ll (S.1 146) n j)) w u) := by
  have hL := ll_le (t := S.1 146) (n := n) _ j rfl hj
  unfold f_X11_passWord
  rw [mt_passlp hn hl _ j FU rfl hj (FU_lt (by omega))]
theorem mt_takes (hn : S.1 145 1 = o3 n) (hl : n ≤ 400) {c : Int64} {W : List Int32} (hW : ∀ x ∈ W, isL x) (h1 : 0 < W.length) (h8 : W.length ≤ 8) (hc : c = Int64.ofNat (pkW W)) {i : Nat} (hi : i ≤ n) : f_X11_takesWord c (mS S (o3 i) w u) = some (if wat (S.1 146) n W (sk (S.1 146) n i) = true then (1, mS S (o3 (sk (S.1 146) n i + W.length)) w u) else (0, mS S (o3 (sk (S.1 146) n i)) w u)) := by
  have hj := sk_le (t := S.1 146) hi
  unfold f_X11_takesWord
  rw [mt_isWord hn hl hW h1 h8 hc hi, bd_some]
  by_cases hw : wat (S.1 146) n W (sk (S.1 146) n i) = true
  · rw [if_pos hw, if_pos hw, if_neg (show ¬ (1 : Int32) = 0 by decide), mt_pass hn hl hj, bd_some, ((wat_ll W _ hW).mp hw).1]
  · rw [if_neg hw, if_neg hw, if_pos rfl]
theorem mt_fails {X : fS} {k p : Int32} (h : X.1 145 14 = 0) : f_X11_fails k p X = some (0, pI X 145 14 (1 + 8 * p + k)) := by
  unfold f_X11_fails
  rw [if_pos h]
  rfl
theorem mt_numlp (hn : S.1 145 1 = o3 n) (hl : n ≤ 400) {lo hi : Int32} {K : Int32 → fS → Option (Int32 × fS)} {j : Nat} (hj : j ≤ n) : ∀ d k m, k + d = dl (S.1 146) n j → d < m → lp_X11_numberHere_34 lo hi (o3 j) K m (o3 (dv (S.1 146) j (min k 5))) (mS S (o3 (j + k)) w u) = K (o3 (dv (S.1 146) j (min (dl (S.1 146) n j) 5))) (mS S (o3 (j + dl (S.1 146) n j)) w u) := by
  have hL := dl_le (t := S.1 146) (n := n) _ j rfl hj
  intro d
  induction d with
  | zero =>
    intro k m hk hm
    obtain ⟨m, rfl⟩ : ∃ m', m = m' + 1 := ⟨m - 1, by omega⟩
    have hk : k = dl (S.1 146) n j := hk
    subst hk
    have hE := dl_end (t := S.1 146) (n := n) _ j rfl
    rw [lp_X11_numberHere_34.eq_2, mS_13, mt_digit hl (X := mS S (o3 (j + dl (S.1 146) n j)) w u) (by rw [mS_1, hn]) (by omega), bd_some, mS_t, dl_0 hE, if_neg (Nat.lt_irrefl 0), if_pos rfl]
  | succ d ih =>
    intro k m hk hm
    obtain ⟨m, rfl⟩ : ∃ m', m = m' + 1 := ⟨m - 1, by omega⟩
    have hg := dl_dg (t := S.1 146) (n := n) k j (by omega)
    obtain ⟨g1, g2, g3⟩ := hg
    have hds := dl_sub (t := S.1 146) (n := n) (j := j) k (by omega)
    rw [lp_X11_numberHere_34.eq_2, mS_13, mt_digit hl (X := mS S (o3 (j + k)) w u) (by rw [mS_1, hn]) (by omega), bd_some, mS_t, if_pos (show 0 < dl (S.1 146) n (j + k) by omega), if_neg (by decide), o3_sub (by omega), show j + k - j = k by omega]
    by_cases h5 : 5 ≤ k
    · rw [o3_l, if_pos ((o3_le (by omega) (by omega)).mpr h5), bd_some, mS_nx, o3_s, show j + k + 1 = j + (k + 1) by omega, show min k 5 = min (k + 1) 5 by omega]
      exact ih (k + 1) m (by omega) (by omega)
    · rw [if_neg (show ¬ (5 : Int32) ≤ o3 _ from fun q => h5 ((o3_le (a := 5) (by omega) (by omega)).mp q)), gI_o (by omega) (by omega), bd_some, mS_t, bd_some, mS_nx, o3_s, show j + k + 1 = j + (k + 1) by omega, ← ih (k + 1) m (by omega) (by omega)]
      have hd1 := dv_5 (n := n) (t := S.1 146) (j := j) (q := k) (by omega) (by omega)
      obtain ⟨b, hb, hb2⟩ := o3_ex (x := S.1 146 (j + k)) (by omega)
      rw [show min k 5 = k by omega, show min (k + 1) 5 = k + 1 by omega]
      have e : 10 * o3 (dv (S.1 146) j k) + S.1 146 (j + k) - 48 = o3 (dv (S.1 146) j (k + 1)) := by
        show _ = o3 (dv (S.1 146) j k * 10 + ((S.1 146 (j + k)).toInt - 48).toNat)
        rw [hb, show (10 : Int32) = o3 10 from rfl, show (48 : Int32) = o3 48 from rfl, o3_mul, o3_add, o3_sub (by omega), o3_int (by omega), show 10 * dv (S.1 146) j k + b - 48 = dv (S.1 146) j k * 10 + ((b : Int) - 48).toNat by omega]
      rw [e]
/-- number here, from a state without a fault -/
theorem mt_num (hn : S.1 145 1 = o3 n) (hl : n ≤ 400) {lo hi : Int32} {i : Nat} (hi' : i ≤ n) : ∃ u', f_X11_numberHere lo hi (mS S (o3 i) 0 u) = some (if nmf (S.1 146) n i lo.toInt hi.toInt = 0 then (1, mS S (o3 (nmp (S.1 146) n i)) 0 (o3 (nmv (S.1 146) n i))) else (0, mS S (o3 (nmp (S.1 146) n i)) (o3 (nmf (S.1 146) n i lo.toInt hi.toInt)) u')) := by
  have hj := sk_le (t := S.1 146) hi'
  unfold f_X11_numberHere nmf nmv nmp
  rw [mt_see hn hl hi', bd_some]
  dsimp only
  rw [mS_13]
  generalize sk (S.1 146) n i = j at hj
  have hL := dl_le (t := S.1 146) (n := n) _ j rfl hj
  have hdk : ∀ q, q ≤ 5 → q ≤ dl (S.1 146) n j → dv (S.1 146) j q < 100000 := fun q h1 h2 => dv_5 h1 h2
  rw [mt_digit hl (X := mS S (o3 j) 0 u) (by rw [mS_1, hn]) (by omega), bd_some, mS_t]
  by_cases h0 : dl (S.1 146) n j = 0
  · refine ⟨u, ?_⟩
    rw [h0, if_neg (Nat.lt_irrefl 0), if_pos rfl, if_pos rfl, if_neg (by omega), mt_fails (by rw [mS_14]), bd_some]
    show some (0, pI (mS S (o3 j) 0 u) 145 14 _) = _
    rw [mS_wr, show (1 : Int32) = o3 1 from rfl, show (8 : Int32) = o3 8 from rfl, show (0 : Int32) = o3 0 from rfl, o3_mul, o3_add, o3_add]
    rfl
  · rw [if_pos (show 0 < dl (S.1 146) n j by omega), if_neg (show ¬ (1 : Int32) = 0 by decide)]
    have hlp := mt_numlp hn hl (lo := lo) (hi := hi) (w := 0) (u := u) hj (dl (S.1 146) n j) 0 FU (by omega) (FU_lt (by omega)) (K := fun u22 S23 => (some (pI S23 145 15 u22)).bind fun S25 =>
  if (5 : Int32) < ((S25.1 145 13) - (o3 j)) then ((f_X11_fails (1 : Int32) (o3 j) S25).bind fun q29 =>
  if q29.1 = (0 : Int32) then (some ((0 : Int32), q29.2)) else
  (some ((1 : Int32), q29.2))) else
  ((f_X11_in (Int32.toInt64 u22) (Int32.toInt64 lo) (Int32.toInt64 hi) S25).bind fun q33 =>
  if q33 = (0 : Int32) then ((f_X11_fails (1 : Int32) (o3 j) S25).bind fun q37 =>
  if q37.1 = (0 : Int32) then (some ((0 : Int32), q37.2)) else
  (some ((1 : Int32), q37.2))) else
  (some ((1 : Int32), S25))))
    rw [if_neg h0]
    generalize dl (S.1 146) n j = L at hL hdk hlp h0
    refine ⟨o3 (dv (S.1 146) j (min L 5)), Eq.trans hlp ?_⟩
    rw [bd_some, mS_nu, mS_13, o3_sub (by omega), show j + L - j = L by omega]
    have ffail : ∀ v, ((f_X11_fails 1 (o3 j) (mS S (o3 (j + L)) 0 v)).bind fun q29 => if q29.1 = (0 : Int32) then (some ((0 : Int32), q29.2)) else (some ((1 : Int32), q29.2))) = some (0, mS S (o3 (j + L)) (o3 (1 + 8 * j + 1)) v) := fun v => by
      rw [mt_fails (by rw [mS_14]), bd_some]
      show some (0, pI (mS S (o3 (j + L)) 0 v) 145 14 _) = _
      rw [mS_wr, show (1 : Int32) = o3 1 from rfl, show (8 : Int32) = o3 8 from rfl, o3_mul, o3_add, o3_add]
    by_cases h5 : 5 < L
    · rw [show (5 : Int32) = o3 5 from rfl, if_pos ((o3_lt (by omega) (by omega)).mpr h5), ffail, if_neg (c := L ≤ 5 ∧ _) (fun q => by omega), if_neg (by omega)]
    · rw [if_neg (show ¬ (5 : Int32) < o3 _ from fun q => h5 ((o3_lt (a := 5) (by omega) (by omega)).mp q)), show min L 5 = L by omega]
      have hv := hdk L (by omega) (by omega)
      rw [op_in]
      rcases op_isFrom01 (v := o3 (dv (S.1 146) j L)) (a := lo) (b := hi) (S := mS S (o3 (j + L)) 0 (o3 (dv (S.1 146) j L))) with ⟨h, h1⟩ | ⟨h, h1, h2⟩
      · rw [o3_int (by omega)] at h1
        rw [h, bd_some, if_pos rfl, ffail, if_neg (c := L ≤ 5 ∧ _) (fun q => h1 q.2), if_neg (by omega)]
      · rw [o3_int (by omega)] at h1 h2
        rw [h, bd_some, if_neg (by decide), if_pos (c := L ≤ 5 ∧ _) ⟨by omega, h1, h2⟩, if_pos rfl]
end MT
end
