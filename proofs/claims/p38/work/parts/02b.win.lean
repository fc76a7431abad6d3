/-! DECODING BY WINDOWS: an instruction that decodes by itself decodes so where it stands; one walk along the bytes reads a whole code -/
abbrev wn_D (α : Type) : Type := Reader DecodeError α
def wn_b (w : ByteArray) (j : Nat) : Option UInt8 := w.data.toList[j]?
theorem wn_b_lt {c : ByteArray} {j : Nat} {x : UInt8} (h : wn_b c j = some x) : j < c.size := by
  have h1 := (List.getElem?_eq_some_iff.mp h).1
  simpa using h1
theorem wn_b_at {c : ByteArray} {j : Nat} (h : j < c.size) : wn_b c j = some (c[j]'h) := by
  have h1 : j < c.data.toList.length := by simpa using h
  exact (List.getElem?_eq_getElem h1).trans rfl
/-- the bytes of w stand in c from d on -/
def wn_A (w c : ByteArray) (d : Nat) : Prop := ∀ j x, wn_b w j = some x → wn_b c (d + j) = some x
/-- what r reads in w, r' reads in c, as far on -/
def wn_T {α : Type} (r r' : wn_D α) : Prop := ∀ (w c : ByteArray) (d : Nat), wn_A w c d → ∀ (q : Nat) (a : α) (s : Nat), r w q = .ok (a, s) → r' c (d + q) = .ok (a, d + s)
theorem wn_u1_t {c : ByteArray} {p : Nat} (h : p < c.size) : (Reader.u1 : wn_D Nat) c p = .ok ((c[p]'h).toNat, p + 1) := by
  show (do if h : p < c.size then do set (p + 1); Pure.pure (c[p]'h).toNat else MonadExcept.throw (HasTruncated.truncated p) : wn_D Nat) c p = _
  rw [dif_pos h]
  rfl
theorem wn_u1_f {c : ByteArray} {p : Nat} (h : ¬ p < c.size) : (Reader.u1 : wn_D Nat) c p = .error (HasTruncated.truncated p) := by
  show (do if h : p < c.size then do set (p + 1); Pure.pure (c[p]'h).toNat else MonadExcept.throw (HasTruncated.truncated p) : wn_D Nat) c p = _
  rw [dif_neg h]
  rfl
theorem wn_u1 : wn_T (Reader.u1 : wn_D Nat) Reader.u1 := by
  intro w c d hA q a s h
  by_cases hq : q < w.size
  · rw [wn_u1_t hq] at h
    obtain ⟨e1, e2⟩ := Prod.mk.inj (Except.ok.inj h)
    have hb := hA q _ (wn_b_at hq)
    have hc := wn_b_lt hb
    have h4 : w[q]'hq = c[d + q]'hc := Option.some.inj (hb.symm.trans (wn_b_at hc))
    rw [← e1, ← e2, h4]
    exact wn_u1_t hc
  · rw [wn_u1_f hq] at h
    cases h
theorem wn_be {α β : Type} (r : wn_D α) (f : α → wn_D β) (c : ByteArray) (p : Nat) : (r >>= f) c p = (match r c p with | .error e => Except.error e | .ok (a, s) => f a c s) := by
  show (do let (a, s) ← r c p; f a c s : Except DecodeError (β × Nat)) = _
  cases r c p <;> rfl
theorem wn_me {α β : Type} (g : α → β) (r : wn_D α) (c : ByteArray) (p : Nat) : (g <$> r) c p = (match r c p with | .error e => Except.error e | .ok (a, s) => Except.ok (g a, s)) := by
  show (do let (a, s) ← r c p; .ok (g a, s) : Except DecodeError (β × Nat)) = _
  cases r c p <;> rfl
theorem wn_pure {α : Type} (a : α) : wn_T (Pure.pure a : wn_D α) (Pure.pure a) := by
  intro w c d hA q b s h
  have h1 : (Except.ok (a, q) : Except DecodeError (α × Nat)) = .ok (b, s) := h
  obtain ⟨e1, e2⟩ := Prod.mk.inj (Except.ok.inj h1)
  rw [← e1, ← e2]
  rfl
theorem wn_throw {α : Type} (e : DecodeError) (r' : wn_D α) : wn_T (MonadExcept.throw e : wn_D α) r' := by
  intro w c d hA q b s h
  have h1 : (Except.error e : Except DecodeError (α × Nat)) = .ok (b, s) := h
  cases h1
theorem wn_bind {α β : Type} {r r' : wn_D α} {f f' : α → wn_D β} (h : wn_T r r') (hf : ∀ a, wn_T (f a) (f' a)) : wn_T (r >>= f) (r' >>= f') := by
  intro w c d hA q b s h1
  rw [wn_be] at h1
  cases hr : r w q with
  | error e => rw [hr] at h1; cases h1
  | ok y =>
    obtain ⟨a, t⟩ := y
    rw [hr] at h1
    rw [wn_be, h w c d hA q a t hr]
    exact hf a w c d hA t b s h1
theorem wn_map {α β : Type} (g : α → β) {r r' : wn_D α} (h : wn_T r r') : wn_T (g <$> r) (g <$> r') := by
  intro w c d hA q b s h1
  rw [wn_me] at h1
  cases hr : r w q with
  | error e => rw [hr] at h1; cases h1
  | ok y =>
    obtain ⟨a, t⟩ := y
    rw [hr] at h1
    rw [wn_me, h w c d hA q a t hr]
    obtain ⟨e1, e2⟩ := Prod.mk.inj (Except.ok.inj h1)
    rw [← e1, ← e2]
theorem wn_u2 : wn_T (Reader.u2 : wn_D Nat) Reader.u2 := wn_bind wn_u1 fun _ => wn_bind wn_u1 fun _ => wn_pure _
theorem wn_s1 : wn_T (Reader.s1 : wn_D Int) Reader.s1 := wn_map _ wn_u1
theorem wn_s2 : wn_T (Reader.s2 : wn_D Int) Reader.s2 := wn_map _ wn_u2
theorem wn_newarray (p p' : Nat) : wn_T (Decoder.newarray p) (Decoder.newarray p') := by
  unfold Decoder.newarray
  refine wn_bind wn_u1 fun a => ?_
  split <;> first | exact wn_pure _ | exact wn_throw _ _
/-- the opcodes that stand in the codes, the oftenest first -/
def wn_L : List Nat := [42, 180, 182, 27, 3, 29, 96, 172, 46, 4, 21, 28, 167, 16, 153, 181, 184, 154, 20, 162, 5, 133, 54, 132, 43, 173, 9, 22, 47, 148, 104, 2, 160, 79, 6, 89, 87, 156, 61, 100, 60, 177, 17, 55, 7, 155, 188, 62, 44, 105, 80, 33, 10, 8, 31, 183, 97, 161, 30, 163, 159, 158, 18, 26, 109, 51, 32, 45, 88, 101, 187, 164, 136, 92, 120, 178, 113, 126, 157, 108, 128, 122, 84, 50, 112, 78, 25, 117, 190, 129, 127, 66, 121, 65, 145, 189, 83, 146, 191, 198, 123, 64, 58, 1, 176, 76, 77]
theorem wn_first {f f' : Nat → wn_D Instr} {L : List Nat} (hf : ∀ b ∈ L, wn_T (f b) (f' b)) {w c : ByteArray} {d : Nat} (hA : wn_A w c d) {x : UInt8} (hx : wn_b w 0 = some x) (hL : x.toNat ∈ L) {i : Instr} {n : Nat} (h : (Reader.u1 >>= f : wn_D Instr) w 0 = .ok (i, n)) : (Reader.u1 >>= f' : wn_D Instr) c d = .ok (i, d + n) := by
  have h0 := wn_b_lt hx
  have ex : w[0]'h0 = x := Option.some.inj ((wn_b_at h0).symm.trans hx)
  have e1 : (Reader.u1 : wn_D Nat) w 0 = .ok (x.toNat, 0 + 1) := by
    rw [wn_u1_t h0, ex]
  have e2 : (Reader.u1 : wn_D Nat) c d = .ok (x.toNat, d + 1) := wn_u1 w c d hA 0 _ _ e1
  rw [wn_be, e1] at h
  rw [wn_be, e2]
  exact hf _ hL w c d hA 1 i n h
set_option maxRecDepth 16384 in
set_option maxHeartbeats 4000000 in
theorem wn_instr {w c : ByteArray} {d : Nat} (hA : wn_A w c d) {x : UInt8} (hx : wn_b w 0 = some x) (hL : x.toNat ∈ wn_L) {i : Instr} {n : Nat} (h : Decoder.instr 0 w 0 = .ok (i, n)) : Decoder.instr d c d = .ok (i, d + n) := by
  delta Decoder.instr at h ⊢
  delta wn_L at hL
  refine wn_first ?_ hA hx hL h
  refine List.forall_mem_cons.mpr ⟨wn_pure _, ?_⟩
  refine List.forall_mem_cons.mpr ⟨wn_bind wn_u2 fun _ => wn_pure _, ?_⟩
  refine List.forall_mem_cons.mpr ⟨wn_bind wn_u2 fun _ => wn_pure _, ?_⟩
  refine List.forall_mem_cons.mpr ⟨wn_pure _, ?_⟩
  refine List.forall_mem_cons.mpr ⟨wn_pure _, ?_⟩
  refine List.forall_mem_cons.mpr ⟨wn_pure _, ?_⟩
  refine List.forall_mem_cons.mpr ⟨wn_pure _, ?_⟩
  refine List.forall_mem_cons.mpr ⟨wn_pure _, ?_⟩
  refine List.forall_mem_cons.mpr ⟨wn_pure _, ?_⟩
  refine List.forall_mem_cons.mpr ⟨wn_pure _, ?_⟩
  refine List.forall_mem_cons.mpr ⟨wn_bind wn_u1 fun _ => wn_pure _, ?_⟩
  refine List.forall_mem_cons.mpr ⟨wn_pure _, ?_⟩
  refine List.forall_mem_cons.mpr ⟨wn_bind wn_s2 fun _ => wn_pure _, ?_⟩
  refine List.forall_mem_cons.mpr ⟨wn_bind wn_s1 fun _ => wn_pure _, ?_⟩
  refine List.forall_mem_cons.mpr ⟨wn_bind wn_s2 fun _ => wn_pure _, ?_⟩
  refine List.forall_mem_cons.mpr ⟨wn_bind wn_u2 fun _ => wn_pure _, ?_⟩
  refine List.forall_mem_cons.mpr ⟨wn_bind wn_u2 fun _ => wn_pure _, ?_⟩
  refine List.forall_mem_cons.mpr ⟨wn_bind wn_s2 fun _ => wn_pure _, ?_⟩
  refine List.forall_mem_cons.mpr ⟨wn_bind wn_u2 fun _ => wn_pure _, ?_⟩
  refine List.forall_mem_cons.mpr ⟨wn_bind wn_s2 fun _ => wn_pure _, ?_⟩
  refine List.forall_mem_cons.mpr ⟨wn_pure _, ?_⟩
  refine List.forall_mem_cons.mpr ⟨wn_pure _, ?_⟩
  refine List.forall_mem_cons.mpr ⟨wn_bind wn_u1 fun _ => wn_pure _, ?_⟩
  refine List.forall_mem_cons.mpr ⟨wn_bind wn_u1 fun _ => wn_bind wn_s1 fun _ => wn_pure _, ?_⟩
  refine List.forall_mem_cons.mpr ⟨wn_pure _, ?_⟩
  refine List.forall_mem_cons.mpr ⟨wn_pure _, ?_⟩
  refine List.forall_mem_cons.mpr ⟨wn_pure _, ?_⟩
  refine List.forall_mem_cons.mpr ⟨wn_bind wn_u1 fun _ => wn_pure _, ?_⟩
  refine List.forall_mem_cons.mpr ⟨wn_pure _, ?_⟩
  refine List.forall_mem_cons.mpr ⟨wn_pure _, ?_⟩
  refine List.forall_mem_cons.mpr ⟨wn_pure _, ?_⟩
  refine List.forall_mem_cons.mpr ⟨wn_pure _, ?_⟩
  refine List.forall_mem_cons.mpr ⟨wn_bind wn_s2 fun _ => wn_pure _, ?_⟩
  refine List.forall_mem_cons.mpr ⟨wn_pure _, ?_⟩
  refine List.forall_mem_cons.mpr ⟨wn_pure _, ?_⟩
  refine List.forall_mem_cons.mpr ⟨wn_pure _, ?_⟩
  refine List.forall_mem_cons.mpr ⟨wn_pure _, ?_⟩
  refine List.forall_mem_cons.mpr ⟨wn_bind wn_s2 fun _ => wn_pure _, ?_⟩
  refine List.forall_mem_cons.mpr ⟨wn_pure _, ?_⟩
  refine List.forall_mem_cons.mpr ⟨wn_pure _, ?_⟩
  refine List.forall_mem_cons.mpr ⟨wn_pure _, ?_⟩
  refine List.forall_mem_cons.mpr ⟨wn_pure _, ?_⟩
  refine List.forall_mem_cons.mpr ⟨wn_bind wn_s2 fun _ => wn_pure _, ?_⟩
  refine List.forall_mem_cons.mpr ⟨wn_bind wn_u1 fun _ => wn_pure _, ?_⟩
  refine List.forall_mem_cons.mpr ⟨wn_pure _, ?_⟩
  refine List.forall_mem_cons.mpr ⟨wn_bind wn_s2 fun _ => wn_pure _, ?_⟩
  refine List.forall_mem_cons.mpr ⟨wn_newarray _ _, ?_⟩
  refine List.forall_mem_cons.mpr ⟨wn_pure _, ?_⟩
  refine List.forall_mem_cons.mpr ⟨wn_pure _, ?_⟩
  refine List.forall_mem_cons.mpr ⟨wn_pure _, ?_⟩
  refine List.forall_mem_cons.mpr ⟨wn_pure _, ?_⟩
  refine List.forall_mem_cons.mpr ⟨wn_pure _, ?_⟩
  refine List.forall_mem_cons.mpr ⟨wn_pure _, ?_⟩
  refine List.forall_mem_cons.mpr ⟨wn_pure _, ?_⟩
  refine List.forall_mem_cons.mpr ⟨wn_pure _, ?_⟩
  refine List.forall_mem_cons.mpr ⟨wn_bind wn_u2 fun _ => wn_pure _, ?_⟩
  refine List.forall_mem_cons.mpr ⟨wn_pure _, ?_⟩
  refine List.forall_mem_cons.mpr ⟨wn_bind wn_s2 fun _ => wn_pure _, ?_⟩
  refine List.forall_mem_cons.mpr ⟨wn_pure _, ?_⟩
  refine List.forall_mem_cons.mpr ⟨wn_bind wn_s2 fun _ => wn_pure _, ?_⟩
  refine List.forall_mem_cons.mpr ⟨wn_bind wn_s2 fun _ => wn_pure _, ?_⟩
  refine List.forall_mem_cons.mpr ⟨wn_bind wn_s2 fun _ => wn_pure _, ?_⟩
  refine List.forall_mem_cons.mpr ⟨wn_bind wn_u1 fun _ => wn_pure _, ?_⟩
  refine List.forall_mem_cons.mpr ⟨wn_pure _, ?_⟩
  refine List.forall_mem_cons.mpr ⟨wn_pure _, ?_⟩
  refine List.forall_mem_cons.mpr ⟨wn_pure _, ?_⟩
  refine List.forall_mem_cons.mpr ⟨wn_pure _, ?_⟩
  refine List.forall_mem_cons.mpr ⟨wn_pure _, ?_⟩
  refine List.forall_mem_cons.mpr ⟨wn_pure _, ?_⟩
  refine List.forall_mem_cons.mpr ⟨wn_pure _, ?_⟩
  refine List.forall_mem_cons.mpr ⟨wn_bind wn_u2 fun _ => wn_pure _, ?_⟩
  refine List.forall_mem_cons.mpr ⟨wn_bind wn_s2 fun _ => wn_pure _, ?_⟩
  refine List.forall_mem_cons.mpr ⟨wn_pure _, ?_⟩
  refine List.forall_mem_cons.mpr ⟨wn_pure _, ?_⟩
  refine List.forall_mem_cons.mpr ⟨wn_pure _, ?_⟩
  refine List.forall_mem_cons.mpr ⟨wn_bind wn_u2 fun _ => wn_pure _, ?_⟩
  refine List.forall_mem_cons.mpr ⟨wn_pure _, ?_⟩
  refine List.forall_mem_cons.mpr ⟨wn_pure _, ?_⟩
  refine List.forall_mem_cons.mpr ⟨wn_bind wn_s2 fun _ => wn_pure _, ?_⟩
  refine List.forall_mem_cons.mpr ⟨wn_pure _, ?_⟩
  refine List.forall_mem_cons.mpr ⟨wn_pure _, ?_⟩
  refine List.forall_mem_cons.mpr ⟨wn_pure _, ?_⟩
  refine List.forall_mem_cons.mpr ⟨wn_pure _, ?_⟩
  refine List.forall_mem_cons.mpr ⟨wn_pure _, ?_⟩
  refine List.forall_mem_cons.mpr ⟨wn_pure _, ?_⟩
  refine List.forall_mem_cons.mpr ⟨wn_pure _, ?_⟩
  refine List.forall_mem_cons.mpr ⟨wn_bind wn_u1 fun _ => wn_pure _, ?_⟩
  refine List.forall_mem_cons.mpr ⟨wn_pure _, ?_⟩
  refine List.forall_mem_cons.mpr ⟨wn_pure _, ?_⟩
  refine List.forall_mem_cons.mpr ⟨wn_pure _, ?_⟩
  refine List.forall_mem_cons.mpr ⟨wn_pure _, ?_⟩
  refine List.forall_mem_cons.mpr ⟨wn_pure _, ?_⟩
  refine List.forall_mem_cons.mpr ⟨wn_pure _, ?_⟩
  refine List.forall_mem_cons.mpr ⟨wn_pure _, ?_⟩
  refine List.forall_mem_cons.mpr ⟨wn_pure _, ?_⟩
  refine List.forall_mem_cons.mpr ⟨wn_bind wn_u2 fun _ => wn_pure _, ?_⟩
  refine List.forall_mem_cons.mpr ⟨wn_pure _, ?_⟩
  refine List.forall_mem_cons.mpr ⟨wn_pure _, ?_⟩
  refine List.forall_mem_cons.mpr ⟨wn_pure _, ?_⟩
  refine List.forall_mem_cons.mpr ⟨wn_bind wn_s2 fun _ => wn_pure _, ?_⟩
  refine List.forall_mem_cons.mpr ⟨wn_pure _, ?_⟩
  refine List.forall_mem_cons.mpr ⟨wn_pure _, ?_⟩
  refine List.forall_mem_cons.mpr ⟨wn_bind wn_u1 fun _ => wn_pure _, ?_⟩
  refine List.forall_mem_cons.mpr ⟨wn_pure _, ?_⟩
  refine List.forall_mem_cons.mpr ⟨wn_pure _, ?_⟩
  refine List.forall_mem_cons.mpr ⟨wn_pure _, ?_⟩
  refine List.forall_mem_cons.mpr ⟨wn_pure _, ?_⟩
  exact fun x hx => absurd hx List.not_mem_nil
theorem wn_run (r : wn_D Instr) (c : ByteArray) (p : Nat) : (do let (j, s) ← Reader.runAt r c p; Pure.pure (j, s - p) : Except DecodeError (Instr × Nat)) = (match r c p with | .error e => Except.error e | .ok (j, s) => Except.ok (j, s - p)) := by
  show (do let (j, s) ← r c p; Pure.pure (j, s - p) : Except DecodeError (Instr × Nat)) = _
  cases r c p <;> rfl
theorem wn_de (c : ByteArray) (p : Nat) : decode c p = (match Decoder.instr p c p with | .error e => Except.error e | .ok (j, s) => Except.ok (j, s - p)) := wn_run (Decoder.instr p) c p
theorem wn_dec {w c : ByteArray} {d : Nat} (hA : wn_A w c d) {x : UInt8} (hx : wn_b w 0 = some x) (hL : x.toNat ∈ wn_L) {i : Instr} {n : Nat} (h : decode w 0 = .ok (i, n)) : decode c d = .ok (i, n) := by
  rw [wn_de] at h
  cases hr : Decoder.instr 0 w 0 with
  | error e => rw [hr] at h; cases h
  | ok y =>
    obtain ⟨j, s⟩ := y
    rw [hr] at h
    obtain ⟨e1, e2⟩ := Prod.mk.inj (Except.ok.inj h)
    rw [wn_de, wn_instr hA hx hL hr]
    show (Except.ok (j, d + s - d) : Except DecodeError (Instr × Nat)) = _
    rw [e1, Nat.add_sub_cancel_left, ← e2, Nat.sub_zero]
def wn_ok (bs : List UInt8) (i : Instr) (n : Nat) : Bool := match bs with
  | [] => false
  | b :: t => wn_L.any (fun y => Nat.beq b.toNat y) && decide (decode (ByteArray.mk (Array.mk (b :: t))) 0 = .ok (i, n))
def wn_chk : List UInt8 → Nat → List (Nat × Instr × Nat) → Bool
  | _, _, [] => true
  | l, p, (pc, i, n) :: t => Nat.beq p pc && (wn_ok (l.take n) i n && wn_chk (l.drop n) (p + n) t)
theorem wn_okd {c : ByteArray} {p n : Nat} {i : Instr} (h : wn_ok ((c.data.toList.drop p).take n) i n = true) : decode c p = .ok (i, n) := by
  have hA : wn_A (ByteArray.mk (Array.mk ((c.data.toList.drop p).take n))) c p := by
    intro j x hx
    have h1 : ((c.data.toList.drop p).take n)[j]? = some x := hx
    rw [List.getElem?_take] at h1
    by_cases hj : j < n
    · rw [if_pos hj, List.getElem?_drop] at h1
      exact h1
    · rw [if_neg hj] at h1
      cases h1
  generalize (c.data.toList.drop p).take n = bs at h hA
  cases bs with
  | nil =>
    have h1 : false = true := h
    cases h1
  | cons b t =>
    have h1 : (wn_L.any (fun y => Nat.beq b.toNat y) && decide (decode (ByteArray.mk (Array.mk (b :: t))) 0 = .ok (i, n))) = true := h
    obtain ⟨h2, h3⟩ := (Bool.and_eq_true_iff).mp h1
    obtain ⟨y, h4, h5⟩ := List.any_eq_true.mp h2
    have h6 : b.toNat = y := Nat.eq_of_beq_eq_true h5
    exact wn_dec hA (x := b) rfl (by rw [h6]; exact h4) (of_decide_eq_true h3)
theorem wn_all {c : ByteArray} : ∀ (t : List (Nat × Instr × Nat)) (p : Nat), wn_chk (c.data.toList.drop p) p t = true → ∀ e ∈ t, decode c e.1 = .ok e.2
  | [], _, _, _, he => absurd he List.not_mem_nil
  | (pc, i, n) :: t, p, h, e, he => by
    have h1 : (Nat.beq p pc && (wn_ok ((c.data.toList.drop p).take n) i n && wn_chk ((c.data.toList.drop p).drop n) (p + n) t)) = true := h
    obtain ⟨h2, h3⟩ := (Bool.and_eq_true_iff).mp h1
    obtain ⟨h4, h5⟩ := (Bool.and_eq_true_iff).mp h3
    have hp : p = pc := Nat.eq_of_beq_eq_true h2
    rcases List.mem_cons.mp he with he | he
    · rw [he, ← hp]
      exact wn_okd h4
    · have e3 : (c.data.toList.drop p).drop n = c.data.toList.drop (p + n) := by
        rw [List.drop_drop]
      rw [e3] at h5
      exact wn_all t (p + n) h5 e he
theorem wn_at {c : ByteArray} {t : List (Nat × Instr × Nat)} (g : ∀ e ∈ t, decode c e.1 = .ok e.2) (k : Nat) {pc n : Nat} {i : Instr} (h : t[k]? = some (pc, i, n)) : decode c pc = .ok (i, n) := g (pc, i, n) (List.mem_of_getElem? h)
