theorem mm_Env_to {X : mm_C} {z : Nat} {ex : Nat → Nat} {fz : Value} {D : va_G} {dA : Nat → ClassId} {u U : State} {H H1 : Heap} (hvm : u.vm.Alike U.vm) (hR : ∀ (o : String) (k : Nat) (tx : String) (a : Nat), vk_R o k tx a u → vk_R o k tx a U)
    (hF : va_Nw (.fieldLinkNest RX5 113 "SlowerAbove" "BINDINGS" "[I" "SlowerAbove") u → va_Nw (.fieldLinkNest RX5 113 "SlowerAbove" "BINDINGS" "[I" "SlowerAbove") U) (hM : ∀ (o : String) (k : Nat) (y : MethodName), va_Nw (.methodLinkNest o k y "SlowerAbove") u → va_Nw (.methodLinkNest o k y "SlowerAbove") U)
    (hq : ∀ a : Nat, a < H.size → ¬ mm_A z a → H1[a]? = H[a]?) (E : mm_Env X z ex fz D dA u H) : mm_Env X z ex fz D dA U H1 := by
  obtain ⟨e1, ⟨e2, e3⟩, ⟨e4, e5⟩, e6, e7, e8, e9, e10, e11, e12⟩ := E
  refine ⟨va_K.moved hvm e1, ⟨va_X.moved hvm (e2.kept ?_), e3⟩, ⟨va_Z.moved hvm (e4.kept hq), va_T.moved hvm (e5.kept hq)⟩, va_Z.moved hvm (e6.kept hq), va_Z.moved hvm (e7.kept hq), fun i hi => ?_, hF e9, fun q h => hM _ _ _ (e10 q h), va_AO.moved hvm e11, va_AO.moved hvm e12⟩
  · obtain ⟨scr, g, -⟩ := e2
    exact hq _ (Array.getElem?_eq_some_iff.mp g).1 (fun w => Nat.lt_irrefl _ (Nat.lt_of_lt_of_le e3 w))
  · obtain ⟨s1, s2, s3, s4, s5⟩ := e8 i hi
    exact ⟨hR _ _ _ _ s1, va_O.moved hvm (s2.kept hq), va_OF.moved hvm (s3.kept hq), va_OF.moved hvm (s4.kept hq), va_T.moved hvm (s5.kept hq)⟩
theorem mm_Env_same {X : mm_C} {z : Nat} {ex : Nat → Nat} {fz : Value} {D : va_G} {dA : Nat → ClassId} {u U : State} {H : Heap} (hv : U.vm = u.vm) (E : mm_Env X z ex fz D dA u H) : mm_Env X z ex fz D dA U H :=
  mm_Env_to (by rw [hv]; exact Vm.Alike.refl _) (fun _ _ _ _ h => vk_R.same hv h) (fun h => va_Nw.same rfl hv.symm h) (fun _ _ _ h => va_Nw.same rfl hv.symm h) (fun _ _ _ => rfl) E
theorem mm_Env_warm {X : mm_C} {z : Nat} {ex : Nat → Nat} {fz : Value} {D : va_G} {dA : Nat → ClassId} {s U : State} {H : Heap} {locs : List Loc} (hW : s.WarmedH U.vm) (hS : va_S (mm_A z) s.heap H locs) (E : mm_Env X z ex fz D dA s s.heap) : mm_Env X z ex fz D dA U H :=
  mm_Env_to hW.alike (fun _ _ _ _ h => vk_R.warm hW h) (fun h => va_Nw.warmF hW h) (fun _ _ _ h => va_Nw.warmM hW h) hS.2.1 E
def mm_room (d mc ms : Nat) : Room := { frames := d + 1, cells := mc, slots := ms, locals := 30 + 40 * d }
def mm_ws (Y : mm_Y) : List Cond := Cond.code Y.2.1 Y.2.2.1 Y.2.2.2.1 Y.2.2.2.2 :: mm_gt
def mm_Pc (X : mm_C) (z : Nat) (ex : Nat → Nat) (fz : Value) (D : va_G) (dA : Nat → ClassId) (as : List Value) (M : mm_M) : Array Value → State → Prop := fun v U => v = (mm_ms (mm_ad z ex) fz as).toArray ∧ U.heap.size = z + M.1.length ∧ va_P D vwCl (mm_w z (mm_ad z ex) dA M) U.heap ∧ mm_Env X z ex fz D dA U U.heap
def mm_Qc (z : Nat) (ex : Nat → Nat) (fz : Value) (D : va_G) (dA : Nat → ClassId) (r : Option Value) (M' : mm_M) : Array Value → State → Outcome → State → Prop := fun _ st oc t => oc = .returned (r.map (mm_v (mm_ad z ex) fz)) ∧ va_P D vwCl (mm_w z (mm_ad z ex) dA M') t.heap ∧ va_F (mm_A z) st t
theorem mm_Pc_blind {X : mm_C} {z : Nat} {ex : Nat → Nat} {fz : Value} {D : va_G} {dA : Nat → ClassId} {as : List Value} {M : mm_M} : FrameBlind (mm_Pc X z ex fz D dA as M) := by
  intro a U g mk h
  obtain ⟨h1, h2, h3, E⟩ := h
  exact ⟨h1, h2, h3, mm_Env_same (u := U) rfl E⟩
theorem mm_args (ad : Nat → Nat) (fz : Value) (hfz : fz.category = 1) : ∀ (as : List Value) (i : Nat), lv_args i (mm_ms ad fz as) = mm_ml' ad fz (lv_args i as)
  | [], _ => rfl
  | v :: as, i => by
    show (i, mm_v ad fz v) :: lv_args (if (mm_v ad fz v).category = 2 then i + 2 else i + 1) (mm_ms ad fz as) = (i, mm_v ad fz v) :: mm_ml' ad fz (lv_args (if v.category = 2 then i + 2 else i + 1) as)
    rw [mm_vcat hfz, mm_args ad fz hfz as]
theorem mm_lgsl (ad : Nat → Nat) (fz : Value) (hfz : fz.category = 1) (as : List Value) : (lg_sl (mm_ms ad fz as)).length = (lg_sl as).length := by
  unfold lg_sl mm_ms
  rw [List.length_flatMap, List.length_flatMap, List.map_map]
  congr 1
  refine List.map_congr_left (fun v _ => ?_)
  show (if (mm_v ad fz v).category = 2 then [Slot.val (mm_v ad fz v), .second] else [.val (mm_v ad fz v)]).length = (if v.category = 2 then [Slot.val v, .second] else [.val v]).length
  rw [mm_vcat hfz]
  split <;> rfl
theorem mm_run_M (X : mm_C) : ∀ (n d : Nat) (Y : mm_Y) (pc : Nat) (lv : mm_L) (st : List Value) (M : mm_M) (r : Option Value) (Mf : mm_M), mm_run X n d Y pc lv st M = some (r, Mf) → M.1.length ≤ Mf.1.length ∧ mm_sl M ≤ mm_sl Mf := by
  intro n
  induction n with
  | zero => intro d Y pc lv st M r Mf h; exact mm_no h
  | succ n ih =>
    intro d Y pc lv st M r Mf h
    unfold mm_run at h
    split at h
    · exact mm_no h
    · split at h
      · rename_i o ho
        have h1 := mm_next_M ho
        have h2 := ih _ _ _ _ _ _ _ _ h
        omega
      · split at h
        · split at h
          · exact mm_no h
          · split at h
            · split at h
              · rename_i r1 hr1
                have h1 := ih _ _ _ _ _ _ _ _ hr1
                have h2 := ih _ _ _ _ _ _ _ _ h
                omega
              · exact mm_no h
            · exact mm_no h
        · split at h
          · obtain ⟨-, h⟩ := mm_ifs h
            cases h
            exact ⟨Nat.le_refl _, Nat.le_refl _⟩
          · exact mm_no h
/-- a call has come back -/
theorem mm_go {p : Program} {l : Launch} {e : Env} {R : Room} {s : State} {m : MethodId} {args : Array Value} {below : List Frame} {meth : Method} {c : Code} {H : Heap} {locs : List Loc} {Q : State → Prop} {cells slots mc ms pc : Nat} {ls : Array Slot} {z : Nat} {ex : Nat → Nat} {fz : Value} {D : va_G} {dA : Nat → ClassId} {M M' : mm_M} {st0 rest : List Value} {a : Array Value} {r : Option Value}
    (hr : va_Run p l e R s m args below meth c H locs cells slots mc ms (F0 m pc ls st0) rest (mm_Qc z ex fz D dA r M' a) (mm_A z)) (I : mm_In z ex D dA s M H locs)
    (k : ∀ (H1 : Heap) (locs1 : List Loc), mm_In z ex D dA s M' H1 locs1 → W p l e R s m args below meth c H1 locs1 (cells + mc) (slots + ms) Q (F0 m (pc + 3) ls ((r.map (mm_v (mm_ad z ex) fz)).toList ++ rest))) : W p l e R s m args below meth c H locs cells slots Q (F0 m pc ls st0) := by
  intro T hT S
  obtain ⟨v, st₀, t, T', L, h0, S', hL, e1, e2, ⟨hv, hP, hF⟩, st⟩ := hr T hT S
  cases hv
  obtain ⟨f1, f2⟩ := hF
  rw [h0] at f1 f2
  have hS := I.2
  obtain ⟨t2, a1, b1⟩ := k T'.heap (locs ++ L) ⟨by rw [e1]; exact hP, Nat.le_trans hS.1 (by rw [e1]; exact f1), fun q g1 g2 => by rw [e1, f2 q (Nat.lt_of_lt_of_le g1 hS.1) g2]; exact hS.2.1 q g1 g2, fun q hq => by
    rcases List.mem_append.mp hq with h | h
    · exact hS.2.2 q h
    · exact hL q h⟩ T' rfl S'
  exact ⟨t2, st t2 a1, b1⟩
theorem mm_gtgood : GoodIn mm_gt mm_gt := fun w h => ⟨h, good_of_word (List.mem_filter.mp h).2⟩
theorem mm_goodc {L : List Cond} (h : ∀ w ∈ L, w ∈ lw_tbl ∧ goodWord w = true) : GoodIn mm_gt (L ++ mm_gt) := by
  intro w hw
  rcases List.mem_append.mp hw with h1 | h1
  · obtain ⟨h2, h3⟩ := h w h1
    exact ⟨mm_in h2 h3, good_of_word h3⟩
  · exact mm_gtgood w h1
/-- the ends of a method -/
theorem mm_s_ret {p : Program} {l : Launch} {e : Env} {R : Room} {s : State} {m : MethodId} {args : Array Value} {below : List Frame} {meth : Method} {c : Code} {H : Heap} {locs : List Loc} {cells slots pc : Nat} {ls : Array Slot} {z : Nat} {ex : Nat → Nat} {fz : Value} {D : va_G} {dA : Nat → ClassId} {M : mm_M} {i : Instr} {st : List Value} {r : Option Value} {ret : Option FieldType} {cc : ByteArray}
    (hx : p.tables.exec = Jvm.exec) (hb : c.code = cc) (hr : meth.sig.returnType = ret) (hlocks : meth.locks = false) (I : mm_In z ex D dA s M H locs) (hd : decode cc pc = .ok (i, 1)) (h : mm_ret ret i st = some r) : W p l e R s m args below meth c H locs cells slots (MQ below (mm_Qc z ex fz D dA r M) args s cells slots (mm_A z)) (F0 m pc ls (mm_ms (mm_ad z ex) fz st)) := by
  have hq : ∀ t : State, t.heap = H → s.WarmedH t.vm → mm_Qc z ex fz D dA r M args s (.returned (r.map (mm_v (mm_ad z ex) fz))) t := fun t ht _ => ⟨rfl, by rw [ht]; exact I.1, I.2.F ht⟩
  cases i with
  | ireturn =>
    match st, h with
    | [.int v], h =>
      cases ret with
      | none => exact mm_no h
      | some ty =>
        obtain ⟨h1, h2⟩ := mm_ifs (show (if ty = .int ∨ narrow ty (.int v) = .int v then some (some (.int v)) else none) = some r from h)
        cases h2
        exact W.zret hx hb hr (by rcases h1 with rfl | h1; rfl; exact h1) hq I.2.2.2 hd hlocks
  | lreturn =>
    match st, h with
    | [.long v], h =>
      obtain ⟨h1, h2⟩ := mm_ifs (show (if ret = some .long then some (some (.long v)) else none) = some r from h)
      cases h2
      exact W.lret hx hb (hr.trans h1) hq I.2.2.2 hd hlocks
  | areturn =>
    match st, h with
    | [.ref v], h =>
      cases ret with
      | none => exact mm_no h
      | some ty =>
        cases ty with
        | object n =>
          cases (show some (some (Value.ref v)) = some r from h)
          exact W.aret hx hb hr (Or.inl ⟨n, rfl⟩) (Or.inr ⟨_, rfl⟩) hq I.2.2.2 hd hlocks
        | _ => exact mm_no h
    | [.null], h =>
      cases ret with
      | none => exact mm_no h
      | some ty =>
        cases ty with
        | object n =>
          cases (show some (some Value.null) = some r from h)
          exact W.aret hx hb hr (Or.inl ⟨n, rfl⟩) (Or.inl rfl) hq I.2.2.2 hd hlocks
        | _ => exact mm_no h
  | return_ =>
    match st, h with
    | [], h =>
      obtain ⟨h1, h2⟩ := mm_ifs (show (if ret = none then some none else none) = some r from h)
      cases h2
      exact W.vret hx hb (hr.trans h1) hq I.2.2.2 hd hlocks
  | _ => exact mm_no h
