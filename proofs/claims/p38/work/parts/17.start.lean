/-! THE CLAIM OUT OF ONE WALK OF THE LAW'S BODY. Your part is whole_start (and what it stands on); all else here is the same for every law, but numbers. -/
def R_law : String := "SlowerAboveLaw"
def lw_P (b : Addr) (xs : List Int32) (args : Array Value) (s : State) : Prop := args = #[.ref b] ∧ s.IntsAt b xs ∧ xs.length ≤ 3072 ∧ (Jvm.Cond.and given_1 narrow_1).before args s = true
def lw_Q (_ : Array Value) (s : State) (o : Outcome) (t : State) : Prop := o = .returned (some (.int 1)) ∧ Framed s o t [] 600000 7302250
def lw_Z (below : List Frame) (a : Array Value) (s : State) : State → Prop := fun t => ∃ o, t.status = .running ∧ Ended t below o ∧ lw_Q a s o t
/-- the law's own end, with 1 on the stack, nothing written that was there before, its room as the claim has it -/
theorem lw_ret {p : Program} {l : Launch} {e : Env} {s : State} {m : MethodId} {below : List Frame} {meth : Method} {c : Code} {b : Nat} (hx : p.tables.exec = Jvm.exec) (hb : c.code = code) (hr : meth.sig.returnType = ret) (hlocks : meth.locks = false) {pc : Nat} {H : Heap} {ls : Array Slot} (hdg : decode code pc = .ok (.ireturn, 1)) : W p l e room_1 s m #[Value.ref b] below meth c H [] 600000 7302250 (lw_Z below #[Value.ref b] s) (F0 m pc ls [.int 1]) := by
  intro T hT X
  obtain ⟨fs, hret, hrun, hended, hW, hframe⟩ := X.leave (v := some (.int 1)) (hlocks := hlocks) (fun h => by rw [hr] at h; cases h)
  have hmeth' : T.vm.method? m = some meth := X.method'
  refine ⟨T.setFrames fs, ?_, .returned (some (.int 1)), hrun, hended, rfl, ⟨_, rfl⟩, hW, hframe⟩
  jvm_step X.here [X.here.top, hx, hb, hdg, hmeth', hr, ret, narrow_b1]
  (try refine ⟨rfl, ?_⟩); (try refine ⟨rfl, ?_⟩)
  first | (intro acts; rw [hret _ acts rfl rfl rfl]) | rw [hret _ _ rfl rfl rfl]
  exact Steps.refl _
/-- what holds at the law's entry: the machine, the code, the tables' words (any of lw_tbl by 'hts w (by decide +kernel)'), the script of L ints xs at the cell b, what the Statement gives of the start (any of its parts by flat_of_before) -/
def lw_At (p : Program) (s : State) (m : MethodId) (meth : Method) (c : Code) (b L : Nat) (xs : Nat → Int32) : Prop :=
  p.tables.exec = Jvm.exec ∧ c.code = code ∧ meth.sig.returnType = ret ∧ c.maxLocals = 4 ∧ s.vm.findClass R_law = some m.cls ∧ (∀ w ∈ lw_tbl, w.before #[Value.ref b] s = true) ∧ va_X b L xs s s.heap ∧ b < s.heap.size ∧ meth.locks = false ∧ (Jvm.Cond.and given_1 narrow_1).before #[Value.ref b] s = true
/-- THE PURE CLAIM: the abstract machine runs the law on the script to its end, with 1, within the room -/
def mm_Z : mm_M := ([], fun _ _ => 0, fun _ _ => 0, fun _ _ => none)
def mm_Law (X : mm_C) : Prop := ∃ (n : Nat) (Mf : mm_M), mm_run X n 13 mY_L_law 0 (lv_args 0 [.ref mm_ext]) [] mm_Z = some (some (.int 1), Mf) ∧ Mf.1.length ≤ 600000 ∧ mm_sl Mf ≤ 7302250
theorem mm_lawret {i : Instr} {st : List Value} (h : mm_ret (some .boolean) i st = some (some (.int 1))) : i = .ireturn ∧ st = [.int 1] := by
  cases i with
  | ireturn =>
    match st, h with
    | [.int v], h =>
      obtain ⟨h1, h2⟩ := mm_ifs (show (if FieldType.boolean = .int ∨ narrow .boolean (Value.int v) = Value.int v then some (some (Value.int v)) else none) = some (some (Value.int 1)) from h)
      cases h2
      exact ⟨rfl, rfl⟩
  | lreturn =>
    match st, h with
    | [.long v], h =>
      obtain ⟨h1, h2⟩ := mm_ifs (show (if some FieldType.boolean = some .long then some (some (Value.long v)) else none) = some (some (Value.int 1)) from h)
      cases h2
  | areturn =>
    match st, h with
    | [.ref v], h => exact mm_no h
    | [.null], h => exact mm_no h
  | return_ =>
    match st, h with
    | [], h =>
      obtain ⟨h1, h2⟩ := mm_ifs (show (if some FieldType.boolean = none then some (none : Option Value) else none) = some (some (Value.int 1)) from h)
      cases h2
  | _ => exact mm_no h
set_option maxHeartbeats 4000000 in
theorem mm_whole {p : Program} {e : Env} {s : State} {m : MethodId} {below : List Frame} {meth : Method} {c : Code} (l : Launch) {b L : Nat} {xs : Nat → Int32} (HL : mm_Law (L, xs)) (C0 : lw_At p s m meth c b L xs) : W p l e room_1 s m #[Value.ref b] below meth c s.heap [] 0 0 (lw_Z below #[Value.ref b] s) (entryFrame m ([Value.ref b] : List Value).toArray 4) := by
  obtain ⟨hx, hb, hr, hml, hown, hts, hX, hbl, hlocks, hgv⟩ := C0
  obtain ⟨ex, fz, D, dA, he0, hfz, E⟩ := mm_Env_of hts hX hbl hgv
  obtain ⟨n, Mf, hrun, hn1, hn2⟩ := HL
  have e0 : mm_ad s.heap.size ex mm_ext = b := by rw [mm_adx (Nat.lt_irrefl _), Nat.sub_self]; exact he0
  have hl := lv_entry ([.ref b]) (n := 4) (Nat.le_of_ble_eq_true rfl)
  rw [lg_entry_eq]
  have hl2 : lv_has ((lg_sl ([.ref b]) ++ List.replicate (4 - (lg_sl ([.ref b])).length) Slot.unset).toArray) 4 (mm_ml' (mm_ad s.heap.size ex) fz (lv_args 0 [.ref mm_ext])) := by
    rw [← mm_args _ _ hfz]
    show lv_has _ 4 (lv_args 0 [.ref (mm_ad s.heap.size ex mm_ext)])
    rw [e0]
    exact hl
  have k := mm_sim l (L, xs) s.heap.size ex fz D dA n 13 mY_L_law 0 (lv_args 0 [.ref mm_ext]) [] mm_Z (some (.int 1)) Mf hrun p e room_1 s m #[Value.ref b] below meth c s.heap [] _ (lw_Z below #[Value.ref b] s) 0 0
    ⟨hx, hb, hml, hfz, fun w hw => hts w (List.mem_filter.mp hw).1, hown, fun h => absurd h (by decide), E, rfl, by decide, by decide⟩ (by decide) (by decide) ⟨fun k q h => by simp [mm_w, mm_Z] at h, va_S.rf⟩ (Nat.le_refl _) (Nat.le_refl _) (by show _ ≤ 600000; omega) (by show _ ≤ 7302250; omega) hl2
    (fun pc' i st' H' locs' ls' hd' hr' hI' => by
      obtain ⟨rfl, rfl⟩ := mm_lawret hr'
      refine va_forget (fun q hq => hI'.2.2.2 q hq) ?_
      refine W.widen (k := 600000) (n := 7302250) (by omega) (by omega) ?_
      exact lw_ret hx hb hr hlocks hd')
  exact k
