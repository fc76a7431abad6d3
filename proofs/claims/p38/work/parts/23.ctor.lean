/-! the two constructors, by the rules -/
def lk : List (Nat × Nat × Nat) → Nat → Nat → Option Nat
  | [], _, _ => none
  | e :: W, a, k => if a = e.1 then (if k = e.2.1 then some e.2.2 else lk W a k) else lk W a k
theorem lk_up (W : List (Nat × Nat × Nat)) (a k v : Nat) : mm_up (lk W) a k (some v) = lk ((a, k, v) :: W) := by
  funext b j
  unfold mm_up
  show _ = (if b = a then (if j = k then some v else lk W b j) else lk W b j)
  by_cases h : b = a
  · rw [if_pos h, if_pos h, h]
  · rw [if_neg h, if_neg h]
theorem lk_none : ∀ (W : List (Nat × Nat × Nat)) (n k : Nat), W.all (fun e => decide (e.1 ≠ n)) = true → lk W n k = none := by
  intro W
  induction W with
  | nil => intro n k _; rfl
  | cons e W ih =>
    intro n k h
    rw [List.all_cons, Bool.and_eq_true] at h
    show (if n = e.1 then (if k = e.2.1 then some e.2.2 else lk W n k) else lk W n k) = none
    rw [if_neg (fun z => (of_decide_eq_true h.1) z.symm)]
    exact ih n k h.2
theorem lk_row {W : List (Nat × Nat × Nat)} {n : Nat} (h : W.all (fun e => decide (e.1 ≠ n)) = true) : mm_row (lk W) n (fun _ => none) = lk W := by
  funext b j
  unfold mm_row
  by_cases e : b = n
  · rw [if_pos e, e, lk_none W n j h]
  · rw [if_neg e]
theorem z_up {α : Type} [Zero α] (a k : Nat) : mm_up (fun _ _ => (0 : α)) a k 0 = fun _ _ => 0 := by
  funext b j
  unfold mm_up
  by_cases h : b = a
  · rw [if_pos h]; exact ite_self _
  · rw [if_neg h]
theorem z_row {α : Type} [Zero α] (n : Nat) : mm_row (fun _ _ => (0 : α)) n (fun _ => 0) = fun _ _ => 0 := by
  funext b j
  unfold mm_row
  by_cases h : b = n
  · rw [if_pos h]
  · rw [if_neg h]
def WW : List (Nat × Nat × Nat) := [(145, 40, 170), (145, 39, 169), (145, 38, 168), (145, 35, 167), (145, 34, 166), (145, 33, 165), (145, 32, 164), (145, 31, 163), (145, 30, 162), (145, 29, 161), (145, 28, 160), (145, 27, 159), (145, 26, 158), (145, 25, 157), (145, 24, 156), (145, 22, 155), (145, 20, 154), (145, 12, 153), (145, 11, 152), (145, 10, 151), (145, 6, 150), (145, 5, 149), (145, 4, 148), (145, 3, 147), (145, 0, 146), (23, 5, 142), (142, 1, 144), (142, 0, 143), (23, 4, 139), (139, 1, 141), (139, 0, 140), (23, 3, 136), (136, 1, 138), (136, 0, 137), (23, 2, 133), (133, 1, 135), (133, 0, 134), (23, 1, 130), (130, 1, 132), (130, 0, 131), (23, 0, 127), (127, 1, 129), (127, 0, 128), (22, 3, 108), (108, 2, 122), (122, 3, 126), (122, 2, 125), (122, 1, 124), (122, 0, 123), (108, 1, 116), (116, 4, 121), (116, 3, 120), (116, 2, 119), (116, 1, 118), (116, 0, 117), (108, 0, 109), (109, 5, 115), (109, 4, 114), (109, 3, 113), (109, 2, 112), (109, 1, 111), (109, 0, 110), (22, 2, 89), (89, 2, 103), (103, 3, 107), (103, 2, 106), (103, 1, 105), (103, 0, 104), (89, 1, 97), (97, 4, 102), (97, 3, 101), (97, 2, 100), (97, 1, 99), (97, 0, 98), (89, 0, 90), (90, 5, 96), (90, 4, 95), (90, 3, 94), (90, 2, 93), (90, 1, 92), (90, 0, 91), (22, 1, 70), (70, 2, 84), (84, 3, 88), (84, 2, 87), (84, 1, 86), (84, 0, 85), (70, 1, 78), (78, 4, 83), (78, 3, 82), (78, 2, 81), (78, 1, 80), (78, 0, 79), (70, 0, 71), (71, 5, 77), (71, 4, 76), (71, 3, 75), (71, 2, 74), (71, 1, 73), (71, 0, 72), (22, 0, 51), (51, 2, 65), (65, 3, 69), (65, 2, 68), (65, 1, 67), (65, 0, 66), (51, 1, 59), (59, 4, 64), (59, 3, 63), (59, 2, 62), (59, 1, 61), (59, 0, 60), (51, 0, 52), (52, 5, 58), (52, 4, 57), (52, 3, 56), (52, 2, 55), (52, 1, 54), (52, 0, 53), (0, 9, 45), (45, 4, 50), (45, 3, 49), (45, 2, 48), (45, 1, 47), (45, 0, 46), (0, 8, 43), (43, 0, 44), (0, 7, 38), (38, 0, 1), (38, 2, 40), (40, 1, 42), (40, 0, 41), (38, 1, 39), (0, 6, 37), (37, 2, 31), (37, 1, 24), (37, 0, 1), (0, 5, 31), (31, 4, 36), (31, 3, 35), (31, 2, 34), (31, 1, 33), (31, 0, 32), (0, 4, 24), (24, 5, 30), (24, 4, 29), (24, 3, 28), (24, 2, 27), (24, 1, 26), (24, 0, 25), (0, 3, 23), (0, 2, 22), (0, 1, 3), (3, 2, 17), (17, 3, 21), (17, 2, 20), (17, 1, 19), (17, 0, 18), (3, 1, 11), (11, 4, 16), (11, 3, 15), (11, 2, 14), (11, 1, 13), (11, 0, 12), (3, 0, 4), (4, 5, 10), (4, 4, 9), (4, 3, 8), (4, 2, 7), (4, 1, 6), (4, 0, 5), (0, 0, 1), (1, 0, 2)]
def sM (n s : Nat) : mm_M := (KK.take n, fun _ _ => 0, fun _ _ => 0, lk (WW.drop s))
theorem sM_len {n s : Nat} (h : n < 171) : (sM n s).1.length = n := by
  show (KK.take n).length = n
  rw [List.length_take]
  exact Nat.min_eq_left (Nat.le_of_lt h)
theorem sM_nw {n s : Nat} {kd : Nat × Nat} (hn : n < 171) (hk : KK[n]? = some kd) (hw : (WW.drop s).all (fun e => decide (e.1 ≠ n)) = true) : mm_nw (sM n s) kd = sM (n + 1) s := by
  unfold mm_nw
  rw [sM_len hn]
  have e : KK.take (n + 1) = KK.take n ++ [kd] := by rw [List.take_succ, hk]; rfl
  show (KK.take n ++ [kd], mm_row (fun _ _ => (0 : Int32)) n (fun _ => 0), mm_row (fun _ _ => (0 : Int64)) n (fun _ => 0), mm_row (lk (WW.drop s)) n (fun _ => none)) = (KK.take (n + 1), _, _, lk (WW.drop s))
  rw [z_row, z_row, lk_row hw, e]
section SR
variable {X : mm_C} {d : Nat} {Y : mm_Y} {pc pc' : Nat} {lv lv' : mm_L} {st : List Value} {M : mm_M} {r : Option Value × mm_M}
theorem kk_lt {n : Nat} {kd : Nat × Nat} (hk : KK[n]? = some kd) : n < 171 := (List.getElem?_eq_some_iff.mp hk).1
theorem sr_ext {n s : Nat} {kd : Nat × Nat} (hk : KK[n]? = some kd) : (sM n s).1.length < mm_ext := by
  rw [sM_len (kk_lt hk)]
  exact Nat.lt_trans (kk_lt hk) (by decide)
theorem sr_obj {a cp : Nat} (hd : decode Y.2.2.1 pc = .ok (.invokespecial cp, 3)) (hp : pc + 3 = pc') (hb : mm_bi Y.1 cp = some 0) (hs : (st.map fun v => v.category).sum ≤ 8) (k : mr X d Y pc' lv st M r) : mr X d Y pc lv (.ref a :: st) M r := by
  subst hp
  refine mr_hpg (q := (3, st, M)) hd rfl rfl ?_ rfl k
  show (if mm_bi Y.1 cp = some 0 ∧ (st.map fun v => v.category).sum ≤ 8 then some (3, st, M) else none) = _
  rw [if_pos ⟨hb, hs⟩]
theorem sr_new {cp c n s : Nat} (hd : decode Y.2.2.1 pc = .ok (.new cp, 3)) (hp : pc + 3 = pc') (hc : mm_cl Y.1 cp = some c) (hk : KK[n]? = some (c, mm_nf c)) (hw : (WW.drop s).all (fun e => decide (e.1 ≠ n)) = true) (k : mr X d Y pc' lv (.ref n :: st) (sM (n + 1) s) r) : mr X d Y pc lv st (sM n s) r := by
  subst hp
  refine mr_hpg (q := (3, .ref n :: st, sM (n + 1) s)) hd rfl rfl ?_ rfl k
  show (mm_cl Y.1 cp).bind (fun c => if (sM n s).1.length < mm_ext then some (3, .ref (sM n s).1.length :: st, mm_nw (sM n s) (c, mm_nf c)) else none) = _
  rw [hc, Option.bind_some, if_pos (sr_ext hk), sM_len (kk_lt hk), sM_nw (kk_lt hk) hk hw]
theorem sr_na {t : ArrayType} {x : Int32} {n s : Nat} (hd : decode Y.2.2.1 pc = .ok (.newarray t, 2)) (hp : pc + 2 = pc') (h0 : ¬ x < 0) (h1 : x.toNatClampNeg ≤ 10000) (h2 : 100 ≤ mm_at t) (hk : KK[n]? = some (mm_at t, x.toNatClampNeg)) (hw : (WW.drop s).all (fun e => decide (e.1 ≠ n)) = true) (k : mr X d Y pc' lv (.ref n :: st) (sM (n + 1) s) r) : mr X d Y pc lv (.int x :: st) (sM n s) r := by
  subst hp
  refine mr_hpg (q := (2, .ref n :: st, sM (n + 1) s)) hd rfl rfl ?_ rfl k
  show (if (sM n s).1.length < mm_ext ∧ ¬ x < 0 ∧ x.toNatClampNeg ≤ 10000 ∧ 100 ≤ mm_at t then some (2, .ref (sM n s).1.length :: st, mm_nw (sM n s) (mm_at t, x.toNatClampNeg)) else none) = _
  rw [if_pos ⟨sr_ext hk, h0, h1, h2⟩, sM_len (kk_lt hk), sM_nw (kk_lt hk) hk hw]
theorem sr_nq {cp c : Nat} {x : Int32} {n s : Nat} (hd : decode Y.2.2.1 pc = .ok (.anewarray cp, 3)) (hp : pc + 3 = pc') (hc : mm_cl Y.1 cp = some c) (h0 : ¬ x < 0) (h1 : x.toNatClampNeg ≤ 10000) (h2 : c = 4 ∨ c = 6) (hk : KK[n]? = some (110 + c, x.toNatClampNeg)) (hw : (WW.drop s).all (fun e => decide (e.1 ≠ n)) = true) (k : mr X d Y pc' lv (.ref n :: st) (sM (n + 1) s) r) : mr X d Y pc lv (.int x :: st) (sM n s) r := by
  subst hp
  refine mr_hpg (q := (3, .ref n :: st, sM (n + 1) s)) hd rfl rfl ?_ rfl k
  show (mm_cl Y.1 cp).bind (fun c => if (sM n s).1.length < mm_ext ∧ ¬ x < 0 ∧ x.toNatClampNeg ≤ 10000 ∧ (c = 4 ∨ c = 6) then some (3, .ref (sM n s).1.length :: st, mm_nw (sM n s) (110 + c, x.toNatClampNeg)) else none) = _
  rw [hc, Option.bind_some, if_pos ⟨sr_ext hk, h0, h1, h2⟩, sM_len (kk_lt hk), sM_nw (kk_lt hk) hk hw]
theorem sr_putg {cp ci j a : Nat} {v : Value} {M' : mm_M} (hd : decode Y.2.2.1 pc = .ok (.putfield cp, 3)) (hp : pc + 3 = pc') (hf : mm_fl Y.1 cp = some (ci, j)) (ht : mm_tag M a = ci) (ha : a < mm_ext) (hj : Nat.ble (j + 1) (mm_nf ci) = true) (hi : Y.2.1.name = "<init>") (hy : ci = Y.1) (hw : mm_wr M a j (mm_ft ci j) v = some M') (k : mr X d Y pc' lv st M' r) : mr X d Y pc lv (v :: .ref a :: st) M r := by
  subst hp
  refine mr_hpg (q := (3, st, M')) hd rfl rfl ?_ rfl k
  show (mm_fl Y.1 cp).bind (fun q => if a < mm_ext ∧ mm_tag M a = q.1 ∧ q.2 < mm_nf q.1 ∧ ((mm_T q.1 q.2).2.2.2 = false ∨ (Y.2.1.name = "<init>" ∧ q.1 = Y.1)) then (mm_wr M a q.2 (mm_ft q.1 q.2) v).map (fun M' => (3, st, M')) else none) = _
  rw [hf, Option.bind_some, if_pos ⟨ha, ht, Nat.le_of_ble_eq_true hj, Or.inr ⟨hi, hy⟩⟩, hw]
  rfl
theorem sr_putI {cp ci j a n s : Nat} (hd : decode Y.2.2.1 pc = .ok (.putfield cp, 3)) (hp : pc + 3 = pc') (hf : mm_fl Y.1 cp = some (ci, j)) (ht : mm_tag (sM n s) a = ci) (ha : a < mm_ext) (hj : Nat.ble (j + 1) (mm_nf ci) = true) (hi : Y.2.1.name = "<init>") (hty : mm_ft ci j = .int) (k : mr X d Y pc' lv st (sM n s) r) (hy : ci = Y.1 := by rfl) : mr X d Y pc lv (.int 0 :: .ref a :: st) (sM n s) r :=
  sr_putg hd hp hf ht ha hj hi hy (by
    rw [hty]
    show (if FieldType.int = .int ∨ (FieldType.int = .boolean ∧ ((0 : Int32) = 0 ∨ (0 : Int32) = 1)) then some (KK.take n, mm_up (fun _ _ => (0 : Int32)) a j 0, (fun _ _ => (0 : Int64)), lk (WW.drop s)) else none) = _
    rw [if_pos (Or.inl rfl), z_up]
    rfl) k
theorem sr_putZ {cp ci j a n s : Nat} (hd : decode Y.2.2.1 pc = .ok (.putfield cp, 3)) (hp : pc + 3 = pc') (hf : mm_fl Y.1 cp = some (ci, j)) (ht : mm_tag (sM n s) a = ci) (ha : a < mm_ext) (hj : Nat.ble (j + 1) (mm_nf ci) = true) (hi : Y.2.1.name = "<init>") (hty : mm_ft ci j = .boolean) (k : mr X d Y pc' lv st (sM n s) r) (hy : ci = Y.1 := by rfl) : mr X d Y pc lv (.int 0 :: .ref a :: st) (sM n s) r :=
  sr_putg hd hp hf ht ha hj hi hy (by
    rw [hty]
    show (if FieldType.boolean = .int ∨ (FieldType.boolean = .boolean ∧ ((0 : Int32) = 0 ∨ (0 : Int32) = 1)) then some (KK.take n, mm_up (fun _ _ => (0 : Int32)) a j 0, (fun _ _ => (0 : Int64)), lk (WW.drop s)) else none) = _
    rw [if_pos (Or.inr ⟨rfl, Or.inl rfl⟩), z_up]
    rfl) k
theorem sr_drop {s a j b : Nat} (hW : WW[s]? = some (a, j, b)) : WW.drop s = (a, j, b) :: WW.drop (s + 1) := by
  obtain ⟨h1, h2⟩ := List.getElem?_eq_some_iff.mp hW
  rw [List.drop_eq_getElem_cons h1, h2]
theorem sr_putR {cp ci j a b n s : Nat} (hd : decode Y.2.2.1 pc = .ok (.putfield cp, 3)) (hp : pc + 3 = pc') (hf : mm_fl Y.1 cp = some (ci, j)) (ht : mm_tag (sM n (s + 1)) a = ci) (ha : a < mm_ext) (hj : Nat.ble (j + 1) (mm_nf ci) = true) (hi : Y.2.1.name = "<init>") (hty : mm_tk (mm_ft ci j) = 2) (hW : WW[s]? = some (a, j, b)) (k : mr X d Y pc' lv st (sM n s) r) (hy : ci = Y.1 := by rfl) : mr X d Y pc lv (.ref b :: .ref a :: st) (sM n (s + 1)) r :=
  sr_putg hd hp hf ht ha hj hi hy (by
    show (if mm_tk (mm_ft ci j) = 2 then some (KK.take n, (fun _ _ => (0 : Int32)), (fun _ _ => (0 : Int64)), mm_up (lk (WW.drop (s + 1))) a j (some b)) else none) = _
    rw [if_pos hty, lk_up, ← sr_drop hW]
    rfl) k
theorem sr_aas {v a n s : Nat} {i : Int32} (hd : decode Y.2.2.1 pc = .ok (.aastore, 1)) (hp : pc + 1 = pc') (h1 : a < mm_ext ∧ v < mm_ext) (h2 : (mm_tag (sM n (s + 1)) a = 114 ∨ mm_tag (sM n (s + 1)) a = 116) ∧ mm_tag (sM n (s + 1)) a = 110 + mm_tag (sM n (s + 1)) v ∧ ¬ (i < 0 ∨ mm_len (sM n (s + 1)) a ≤ i.toNatClampNeg)) (hW : WW[s]? = some (a, i.toNatClampNeg, v)) (k : mr X d Y pc' lv st (sM n s) r) : mr X d Y pc lv (.ref v :: .int i :: .ref a :: st) (sM n (s + 1)) r := by
  subst hp
  refine mr_hpg (q := (1, st, sM n s)) hd rfl rfl ?_ rfl k
  show (if a < mm_ext ∧ v < mm_ext ∧ (mm_tag (sM n (s + 1)) a = 114 ∨ mm_tag (sM n (s + 1)) a = 116) ∧ mm_tag (sM n (s + 1)) a = 110 + mm_tag (sM n (s + 1)) v ∧ ¬ (i < 0 ∨ mm_len (sM n (s + 1)) a ≤ i.toNatClampNeg) then some (1, st, (KK.take n, (fun _ _ => (0 : Int32)), (fun _ _ => (0 : Int64)), mm_up (lk (WW.drop (s + 1))) a i.toNatClampNeg (some v))) else none) = _
  rw [if_pos ⟨h1.1, h1.2, h2.1, h2.2.1, h2.2.2⟩, lk_up, ← sr_drop hW]
  rfl
theorem sr_getR {cp ci j a b n s : Nat} (hd : decode Y.2.2.1 pc = .ok (.getfield cp, 3)) (hp : pc + 3 = pc') (hf : mm_fl Y.1 cp = some (ci, j)) (ht : mm_tag (sM n s) a = ci) (ha : a < mm_ext) (hj : Nat.ble (j + 1) (mm_nf ci) = true) (hv : mm_fa (sM n s) a j (mm_tk (mm_ft ci j)) = .ref b) (k : mr X d Y pc' lv (.ref b :: st) (sM n s) r) : mr X d Y pc lv (.ref a :: st) (sM n s) r := by
  subst hp
  refine mr_hpg (q := (3, .ref b :: st, sM n s)) hd rfl rfl ?_ rfl k
  show (if a < mm_ext then (mm_fl Y.1 cp).bind (fun q => if mm_tag (sM n s) a = q.1 ∧ q.2 < mm_nf q.1 then some (3, mm_fa (sM n s) a q.2 (mm_tk (mm_ft q.1 q.2)) :: st, sM n s) else none) else _) = _
  rw [if_pos ha, hf, Option.bind_some, if_pos ⟨ht, Nat.le_of_ble_eq_true hj⟩, hv]
set_option maxRecDepth 100000 in
theorem ct_X7_init_1 : mr X 0 mY_X7_init 0 (lv_args 0 [.ref 1]) [] (sM 2 173) (none, sM 3 172) := by
  show mr X _ _ 0 [(0, .ref 1)] [] _ _
  refine mr_aload_n (pc' := 1) dX7_init_0 rfl rfl ?_
  refine sr_obj (pc' := 4) dX7_init_1 rfl rfl (by decide) ?_
  refine mr_aload_n (pc' := 5) dX7_init_4 rfl rfl ?_
  refine mr_sipush (pc' := 8) (v := (400 : Int32)) dX7_init_5 rfl (by decide) ?_
  refine sr_na (pc' := 10) (n := 2) (s := 173) dX7_init_8 rfl (by decide) (by decide) (by decide) rfl (by decide) ?_
  refine sr_putR (pc' := 13) (ci := 7) (j := 0) (n := 3) (s := 172) dX7_init_10 rfl rfl rfl (by decide) rfl rfl rfl rfl ?_
  refine mr_aload_n (pc' := 14) dX7_init_13 rfl rfl ?_
  refine mr_iconst (pc' := 15) (v := (0 : Int32)) dX7_init_14 rfl (by decide) ?_
  refine sr_putI (pc' := 18) (ci := 7) (j := 1) (n := 3) (s := 172) dX7_init_15 rfl rfl rfl (by decide) rfl rfl rfl ?_
  refine mr_aload_n (pc' := 19) dX7_init_18 rfl rfl ?_
  refine mr_iconst (pc' := 20) (v := (0 : Int32)) dX7_init_19 rfl (by decide) ?_
  refine sr_putI (pc' := 23) (ci := 7) (j := 2) (n := 3) (s := 172) dX7_init_20 rfl rfl rfl (by decide) rfl rfl rfl ?_
  refine mr_aload_n (pc' := 24) dX7_init_23 rfl rfl ?_
  refine mr_iconst (pc' := 25) (v := (0 : Int32)) dX7_init_24 rfl (by decide) ?_
  refine sr_putI (pc' := 28) (ci := 7) (j := 3) (n := 3) (s := 172) dX7_init_25 rfl rfl rfl (by decide) rfl rfl rfl ?_
  refine mr_aload_n (pc' := 29) dX7_init_28 rfl rfl ?_
  refine mr_iconst (pc' := 30) (v := (0 : Int32)) dX7_init_29 rfl (by decide) ?_
  refine sr_putI (pc' := 33) (ci := 7) (j := 4) (n := 3) (s := 172) dX7_init_30 rfl rfl rfl (by decide) rfl rfl rfl ?_
  exact mr_return dX7_init_33 rfl
set_option maxRecDepth 100000 in
theorem ct_X8_init_4 : mr X 0 mY_X8_init 0 (lv_args 0 [.ref 4]) [] (sM 5 171) (none, sM 11 165) := by
  show mr X _ _ 0 [(0, .ref 4)] [] _ _
  refine mr_aload_n (pc' := 1) dX8_init_0 rfl rfl ?_
  refine sr_obj (pc' := 4) dX8_init_1 rfl rfl (by decide) ?_
  refine mr_aload_n (pc' := 5) dX8_init_4 rfl rfl ?_
  refine mr_bipush (pc' := 7) (v := (10 : Int32)) dX8_init_5 rfl (by decide) ?_
  refine sr_na (pc' := 9) (n := 5) (s := 171) dX8_init_7 rfl (by decide) (by decide) (by decide) rfl (by decide) ?_
  refine sr_putR (pc' := 12) (ci := 8) (j := 0) (n := 6) (s := 170) dX8_init_9 rfl rfl rfl (by decide) rfl rfl rfl rfl ?_
  refine mr_aload_n (pc' := 13) dX8_init_12 rfl rfl ?_
  refine mr_bipush (pc' := 15) (v := (12 : Int32)) dX8_init_13 rfl (by decide) ?_
  refine sr_na (pc' := 17) (n := 6) (s := 170) dX8_init_15 rfl (by decide) (by decide) (by decide) rfl (by decide) ?_
  refine sr_putR (pc' := 20) (ci := 8) (j := 1) (n := 7) (s := 169) dX8_init_17 rfl rfl rfl (by decide) rfl rfl rfl rfl ?_
  refine mr_aload_n (pc' := 21) dX8_init_20 rfl rfl ?_
  refine mr_bipush (pc' := 23) (v := (12 : Int32)) dX8_init_21 rfl (by decide) ?_
  refine sr_na (pc' := 25) (n := 7) (s := 169) dX8_init_23 rfl (by decide) (by decide) (by decide) rfl (by decide) ?_
  refine sr_putR (pc' := 28) (ci := 8) (j := 2) (n := 8) (s := 168) dX8_init_25 rfl rfl rfl (by decide) rfl rfl rfl rfl ?_
  refine mr_aload_n (pc' := 29) dX8_init_28 rfl rfl ?_
  refine mr_bipush (pc' := 31) (v := (12 : Int32)) dX8_init_29 rfl (by decide) ?_
  refine sr_na (pc' := 33) (n := 8) (s := 168) dX8_init_31 rfl (by decide) (by decide) (by decide) rfl (by decide) ?_
  refine sr_putR (pc' := 36) (ci := 8) (j := 3) (n := 9) (s := 167) dX8_init_33 rfl rfl rfl (by decide) rfl rfl rfl rfl ?_
  refine mr_aload_n (pc' := 37) dX8_init_36 rfl rfl ?_
  refine mr_bipush (pc' := 39) (v := (12 : Int32)) dX8_init_37 rfl (by decide) ?_
  refine sr_na (pc' := 41) (n := 9) (s := 167) dX8_init_39 rfl (by decide) (by decide) (by decide) rfl (by decide) ?_
  refine sr_putR (pc' := 44) (ci := 8) (j := 4) (n := 10) (s := 166) dX8_init_41 rfl rfl rfl (by decide) rfl rfl rfl rfl ?_
  refine mr_aload_n (pc' := 45) dX8_init_44 rfl rfl ?_
  refine mr_bipush (pc' := 47) (v := (100 : Int32)) dX8_init_45 rfl (by decide) ?_
  refine sr_na (pc' := 49) (n := 10) (s := 166) dX8_init_47 rfl (by decide) (by decide) (by decide) rfl (by decide) ?_
  refine sr_putR (pc' := 52) (ci := 8) (j := 5) (n := 11) (s := 165) dX8_init_49 rfl rfl rfl (by decide) rfl rfl rfl rfl ?_
  refine mr_aload_n (pc' := 53) dX8_init_52 rfl rfl ?_
  refine mr_iconst (pc' := 54) (v := (0 : Int32)) dX8_init_53 rfl (by decide) ?_
  refine sr_putI (pc' := 57) (ci := 8) (j := 6) (n := 11) (s := 165) dX8_init_54 rfl rfl rfl (by decide) rfl rfl rfl ?_
  refine mr_aload_n (pc' := 58) dX8_init_57 rfl rfl ?_
  refine mr_iconst (pc' := 59) (v := (0 : Int32)) dX8_init_58 rfl (by decide) ?_
  refine sr_putI (pc' := 62) (ci := 8) (j := 7) (n := 11) (s := 165) dX8_init_59 rfl rfl rfl (by decide) rfl rfl rfl ?_
  exact mr_return dX8_init_62 rfl
set_option maxRecDepth 100000 in
theorem ct_X0_init_11 : mr X 0 mY_X0_init 0 (lv_args 0 [.ref 11]) [] (sM 12 164) (none, sM 17 159) := by
  show mr X _ _ 0 [(0, .ref 11)] [] _ _
  refine mr_aload_n (pc' := 1) dX0_init_0 rfl rfl ?_
  refine sr_obj (pc' := 4) dX0_init_1 rfl rfl (by decide) ?_
  refine mr_aload_n (pc' := 5) dX0_init_4 rfl rfl ?_
  refine mr_bipush (pc' := 7) (v := (8 : Int32)) dX0_init_5 rfl (by decide) ?_
  refine sr_na (pc' := 9) (n := 12) (s := 164) dX0_init_7 rfl (by decide) (by decide) (by decide) rfl (by decide) ?_
  refine sr_putR (pc' := 12) (ci := 0) (j := 0) (n := 13) (s := 163) dX0_init_9 rfl rfl rfl (by decide) rfl rfl rfl rfl ?_
  refine mr_aload_n (pc' := 13) dX0_init_12 rfl rfl ?_
  refine mr_bipush (pc' := 15) (v := (8 : Int32)) dX0_init_13 rfl (by decide) ?_
  refine sr_na (pc' := 17) (n := 13) (s := 163) dX0_init_15 rfl (by decide) (by decide) (by decide) rfl (by decide) ?_
  refine sr_putR (pc' := 20) (ci := 0) (j := 1) (n := 14) (s := 162) dX0_init_17 rfl rfl rfl (by decide) rfl rfl rfl rfl ?_
  refine mr_aload_n (pc' := 21) dX0_init_20 rfl rfl ?_
  refine mr_bipush (pc' := 23) (v := (8 : Int32)) dX0_init_21 rfl (by decide) ?_
  refine sr_na (pc' := 25) (n := 14) (s := 162) dX0_init_23 rfl (by decide) (by decide) (by decide) rfl (by decide) ?_
  refine sr_putR (pc' := 28) (ci := 0) (j := 2) (n := 15) (s := 161) dX0_init_25 rfl rfl rfl (by decide) rfl rfl rfl rfl ?_
  refine mr_aload_n (pc' := 29) dX0_init_28 rfl rfl ?_
  refine mr_bipush (pc' := 31) (v := (8 : Int32)) dX0_init_29 rfl (by decide) ?_
  refine sr_na (pc' := 33) (n := 15) (s := 161) dX0_init_31 rfl (by decide) (by decide) (by decide) rfl (by decide) ?_
  refine sr_putR (pc' := 36) (ci := 0) (j := 3) (n := 16) (s := 160) dX0_init_33 rfl rfl rfl (by decide) rfl rfl rfl rfl ?_
  refine mr_aload_n (pc' := 37) dX0_init_36 rfl rfl ?_
  refine mr_bipush (pc' := 39) (v := (8 : Int32)) dX0_init_37 rfl (by decide) ?_
  refine sr_na (pc' := 41) (n := 16) (s := 160) dX0_init_39 rfl (by decide) (by decide) (by decide) rfl (by decide) ?_
  refine sr_putR (pc' := 44) (ci := 0) (j := 4) (n := 17) (s := 159) dX0_init_41 rfl rfl rfl (by decide) rfl rfl rfl rfl ?_
  refine mr_aload_n (pc' := 45) dX0_init_44 rfl rfl ?_
  refine mr_iconst (pc' := 46) (v := (0 : Int32)) dX0_init_45 rfl (by decide) ?_
  refine sr_putI (pc' := 49) (ci := 0) (j := 5) (n := 17) (s := 159) dX0_init_46 rfl rfl rfl (by decide) rfl rfl rfl ?_
  refine mr_aload_n (pc' := 50) dX0_init_49 rfl rfl ?_
  refine mr_iconst (pc' := 51) (v := (0 : Int32)) dX0_init_50 rfl (by decide) ?_
  refine sr_putI (pc' := 54) (ci := 0) (j := 6) (n := 17) (s := 159) dX0_init_51 rfl rfl rfl (by decide) rfl rfl rfl ?_
  exact mr_return dX0_init_54 rfl
set_option maxRecDepth 100000 in
theorem ct_X2_init_17 : mr X 0 mY_X2_init 0 (lv_args 0 [.ref 17]) [] (sM 18 158) (none, sM 22 154) := by
  show mr X _ _ 0 [(0, .ref 17)] [] _ _
  refine mr_aload_n (pc' := 1) dX2_init_0 rfl rfl ?_
  refine sr_obj (pc' := 4) dX2_init_1 rfl rfl (by decide) ?_
  refine mr_aload_n (pc' := 5) dX2_init_4 rfl rfl ?_
  refine mr_bipush (pc' := 7) (v := (12 : Int32)) dX2_init_5 rfl (by decide) ?_
  refine sr_na (pc' := 9) (n := 18) (s := 158) dX2_init_7 rfl (by decide) (by decide) (by decide) rfl (by decide) ?_
  refine sr_putR (pc' := 12) (ci := 2) (j := 0) (n := 19) (s := 157) dX2_init_9 rfl rfl rfl (by decide) rfl rfl rfl rfl ?_
  refine mr_aload_n (pc' := 13) dX2_init_12 rfl rfl ?_
  refine mr_bipush (pc' := 15) (v := (12 : Int32)) dX2_init_13 rfl (by decide) ?_
  refine sr_na (pc' := 17) (n := 19) (s := 157) dX2_init_15 rfl (by decide) (by decide) (by decide) rfl (by decide) ?_
  refine sr_putR (pc' := 20) (ci := 2) (j := 1) (n := 20) (s := 156) dX2_init_17 rfl rfl rfl (by decide) rfl rfl rfl rfl ?_
  refine mr_aload_n (pc' := 21) dX2_init_20 rfl rfl ?_
  refine mr_bipush (pc' := 23) (v := (12 : Int32)) dX2_init_21 rfl (by decide) ?_
  refine sr_na (pc' := 25) (n := 20) (s := 156) dX2_init_23 rfl (by decide) (by decide) (by decide) rfl (by decide) ?_
  refine sr_putR (pc' := 28) (ci := 2) (j := 2) (n := 21) (s := 155) dX2_init_25 rfl rfl rfl (by decide) rfl rfl rfl rfl ?_
  refine mr_aload_n (pc' := 29) dX2_init_28 rfl rfl ?_
  refine mr_bipush (pc' := 31) (v := (12 : Int32)) dX2_init_29 rfl (by decide) ?_
  refine sr_na (pc' := 33) (n := 21) (s := 155) dX2_init_31 rfl (by decide) (by decide) (by decide) rfl (by decide) ?_
  refine sr_putR (pc' := 36) (ci := 2) (j := 3) (n := 22) (s := 154) dX2_init_33 rfl rfl rfl (by decide) rfl rfl rfl rfl ?_
  refine mr_aload_n (pc' := 37) dX2_init_36 rfl rfl ?_
  refine mr_iconst (pc' := 38) (v := (0 : Int32)) dX2_init_37 rfl (by decide) ?_
  refine sr_putI (pc' := 41) (ci := 2) (j := 4) (n := 22) (s := 154) dX2_init_38 rfl rfl rfl (by decide) rfl rfl rfl ?_
  exact mr_return dX2_init_41 rfl
set_option maxRecDepth 100000 in
theorem ct_X6_init_3 : mr X 1 mY_X6_init 0 (lv_args 0 [.ref 3]) [] (sM 4 171) (none, sM 22 153) := by
  show mr X _ _ 0 [(0, .ref 3)] [] _ _
  refine mr_aload_n (pc' := 1) dX6_init_0 rfl rfl ?_
  refine sr_obj (pc' := 4) dX6_init_1 rfl rfl (by decide) ?_
  refine mr_aload_n (pc' := 5) dX6_init_4 rfl rfl ?_
  refine sr_new (pc' := 8) (c := 8) (n := 4) (s := 171) dX6_init_5 rfl rfl rfl (by decide) ?_
  refine mr_dup_ref (pc' := 9) dX6_init_8 rfl ?_
  refine mr_callg (d1 := 0) (Y' := mY_X8_init) (as := [.ref 4]) (rest := [.ref 4, .ref 3]) (mm_nd_uq rfl) dX6_init_9 rfl rfl (by decide) ct_X8_init_4 ?_
  show mr X _ _ 12 _ [.ref 4, .ref 3] (sM 11 165) _
  refine sr_putR (pc' := 15) (ci := 6) (j := 0) (n := 11) (s := 164) dX6_init_12 rfl rfl rfl (by decide) rfl rfl rfl rfl ?_
  refine mr_aload_n (pc' := 16) dX6_init_15 rfl rfl ?_
  refine sr_new (pc' := 19) (c := 0) (n := 11) (s := 164) dX6_init_16 rfl rfl rfl (by decide) ?_
  refine mr_dup_ref (pc' := 20) dX6_init_19 rfl ?_
  refine mr_callg (d1 := 0) (Y' := mY_X0_init) (as := [.ref 11]) (rest := [.ref 11, .ref 3]) (mm_nd_uq rfl) dX6_init_20 rfl rfl (by decide) ct_X0_init_11 ?_
  show mr X _ _ 23 _ [.ref 11, .ref 3] (sM 17 159) _
  refine sr_putR (pc' := 26) (ci := 6) (j := 1) (n := 17) (s := 158) dX6_init_23 rfl rfl rfl (by decide) rfl rfl rfl rfl ?_
  refine mr_aload_n (pc' := 27) dX6_init_26 rfl rfl ?_
  refine sr_new (pc' := 30) (c := 2) (n := 17) (s := 158) dX6_init_27 rfl rfl rfl (by decide) ?_
  refine mr_dup_ref (pc' := 31) dX6_init_30 rfl ?_
  refine mr_callg (d1 := 0) (Y' := mY_X2_init) (as := [.ref 17]) (rest := [.ref 17, .ref 3]) (mm_nd_uq rfl) dX6_init_31 rfl rfl (by decide) ct_X2_init_17 ?_
  show mr X _ _ 34 _ [.ref 17, .ref 3] (sM 22 154) _
  refine sr_putR (pc' := 37) (ci := 6) (j := 2) (n := 22) (s := 153) dX6_init_34 rfl rfl rfl (by decide) rfl rfl rfl rfl ?_
  refine mr_aload_n (pc' := 38) dX6_init_37 rfl rfl ?_
  refine mr_iconst (pc' := 39) (v := (0 : Int32)) dX6_init_38 rfl (by decide) ?_
  refine sr_putI (pc' := 42) (ci := 6) (j := 3) (n := 22) (s := 153) dX6_init_39 rfl rfl rfl (by decide) rfl rfl rfl ?_
  refine mr_aload_n (pc' := 43) dX6_init_42 rfl rfl ?_
  refine mr_iconst (pc' := 44) (v := (0 : Int32)) dX6_init_43 rfl (by decide) ?_
  refine sr_putZ (pc' := 47) (ci := 6) (j := 4) (n := 22) (s := 153) dX6_init_44 rfl rfl rfl (by decide) rfl rfl rfl ?_
  exact mr_return dX6_init_47 rfl
set_option maxRecDepth 100000 in
theorem ct_X8_init_24 : mr X 0 mY_X8_init 0 (lv_args 0 [.ref 24]) [] (sM 25 150) (none, sM 31 144) := by
  show mr X _ _ 0 [(0, .ref 24)] [] _ _
  refine mr_aload_n (pc' := 1) dX8_init_0 rfl rfl ?_
  refine sr_obj (pc' := 4) dX8_init_1 rfl rfl (by decide) ?_
  refine mr_aload_n (pc' := 5) dX8_init_4 rfl rfl ?_
  refine mr_bipush (pc' := 7) (v := (10 : Int32)) dX8_init_5 rfl (by decide) ?_
  refine sr_na (pc' := 9) (n := 25) (s := 150) dX8_init_7 rfl (by decide) (by decide) (by decide) rfl (by decide) ?_
  refine sr_putR (pc' := 12) (ci := 8) (j := 0) (n := 26) (s := 149) dX8_init_9 rfl rfl rfl (by decide) rfl rfl rfl rfl ?_
  refine mr_aload_n (pc' := 13) dX8_init_12 rfl rfl ?_
  refine mr_bipush (pc' := 15) (v := (12 : Int32)) dX8_init_13 rfl (by decide) ?_
  refine sr_na (pc' := 17) (n := 26) (s := 149) dX8_init_15 rfl (by decide) (by decide) (by decide) rfl (by decide) ?_
  refine sr_putR (pc' := 20) (ci := 8) (j := 1) (n := 27) (s := 148) dX8_init_17 rfl rfl rfl (by decide) rfl rfl rfl rfl ?_
  refine mr_aload_n (pc' := 21) dX8_init_20 rfl rfl ?_
  refine mr_bipush (pc' := 23) (v := (12 : Int32)) dX8_init_21 rfl (by decide) ?_
  refine sr_na (pc' := 25) (n := 27) (s := 148) dX8_init_23 rfl (by decide) (by decide) (by decide) rfl (by decide) ?_
  refine sr_putR (pc' := 28) (ci := 8) (j := 2) (n := 28) (s := 147) dX8_init_25 rfl rfl rfl (by decide) rfl rfl rfl rfl ?_
  refine mr_aload_n (pc' := 29) dX8_init_28 rfl rfl ?_
  refine mr_bipush (pc' := 31) (v := (12 : Int32)) dX8_init_29 rfl (by decide) ?_
  refine sr_na (pc' := 33) (n := 28) (s := 147) dX8_init_31 rfl (by decide) (by decide) (by decide) rfl (by decide) ?_
  refine sr_putR (pc' := 36) (ci := 8) (j := 3) (n := 29) (s := 146) dX8_init_33 rfl rfl rfl (by decide) rfl rfl rfl rfl ?_
  refine mr_aload_n (pc' := 37) dX8_init_36 rfl rfl ?_
  refine mr_bipush (pc' := 39) (v := (12 : Int32)) dX8_init_37 rfl (by decide) ?_
  refine sr_na (pc' := 41) (n := 29) (s := 146) dX8_init_39 rfl (by decide) (by decide) (by decide) rfl (by decide) ?_
  refine sr_putR (pc' := 44) (ci := 8) (j := 4) (n := 30) (s := 145) dX8_init_41 rfl rfl rfl (by decide) rfl rfl rfl rfl ?_
  refine mr_aload_n (pc' := 45) dX8_init_44 rfl rfl ?_
  refine mr_bipush (pc' := 47) (v := (100 : Int32)) dX8_init_45 rfl (by decide) ?_
  refine sr_na (pc' := 49) (n := 30) (s := 145) dX8_init_47 rfl (by decide) (by decide) (by decide) rfl (by decide) ?_
  refine sr_putR (pc' := 52) (ci := 8) (j := 5) (n := 31) (s := 144) dX8_init_49 rfl rfl rfl (by decide) rfl rfl rfl rfl ?_
  refine mr_aload_n (pc' := 53) dX8_init_52 rfl rfl ?_
  refine mr_iconst (pc' := 54) (v := (0 : Int32)) dX8_init_53 rfl (by decide) ?_
  refine sr_putI (pc' := 57) (ci := 8) (j := 6) (n := 31) (s := 144) dX8_init_54 rfl rfl rfl (by decide) rfl rfl rfl ?_
  refine mr_aload_n (pc' := 58) dX8_init_57 rfl rfl ?_
  refine mr_iconst (pc' := 59) (v := (0 : Int32)) dX8_init_58 rfl (by decide) ?_
  refine sr_putI (pc' := 62) (ci := 8) (j := 7) (n := 31) (s := 144) dX8_init_59 rfl rfl rfl (by decide) rfl rfl rfl ?_
  exact mr_return dX8_init_62 rfl
set_option maxRecDepth 100000 in
theorem ct_X0_init_31 : mr X 0 mY_X0_init 0 (lv_args 0 [.ref 31]) [] (sM 32 143) (none, sM 37 138) := by
  show mr X _ _ 0 [(0, .ref 31)] [] _ _
  refine mr_aload_n (pc' := 1) dX0_init_0 rfl rfl ?_
  refine sr_obj (pc' := 4) dX0_init_1 rfl rfl (by decide) ?_
  refine mr_aload_n (pc' := 5) dX0_init_4 rfl rfl ?_
  refine mr_bipush (pc' := 7) (v := (8 : Int32)) dX0_init_5 rfl (by decide) ?_
  refine sr_na (pc' := 9) (n := 32) (s := 143) dX0_init_7 rfl (by decide) (by decide) (by decide) rfl (by decide) ?_
  refine sr_putR (pc' := 12) (ci := 0) (j := 0) (n := 33) (s := 142) dX0_init_9 rfl rfl rfl (by decide) rfl rfl rfl rfl ?_
  refine mr_aload_n (pc' := 13) dX0_init_12 rfl rfl ?_
  refine mr_bipush (pc' := 15) (v := (8 : Int32)) dX0_init_13 rfl (by decide) ?_
  refine sr_na (pc' := 17) (n := 33) (s := 142) dX0_init_15 rfl (by decide) (by decide) (by decide) rfl (by decide) ?_
  refine sr_putR (pc' := 20) (ci := 0) (j := 1) (n := 34) (s := 141) dX0_init_17 rfl rfl rfl (by decide) rfl rfl rfl rfl ?_
  refine mr_aload_n (pc' := 21) dX0_init_20 rfl rfl ?_
  refine mr_bipush (pc' := 23) (v := (8 : Int32)) dX0_init_21 rfl (by decide) ?_
  refine sr_na (pc' := 25) (n := 34) (s := 141) dX0_init_23 rfl (by decide) (by decide) (by decide) rfl (by decide) ?_
  refine sr_putR (pc' := 28) (ci := 0) (j := 2) (n := 35) (s := 140) dX0_init_25 rfl rfl rfl (by decide) rfl rfl rfl rfl ?_
  refine mr_aload_n (pc' := 29) dX0_init_28 rfl rfl ?_
  refine mr_bipush (pc' := 31) (v := (8 : Int32)) dX0_init_29 rfl (by decide) ?_
  refine sr_na (pc' := 33) (n := 35) (s := 140) dX0_init_31 rfl (by decide) (by decide) (by decide) rfl (by decide) ?_
  refine sr_putR (pc' := 36) (ci := 0) (j := 3) (n := 36) (s := 139) dX0_init_33 rfl rfl rfl (by decide) rfl rfl rfl rfl ?_
  refine mr_aload_n (pc' := 37) dX0_init_36 rfl rfl ?_
  refine mr_bipush (pc' := 39) (v := (8 : Int32)) dX0_init_37 rfl (by decide) ?_
  refine sr_na (pc' := 41) (n := 36) (s := 139) dX0_init_39 rfl (by decide) (by decide) (by decide) rfl (by decide) ?_
  refine sr_putR (pc' := 44) (ci := 0) (j := 4) (n := 37) (s := 138) dX0_init_41 rfl rfl rfl (by decide) rfl rfl rfl rfl ?_
  refine mr_aload_n (pc' := 45) dX0_init_44 rfl rfl ?_
  refine mr_iconst (pc' := 46) (v := (0 : Int32)) dX0_init_45 rfl (by decide) ?_
  refine sr_putI (pc' := 49) (ci := 0) (j := 5) (n := 37) (s := 138) dX0_init_46 rfl rfl rfl (by decide) rfl rfl rfl ?_
  refine mr_aload_n (pc' := 50) dX0_init_49 rfl rfl ?_
  refine mr_iconst (pc' := 51) (v := (0 : Int32)) dX0_init_50 rfl (by decide) ?_
  refine sr_putI (pc' := 54) (ci := 0) (j := 6) (n := 37) (s := 138) dX0_init_51 rfl rfl rfl (by decide) rfl rfl rfl ?_
  exact mr_return dX0_init_54 rfl
set_option maxRecDepth 100000 in
theorem ct_X9_init_37 : mr X 0 mY_X9_init 0 (lv_args 0 [.ref 37, .ref 1, .ref 24, .ref 31]) [] (sM 38 137) (none, sM 38 134) := by
  show mr X _ _ 0 [(0, .ref 37), (1, .ref 1), (2, .ref 24), (3, .ref 31)] [] _ _
  refine mr_aload_n (pc' := 1) dX9_init_0 rfl rfl ?_
  refine sr_obj (pc' := 4) dX9_init_1 rfl rfl (by decide) ?_
  refine mr_aload_n (pc' := 5) dX9_init_4 rfl rfl ?_
  refine mr_aload_n (pc' := 6) dX9_init_5 rfl rfl ?_
  refine sr_putR (pc' := 9) (ci := 9) (j := 0) (n := 38) (s := 136) dX9_init_6 rfl rfl rfl (by decide) rfl rfl rfl rfl ?_
  refine mr_aload_n (pc' := 10) dX9_init_9 rfl rfl ?_
  refine mr_aload_n (pc' := 11) dX9_init_10 rfl rfl ?_
  refine sr_putR (pc' := 14) (ci := 9) (j := 1) (n := 38) (s := 135) dX9_init_11 rfl rfl rfl (by decide) rfl rfl rfl rfl ?_
  refine mr_aload_n (pc' := 15) dX9_init_14 rfl rfl ?_
  refine mr_aload_n (pc' := 16) dX9_init_15 rfl rfl ?_
  refine sr_putR (pc' := 19) (ci := 9) (j := 2) (n := 38) (s := 134) dX9_init_16 rfl rfl rfl (by decide) rfl rfl rfl rfl ?_
  exact mr_return dX9_init_19 rfl
set_option maxRecDepth 100000 in
theorem ct_X4_init_40 : mr X 0 mY_X4_init 0 (lv_args 0 [.ref 40]) [] (sM 41 132) (none, sM 43 130) := by
  show mr X _ _ 0 [(0, .ref 40)] [] _ _
  refine mr_aload_n (pc' := 1) dX4_init_0 rfl rfl ?_
  refine sr_obj (pc' := 4) dX4_init_1 rfl rfl (by decide) ?_
  refine mr_aload_n (pc' := 5) dX4_init_4 rfl rfl ?_
  refine mr_sipush (pc' := 8) (v := (400 : Int32)) dX4_init_5 rfl (by decide) ?_
  refine sr_na (pc' := 10) (n := 41) (s := 132) dX4_init_8 rfl (by decide) (by decide) (by decide) rfl (by decide) ?_
  refine sr_putR (pc' := 13) (ci := 4) (j := 0) (n := 42) (s := 131) dX4_init_10 rfl rfl rfl (by decide) rfl rfl rfl rfl ?_
  refine mr_aload_n (pc' := 14) dX4_init_13 rfl rfl ?_
  refine mr_bipush (pc' := 16) (v := (60 : Int32)) dX4_init_14 rfl (by decide) ?_
  refine sr_na (pc' := 18) (n := 42) (s := 131) dX4_init_16 rfl (by decide) (by decide) (by decide) rfl (by decide) ?_
  refine sr_putR (pc' := 21) (ci := 4) (j := 1) (n := 43) (s := 130) dX4_init_18 rfl rfl rfl (by decide) rfl rfl rfl rfl ?_
  refine mr_aload_n (pc' := 22) dX4_init_21 rfl rfl ?_
  refine mr_iconst (pc' := 23) (v := (0 : Int32)) dX4_init_22 rfl (by decide) ?_
  refine sr_putI (pc' := 26) (ci := 4) (j := 2) (n := 43) (s := 130) dX4_init_23 rfl rfl rfl (by decide) rfl rfl rfl ?_
  refine mr_aload_n (pc' := 27) dX4_init_26 rfl rfl ?_
  refine mr_iconst (pc' := 28) (v := (0 : Int32)) dX4_init_27 rfl (by decide) ?_
  refine sr_putI (pc' := 31) (ci := 4) (j := 3) (n := 43) (s := 130) dX4_init_28 rfl rfl rfl (by decide) rfl rfl rfl ?_
  exact mr_return dX4_init_31 rfl
set_option maxRecDepth 100000 in
theorem ct_X5_init_38 : mr X 1 mY_X5_init 0 (lv_args 0 [.ref 38, .ref 1]) [] (sM 39 133) (none, sM 43 128) := by
  show mr X _ _ 0 [(0, .ref 38), (1, .ref 1)] [] _ _
  refine mr_aload_n (pc' := 1) dX5_init_0 rfl rfl ?_
  refine sr_obj (pc' := 4) dX5_init_1 rfl rfl (by decide) ?_
  refine mr_aload_n (pc' := 5) dX5_init_4 rfl rfl ?_
  refine mr_bipush (pc' := 7) (v := (64 : Int32)) dX5_init_5 rfl (by decide) ?_
  refine sr_na (pc' := 9) (n := 39) (s := 133) dX5_init_7 rfl (by decide) (by decide) (by decide) rfl (by decide) ?_
  refine sr_putR (pc' := 12) (ci := 5) (j := 1) (n := 40) (s := 132) dX5_init_9 rfl rfl rfl (by decide) rfl rfl rfl rfl ?_
  refine mr_aload_n (pc' := 13) dX5_init_12 rfl rfl ?_
  refine sr_new (pc' := 16) (c := 4) (n := 40) (s := 132) dX5_init_13 rfl rfl rfl (by decide) ?_
  refine mr_dup_ref (pc' := 17) dX5_init_16 rfl ?_
  refine mr_callg (d1 := 0) (Y' := mY_X4_init) (as := [.ref 40]) (rest := [.ref 40, .ref 38]) (mm_nd_uq rfl) dX5_init_17 rfl rfl (by decide) ct_X4_init_40 ?_
  show mr X _ _ 20 _ [.ref 40, .ref 38] (sM 43 130) _
  refine sr_putR (pc' := 23) (ci := 5) (j := 2) (n := 43) (s := 129) dX5_init_20 rfl rfl rfl (by decide) rfl rfl rfl rfl ?_
  refine mr_aload_n (pc' := 24) dX5_init_23 rfl rfl ?_
  refine mr_iconst (pc' := 25) (v := (0 : Int32)) dX5_init_24 rfl (by decide) ?_
  refine sr_putI (pc' := 28) (ci := 5) (j := 3) (n := 43) (s := 129) dX5_init_25 rfl rfl rfl (by decide) rfl rfl rfl ?_
  refine mr_aload_n (pc' := 29) dX5_init_28 rfl rfl ?_
  refine mr_iconst (pc' := 30) (v := (0 : Int32)) dX5_init_29 rfl (by decide) ?_
  refine sr_putI (pc' := 33) (ci := 5) (j := 4) (n := 43) (s := 129) dX5_init_30 rfl rfl rfl (by decide) rfl rfl rfl ?_
  refine mr_aload_n (pc' := 34) dX5_init_33 rfl rfl ?_
  refine mr_iconst (pc' := 35) (v := (0 : Int32)) dX5_init_34 rfl (by decide) ?_
  refine sr_putI (pc' := 38) (ci := 5) (j := 5) (n := 43) (s := 129) dX5_init_35 rfl rfl rfl (by decide) rfl rfl rfl ?_
  refine mr_aload_n (pc' := 39) dX5_init_38 rfl rfl ?_
  refine mr_iconst (pc' := 40) (v := (0 : Int32)) dX5_init_39 rfl (by decide) ?_
  refine sr_putI (pc' := 43) (ci := 5) (j := 6) (n := 43) (s := 129) dX5_init_40 rfl rfl rfl (by decide) rfl rfl rfl ?_
  refine mr_aload_n (pc' := 44) dX5_init_43 rfl rfl ?_
  refine mr_aload_n (pc' := 45) dX5_init_44 rfl rfl ?_
  refine sr_putR (pc' := 48) (ci := 5) (j := 0) (n := 43) (s := 128) dX5_init_45 rfl rfl rfl (by decide) rfl rfl rfl rfl ?_
  exact mr_return dX5_init_48 rfl
set_option maxRecDepth 100000 in
theorem ct_X1_init_43 : mr X 0 mY_X1_init 0 (lv_args 0 [.ref 43]) [] (sM 44 127) (none, sM 45 126) := by
  show mr X _ _ 0 [(0, .ref 43)] [] _ _
  refine mr_aload_n (pc' := 1) dX1_init_0 rfl rfl ?_
  refine sr_obj (pc' := 4) dX1_init_1 rfl rfl (by decide) ?_
  refine mr_aload_n (pc' := 5) dX1_init_4 rfl rfl ?_
  refine mr_sipush (pc' := 8) (v := (1210 : Int32)) dX1_init_5 rfl (by decide) ?_
  refine sr_na (pc' := 10) (n := 44) (s := 127) dX1_init_8 rfl (by decide) (by decide) (by decide) rfl (by decide) ?_
  refine sr_putR (pc' := 13) (ci := 1) (j := 0) (n := 45) (s := 126) dX1_init_10 rfl rfl rfl (by decide) rfl rfl rfl rfl ?_
  exact mr_return dX1_init_13 rfl
set_option maxRecDepth 100000 in
theorem ct_X3_init_45 : mr X 0 mY_X3_init 0 (lv_args 0 [.ref 45]) [] (sM 46 125) (none, sM 51 120) := by
  show mr X _ _ 0 [(0, .ref 45)] [] _ _
  refine mr_aload_n (pc' := 1) dX3_init_0 rfl rfl ?_
  refine sr_obj (pc' := 4) dX3_init_1 rfl rfl (by decide) ?_
  refine mr_aload_n (pc' := 5) dX3_init_4 rfl rfl ?_
  refine mr_sipush (pc' := 8) (v := (4000 : Int32)) dX3_init_5 rfl (by decide) ?_
  refine sr_na (pc' := 10) (n := 46) (s := 125) dX3_init_8 rfl (by decide) (by decide) (by decide) rfl (by decide) ?_
  refine sr_putR (pc' := 13) (ci := 3) (j := 0) (n := 47) (s := 124) dX3_init_10 rfl rfl rfl (by decide) rfl rfl rfl rfl ?_
  refine mr_aload_n (pc' := 14) dX3_init_13 rfl rfl ?_
  refine mr_sipush (pc' := 17) (v := (171 : Int32)) dX3_init_14 rfl (by decide) ?_
  refine sr_na (pc' := 19) (n := 47) (s := 124) dX3_init_17 rfl (by decide) (by decide) (by decide) rfl (by decide) ?_
  refine sr_putR (pc' := 22) (ci := 3) (j := 1) (n := 48) (s := 123) dX3_init_19 rfl rfl rfl (by decide) rfl rfl rfl rfl ?_
  refine mr_aload_n (pc' := 23) dX3_init_22 rfl rfl ?_
  refine mr_bipush (pc' := 25) (v := (13 : Int32)) dX3_init_23 rfl (by decide) ?_
  refine sr_na (pc' := 27) (n := 48) (s := 123) dX3_init_25 rfl (by decide) (by decide) (by decide) rfl (by decide) ?_
  refine sr_putR (pc' := 30) (ci := 3) (j := 2) (n := 49) (s := 122) dX3_init_27 rfl rfl rfl (by decide) rfl rfl rfl rfl ?_
  refine mr_aload_n (pc' := 31) dX3_init_30 rfl rfl ?_
  refine mr_bipush (pc' := 33) (v := (13 : Int32)) dX3_init_31 rfl (by decide) ?_
  refine sr_na (pc' := 35) (n := 49) (s := 122) dX3_init_33 rfl (by decide) (by decide) (by decide) rfl (by decide) ?_
  refine sr_putR (pc' := 38) (ci := 3) (j := 3) (n := 50) (s := 121) dX3_init_35 rfl rfl rfl (by decide) rfl rfl rfl rfl ?_
  refine mr_aload_n (pc' := 39) dX3_init_38 rfl rfl ?_
  refine mr_bipush (pc' := 41) (v := (13 : Int32)) dX3_init_39 rfl (by decide) ?_
  refine sr_na (pc' := 43) (n := 50) (s := 121) dX3_init_41 rfl (by decide) (by decide) (by decide) rfl (by decide) ?_
  refine sr_putR (pc' := 46) (ci := 3) (j := 4) (n := 51) (s := 120) dX3_init_43 rfl rfl rfl (by decide) rfl rfl rfl rfl ?_
  refine mr_aload_n (pc' := 47) dX3_init_46 rfl rfl ?_
  refine mr_iconst (pc' := 48) (v := (0 : Int32)) dX3_init_47 rfl (by decide) ?_
  refine sr_putI (pc' := 51) (ci := 3) (j := 5) (n := 51) (s := 120) dX3_init_48 rfl rfl rfl (by decide) rfl rfl rfl ?_
  refine mr_aload_n (pc' := 52) dX3_init_51 rfl rfl ?_
  refine mr_iconst (pc' := 53) (v := (0 : Int32)) dX3_init_52 rfl (by decide) ?_
  refine sr_putI (pc' := 56) (ci := 3) (j := 6) (n := 51) (s := 120) dX3_init_53 rfl rfl rfl (by decide) rfl rfl rfl ?_
  exact mr_return dX3_init_56 rfl
set_option maxRecDepth 100000 in
theorem ct_X8_init_52 : mr X 0 mY_X8_init 0 (lv_args 0 [.ref 52]) [] (sM 53 119) (none, sM 59 113) := by
  show mr X _ _ 0 [(0, .ref 52)] [] _ _
  refine mr_aload_n (pc' := 1) dX8_init_0 rfl rfl ?_
  refine sr_obj (pc' := 4) dX8_init_1 rfl rfl (by decide) ?_
  refine mr_aload_n (pc' := 5) dX8_init_4 rfl rfl ?_
  refine mr_bipush (pc' := 7) (v := (10 : Int32)) dX8_init_5 rfl (by decide) ?_
  refine sr_na (pc' := 9) (n := 53) (s := 119) dX8_init_7 rfl (by decide) (by decide) (by decide) rfl (by decide) ?_
  refine sr_putR (pc' := 12) (ci := 8) (j := 0) (n := 54) (s := 118) dX8_init_9 rfl rfl rfl (by decide) rfl rfl rfl rfl ?_
  refine mr_aload_n (pc' := 13) dX8_init_12 rfl rfl ?_
  refine mr_bipush (pc' := 15) (v := (12 : Int32)) dX8_init_13 rfl (by decide) ?_
  refine sr_na (pc' := 17) (n := 54) (s := 118) dX8_init_15 rfl (by decide) (by decide) (by decide) rfl (by decide) ?_
  refine sr_putR (pc' := 20) (ci := 8) (j := 1) (n := 55) (s := 117) dX8_init_17 rfl rfl rfl (by decide) rfl rfl rfl rfl ?_
  refine mr_aload_n (pc' := 21) dX8_init_20 rfl rfl ?_
  refine mr_bipush (pc' := 23) (v := (12 : Int32)) dX8_init_21 rfl (by decide) ?_
  refine sr_na (pc' := 25) (n := 55) (s := 117) dX8_init_23 rfl (by decide) (by decide) (by decide) rfl (by decide) ?_
  refine sr_putR (pc' := 28) (ci := 8) (j := 2) (n := 56) (s := 116) dX8_init_25 rfl rfl rfl (by decide) rfl rfl rfl rfl ?_
  refine mr_aload_n (pc' := 29) dX8_init_28 rfl rfl ?_
  refine mr_bipush (pc' := 31) (v := (12 : Int32)) dX8_init_29 rfl (by decide) ?_
  refine sr_na (pc' := 33) (n := 56) (s := 116) dX8_init_31 rfl (by decide) (by decide) (by decide) rfl (by decide) ?_
  refine sr_putR (pc' := 36) (ci := 8) (j := 3) (n := 57) (s := 115) dX8_init_33 rfl rfl rfl (by decide) rfl rfl rfl rfl ?_
  refine mr_aload_n (pc' := 37) dX8_init_36 rfl rfl ?_
  refine mr_bipush (pc' := 39) (v := (12 : Int32)) dX8_init_37 rfl (by decide) ?_
  refine sr_na (pc' := 41) (n := 57) (s := 115) dX8_init_39 rfl (by decide) (by decide) (by decide) rfl (by decide) ?_
  refine sr_putR (pc' := 44) (ci := 8) (j := 4) (n := 58) (s := 114) dX8_init_41 rfl rfl rfl (by decide) rfl rfl rfl rfl ?_
  refine mr_aload_n (pc' := 45) dX8_init_44 rfl rfl ?_
  refine mr_bipush (pc' := 47) (v := (100 : Int32)) dX8_init_45 rfl (by decide) ?_
  refine sr_na (pc' := 49) (n := 58) (s := 114) dX8_init_47 rfl (by decide) (by decide) (by decide) rfl (by decide) ?_
  refine sr_putR (pc' := 52) (ci := 8) (j := 5) (n := 59) (s := 113) dX8_init_49 rfl rfl rfl (by decide) rfl rfl rfl rfl ?_
  refine mr_aload_n (pc' := 53) dX8_init_52 rfl rfl ?_
  refine mr_iconst (pc' := 54) (v := (0 : Int32)) dX8_init_53 rfl (by decide) ?_
  refine sr_putI (pc' := 57) (ci := 8) (j := 6) (n := 59) (s := 113) dX8_init_54 rfl rfl rfl (by decide) rfl rfl rfl ?_
  refine mr_aload_n (pc' := 58) dX8_init_57 rfl rfl ?_
  refine mr_iconst (pc' := 59) (v := (0 : Int32)) dX8_init_58 rfl (by decide) ?_
  refine sr_putI (pc' := 62) (ci := 8) (j := 7) (n := 59) (s := 113) dX8_init_59 rfl rfl rfl (by decide) rfl rfl rfl ?_
  exact mr_return dX8_init_62 rfl
set_option maxRecDepth 100000 in
theorem ct_X0_init_59 : mr X 0 mY_X0_init 0 (lv_args 0 [.ref 59]) [] (sM 60 112) (none, sM 65 107) := by
  show mr X _ _ 0 [(0, .ref 59)] [] _ _
  refine mr_aload_n (pc' := 1) dX0_init_0 rfl rfl ?_
  refine sr_obj (pc' := 4) dX0_init_1 rfl rfl (by decide) ?_
  refine mr_aload_n (pc' := 5) dX0_init_4 rfl rfl ?_
  refine mr_bipush (pc' := 7) (v := (8 : Int32)) dX0_init_5 rfl (by decide) ?_
  refine sr_na (pc' := 9) (n := 60) (s := 112) dX0_init_7 rfl (by decide) (by decide) (by decide) rfl (by decide) ?_
  refine sr_putR (pc' := 12) (ci := 0) (j := 0) (n := 61) (s := 111) dX0_init_9 rfl rfl rfl (by decide) rfl rfl rfl rfl ?_
  refine mr_aload_n (pc' := 13) dX0_init_12 rfl rfl ?_
  refine mr_bipush (pc' := 15) (v := (8 : Int32)) dX0_init_13 rfl (by decide) ?_
  refine sr_na (pc' := 17) (n := 61) (s := 111) dX0_init_15 rfl (by decide) (by decide) (by decide) rfl (by decide) ?_
  refine sr_putR (pc' := 20) (ci := 0) (j := 1) (n := 62) (s := 110) dX0_init_17 rfl rfl rfl (by decide) rfl rfl rfl rfl ?_
  refine mr_aload_n (pc' := 21) dX0_init_20 rfl rfl ?_
  refine mr_bipush (pc' := 23) (v := (8 : Int32)) dX0_init_21 rfl (by decide) ?_
  refine sr_na (pc' := 25) (n := 62) (s := 110) dX0_init_23 rfl (by decide) (by decide) (by decide) rfl (by decide) ?_
  refine sr_putR (pc' := 28) (ci := 0) (j := 2) (n := 63) (s := 109) dX0_init_25 rfl rfl rfl (by decide) rfl rfl rfl rfl ?_
  refine mr_aload_n (pc' := 29) dX0_init_28 rfl rfl ?_
  refine mr_bipush (pc' := 31) (v := (8 : Int32)) dX0_init_29 rfl (by decide) ?_
  refine sr_na (pc' := 33) (n := 63) (s := 109) dX0_init_31 rfl (by decide) (by decide) (by decide) rfl (by decide) ?_
  refine sr_putR (pc' := 36) (ci := 0) (j := 3) (n := 64) (s := 108) dX0_init_33 rfl rfl rfl (by decide) rfl rfl rfl rfl ?_
  refine mr_aload_n (pc' := 37) dX0_init_36 rfl rfl ?_
  refine mr_bipush (pc' := 39) (v := (8 : Int32)) dX0_init_37 rfl (by decide) ?_
  refine sr_na (pc' := 41) (n := 64) (s := 108) dX0_init_39 rfl (by decide) (by decide) (by decide) rfl (by decide) ?_
  refine sr_putR (pc' := 44) (ci := 0) (j := 4) (n := 65) (s := 107) dX0_init_41 rfl rfl rfl (by decide) rfl rfl rfl rfl ?_
  refine mr_aload_n (pc' := 45) dX0_init_44 rfl rfl ?_
  refine mr_iconst (pc' := 46) (v := (0 : Int32)) dX0_init_45 rfl (by decide) ?_
  refine sr_putI (pc' := 49) (ci := 0) (j := 5) (n := 65) (s := 107) dX0_init_46 rfl rfl rfl (by decide) rfl rfl rfl ?_
  refine mr_aload_n (pc' := 50) dX0_init_49 rfl rfl ?_
  refine mr_iconst (pc' := 51) (v := (0 : Int32)) dX0_init_50 rfl (by decide) ?_
  refine sr_putI (pc' := 54) (ci := 0) (j := 6) (n := 65) (s := 107) dX0_init_51 rfl rfl rfl (by decide) rfl rfl rfl ?_
  exact mr_return dX0_init_54 rfl
set_option maxRecDepth 100000 in
theorem ct_X2_init_65 : mr X 0 mY_X2_init 0 (lv_args 0 [.ref 65]) [] (sM 66 106) (none, sM 70 102) := by
  show mr X _ _ 0 [(0, .ref 65)] [] _ _
  refine mr_aload_n (pc' := 1) dX2_init_0 rfl rfl ?_
  refine sr_obj (pc' := 4) dX2_init_1 rfl rfl (by decide) ?_
  refine mr_aload_n (pc' := 5) dX2_init_4 rfl rfl ?_
  refine mr_bipush (pc' := 7) (v := (12 : Int32)) dX2_init_5 rfl (by decide) ?_
  refine sr_na (pc' := 9) (n := 66) (s := 106) dX2_init_7 rfl (by decide) (by decide) (by decide) rfl (by decide) ?_
  refine sr_putR (pc' := 12) (ci := 2) (j := 0) (n := 67) (s := 105) dX2_init_9 rfl rfl rfl (by decide) rfl rfl rfl rfl ?_
  refine mr_aload_n (pc' := 13) dX2_init_12 rfl rfl ?_
  refine mr_bipush (pc' := 15) (v := (12 : Int32)) dX2_init_13 rfl (by decide) ?_
  refine sr_na (pc' := 17) (n := 67) (s := 105) dX2_init_15 rfl (by decide) (by decide) (by decide) rfl (by decide) ?_
  refine sr_putR (pc' := 20) (ci := 2) (j := 1) (n := 68) (s := 104) dX2_init_17 rfl rfl rfl (by decide) rfl rfl rfl rfl ?_
  refine mr_aload_n (pc' := 21) dX2_init_20 rfl rfl ?_
  refine mr_bipush (pc' := 23) (v := (12 : Int32)) dX2_init_21 rfl (by decide) ?_
  refine sr_na (pc' := 25) (n := 68) (s := 104) dX2_init_23 rfl (by decide) (by decide) (by decide) rfl (by decide) ?_
  refine sr_putR (pc' := 28) (ci := 2) (j := 2) (n := 69) (s := 103) dX2_init_25 rfl rfl rfl (by decide) rfl rfl rfl rfl ?_
  refine mr_aload_n (pc' := 29) dX2_init_28 rfl rfl ?_
  refine mr_bipush (pc' := 31) (v := (12 : Int32)) dX2_init_29 rfl (by decide) ?_
  refine sr_na (pc' := 33) (n := 69) (s := 103) dX2_init_31 rfl (by decide) (by decide) (by decide) rfl (by decide) ?_
  refine sr_putR (pc' := 36) (ci := 2) (j := 3) (n := 70) (s := 102) dX2_init_33 rfl rfl rfl (by decide) rfl rfl rfl rfl ?_
  refine mr_aload_n (pc' := 37) dX2_init_36 rfl rfl ?_
  refine mr_iconst (pc' := 38) (v := (0 : Int32)) dX2_init_37 rfl (by decide) ?_
  refine sr_putI (pc' := 41) (ci := 2) (j := 4) (n := 70) (s := 102) dX2_init_38 rfl rfl rfl (by decide) rfl rfl rfl ?_
  exact mr_return dX2_init_41 rfl
set_option maxRecDepth 100000 in
theorem ct_X6_init_51 : mr X 1 mY_X6_init 0 (lv_args 0 [.ref 51]) [] (sM 52 119) (none, sM 70 101) := by
  show mr X _ _ 0 [(0, .ref 51)] [] _ _
  refine mr_aload_n (pc' := 1) dX6_init_0 rfl rfl ?_
  refine sr_obj (pc' := 4) dX6_init_1 rfl rfl (by decide) ?_
  refine mr_aload_n (pc' := 5) dX6_init_4 rfl rfl ?_
  refine sr_new (pc' := 8) (c := 8) (n := 52) (s := 119) dX6_init_5 rfl rfl rfl (by decide) ?_
  refine mr_dup_ref (pc' := 9) dX6_init_8 rfl ?_
  refine mr_callg (d1 := 0) (Y' := mY_X8_init) (as := [.ref 52]) (rest := [.ref 52, .ref 51]) (mm_nd_uq rfl) dX6_init_9 rfl rfl (by decide) ct_X8_init_52 ?_
  show mr X _ _ 12 _ [.ref 52, .ref 51] (sM 59 113) _
  refine sr_putR (pc' := 15) (ci := 6) (j := 0) (n := 59) (s := 112) dX6_init_12 rfl rfl rfl (by decide) rfl rfl rfl rfl ?_
  refine mr_aload_n (pc' := 16) dX6_init_15 rfl rfl ?_
  refine sr_new (pc' := 19) (c := 0) (n := 59) (s := 112) dX6_init_16 rfl rfl rfl (by decide) ?_
  refine mr_dup_ref (pc' := 20) dX6_init_19 rfl ?_
  refine mr_callg (d1 := 0) (Y' := mY_X0_init) (as := [.ref 59]) (rest := [.ref 59, .ref 51]) (mm_nd_uq rfl) dX6_init_20 rfl rfl (by decide) ct_X0_init_59 ?_
  show mr X _ _ 23 _ [.ref 59, .ref 51] (sM 65 107) _
  refine sr_putR (pc' := 26) (ci := 6) (j := 1) (n := 65) (s := 106) dX6_init_23 rfl rfl rfl (by decide) rfl rfl rfl rfl ?_
  refine mr_aload_n (pc' := 27) dX6_init_26 rfl rfl ?_
  refine sr_new (pc' := 30) (c := 2) (n := 65) (s := 106) dX6_init_27 rfl rfl rfl (by decide) ?_
  refine mr_dup_ref (pc' := 31) dX6_init_30 rfl ?_
  refine mr_callg (d1 := 0) (Y' := mY_X2_init) (as := [.ref 65]) (rest := [.ref 65, .ref 51]) (mm_nd_uq rfl) dX6_init_31 rfl rfl (by decide) ct_X2_init_65 ?_
  show mr X _ _ 34 _ [.ref 65, .ref 51] (sM 70 102) _
  refine sr_putR (pc' := 37) (ci := 6) (j := 2) (n := 70) (s := 101) dX6_init_34 rfl rfl rfl (by decide) rfl rfl rfl rfl ?_
  refine mr_aload_n (pc' := 38) dX6_init_37 rfl rfl ?_
  refine mr_iconst (pc' := 39) (v := (0 : Int32)) dX6_init_38 rfl (by decide) ?_
  refine sr_putI (pc' := 42) (ci := 6) (j := 3) (n := 70) (s := 101) dX6_init_39 rfl rfl rfl (by decide) rfl rfl rfl ?_
  refine mr_aload_n (pc' := 43) dX6_init_42 rfl rfl ?_
  refine mr_iconst (pc' := 44) (v := (0 : Int32)) dX6_init_43 rfl (by decide) ?_
  refine sr_putZ (pc' := 47) (ci := 6) (j := 4) (n := 70) (s := 101) dX6_init_44 rfl rfl rfl (by decide) rfl rfl rfl ?_
  exact mr_return dX6_init_47 rfl
set_option maxRecDepth 100000 in
theorem ct_X8_init_71 : mr X 0 mY_X8_init 0 (lv_args 0 [.ref 71]) [] (sM 72 100) (none, sM 78 94) := by
  show mr X _ _ 0 [(0, .ref 71)] [] _ _
  refine mr_aload_n (pc' := 1) dX8_init_0 rfl rfl ?_
  refine sr_obj (pc' := 4) dX8_init_1 rfl rfl (by decide) ?_
  refine mr_aload_n (pc' := 5) dX8_init_4 rfl rfl ?_
  refine mr_bipush (pc' := 7) (v := (10 : Int32)) dX8_init_5 rfl (by decide) ?_
  refine sr_na (pc' := 9) (n := 72) (s := 100) dX8_init_7 rfl (by decide) (by decide) (by decide) rfl (by decide) ?_
  refine sr_putR (pc' := 12) (ci := 8) (j := 0) (n := 73) (s := 99) dX8_init_9 rfl rfl rfl (by decide) rfl rfl rfl rfl ?_
  refine mr_aload_n (pc' := 13) dX8_init_12 rfl rfl ?_
  refine mr_bipush (pc' := 15) (v := (12 : Int32)) dX8_init_13 rfl (by decide) ?_
  refine sr_na (pc' := 17) (n := 73) (s := 99) dX8_init_15 rfl (by decide) (by decide) (by decide) rfl (by decide) ?_
  refine sr_putR (pc' := 20) (ci := 8) (j := 1) (n := 74) (s := 98) dX8_init_17 rfl rfl rfl (by decide) rfl rfl rfl rfl ?_
  refine mr_aload_n (pc' := 21) dX8_init_20 rfl rfl ?_
  refine mr_bipush (pc' := 23) (v := (12 : Int32)) dX8_init_21 rfl (by decide) ?_
  refine sr_na (pc' := 25) (n := 74) (s := 98) dX8_init_23 rfl (by decide) (by decide) (by decide) rfl (by decide) ?_
  refine sr_putR (pc' := 28) (ci := 8) (j := 2) (n := 75) (s := 97) dX8_init_25 rfl rfl rfl (by decide) rfl rfl rfl rfl ?_
  refine mr_aload_n (pc' := 29) dX8_init_28 rfl rfl ?_
  refine mr_bipush (pc' := 31) (v := (12 : Int32)) dX8_init_29 rfl (by decide) ?_
  refine sr_na (pc' := 33) (n := 75) (s := 97) dX8_init_31 rfl (by decide) (by decide) (by decide) rfl (by decide) ?_
  refine sr_putR (pc' := 36) (ci := 8) (j := 3) (n := 76) (s := 96) dX8_init_33 rfl rfl rfl (by decide) rfl rfl rfl rfl ?_
  refine mr_aload_n (pc' := 37) dX8_init_36 rfl rfl ?_
  refine mr_bipush (pc' := 39) (v := (12 : Int32)) dX8_init_37 rfl (by decide) ?_
  refine sr_na (pc' := 41) (n := 76) (s := 96) dX8_init_39 rfl (by decide) (by decide) (by decide) rfl (by decide) ?_
  refine sr_putR (pc' := 44) (ci := 8) (j := 4) (n := 77) (s := 95) dX8_init_41 rfl rfl rfl (by decide) rfl rfl rfl rfl ?_
  refine mr_aload_n (pc' := 45) dX8_init_44 rfl rfl ?_
  refine mr_bipush (pc' := 47) (v := (100 : Int32)) dX8_init_45 rfl (by decide) ?_
  refine sr_na (pc' := 49) (n := 77) (s := 95) dX8_init_47 rfl (by decide) (by decide) (by decide) rfl (by decide) ?_
  refine sr_putR (pc' := 52) (ci := 8) (j := 5) (n := 78) (s := 94) dX8_init_49 rfl rfl rfl (by decide) rfl rfl rfl rfl ?_
  refine mr_aload_n (pc' := 53) dX8_init_52 rfl rfl ?_
  refine mr_iconst (pc' := 54) (v := (0 : Int32)) dX8_init_53 rfl (by decide) ?_
  refine sr_putI (pc' := 57) (ci := 8) (j := 6) (n := 78) (s := 94) dX8_init_54 rfl rfl rfl (by decide) rfl rfl rfl ?_
  refine mr_aload_n (pc' := 58) dX8_init_57 rfl rfl ?_
  refine mr_iconst (pc' := 59) (v := (0 : Int32)) dX8_init_58 rfl (by decide) ?_
  refine sr_putI (pc' := 62) (ci := 8) (j := 7) (n := 78) (s := 94) dX8_init_59 rfl rfl rfl (by decide) rfl rfl rfl ?_
  exact mr_return dX8_init_62 rfl
set_option maxRecDepth 100000 in
theorem ct_X0_init_78 : mr X 0 mY_X0_init 0 (lv_args 0 [.ref 78]) [] (sM 79 93) (none, sM 84 88) := by
  show mr X _ _ 0 [(0, .ref 78)] [] _ _
  refine mr_aload_n (pc' := 1) dX0_init_0 rfl rfl ?_
  refine sr_obj (pc' := 4) dX0_init_1 rfl rfl (by decide) ?_
  refine mr_aload_n (pc' := 5) dX0_init_4 rfl rfl ?_
  refine mr_bipush (pc' := 7) (v := (8 : Int32)) dX0_init_5 rfl (by decide) ?_
  refine sr_na (pc' := 9) (n := 79) (s := 93) dX0_init_7 rfl (by decide) (by decide) (by decide) rfl (by decide) ?_
  refine sr_putR (pc' := 12) (ci := 0) (j := 0) (n := 80) (s := 92) dX0_init_9 rfl rfl rfl (by decide) rfl rfl rfl rfl ?_
  refine mr_aload_n (pc' := 13) dX0_init_12 rfl rfl ?_
  refine mr_bipush (pc' := 15) (v := (8 : Int32)) dX0_init_13 rfl (by decide) ?_
  refine sr_na (pc' := 17) (n := 80) (s := 92) dX0_init_15 rfl (by decide) (by decide) (by decide) rfl (by decide) ?_
  refine sr_putR (pc' := 20) (ci := 0) (j := 1) (n := 81) (s := 91) dX0_init_17 rfl rfl rfl (by decide) rfl rfl rfl rfl ?_
  refine mr_aload_n (pc' := 21) dX0_init_20 rfl rfl ?_
  refine mr_bipush (pc' := 23) (v := (8 : Int32)) dX0_init_21 rfl (by decide) ?_
  refine sr_na (pc' := 25) (n := 81) (s := 91) dX0_init_23 rfl (by decide) (by decide) (by decide) rfl (by decide) ?_
  refine sr_putR (pc' := 28) (ci := 0) (j := 2) (n := 82) (s := 90) dX0_init_25 rfl rfl rfl (by decide) rfl rfl rfl rfl ?_
  refine mr_aload_n (pc' := 29) dX0_init_28 rfl rfl ?_
  refine mr_bipush (pc' := 31) (v := (8 : Int32)) dX0_init_29 rfl (by decide) ?_
  refine sr_na (pc' := 33) (n := 82) (s := 90) dX0_init_31 rfl (by decide) (by decide) (by decide) rfl (by decide) ?_
  refine sr_putR (pc' := 36) (ci := 0) (j := 3) (n := 83) (s := 89) dX0_init_33 rfl rfl rfl (by decide) rfl rfl rfl rfl ?_
  refine mr_aload_n (pc' := 37) dX0_init_36 rfl rfl ?_
  refine mr_bipush (pc' := 39) (v := (8 : Int32)) dX0_init_37 rfl (by decide) ?_
  refine sr_na (pc' := 41) (n := 83) (s := 89) dX0_init_39 rfl (by decide) (by decide) (by decide) rfl (by decide) ?_
  refine sr_putR (pc' := 44) (ci := 0) (j := 4) (n := 84) (s := 88) dX0_init_41 rfl rfl rfl (by decide) rfl rfl rfl rfl ?_
  refine mr_aload_n (pc' := 45) dX0_init_44 rfl rfl ?_
  refine mr_iconst (pc' := 46) (v := (0 : Int32)) dX0_init_45 rfl (by decide) ?_
  refine sr_putI (pc' := 49) (ci := 0) (j := 5) (n := 84) (s := 88) dX0_init_46 rfl rfl rfl (by decide) rfl rfl rfl ?_
  refine mr_aload_n (pc' := 50) dX0_init_49 rfl rfl ?_
  refine mr_iconst (pc' := 51) (v := (0 : Int32)) dX0_init_50 rfl (by decide) ?_
  refine sr_putI (pc' := 54) (ci := 0) (j := 6) (n := 84) (s := 88) dX0_init_51 rfl rfl rfl (by decide) rfl rfl rfl ?_
  exact mr_return dX0_init_54 rfl
set_option maxRecDepth 100000 in
theorem ct_X2_init_84 : mr X 0 mY_X2_init 0 (lv_args 0 [.ref 84]) [] (sM 85 87) (none, sM 89 83) := by
  show mr X _ _ 0 [(0, .ref 84)] [] _ _
  refine mr_aload_n (pc' := 1) dX2_init_0 rfl rfl ?_
  refine sr_obj (pc' := 4) dX2_init_1 rfl rfl (by decide) ?_
  refine mr_aload_n (pc' := 5) dX2_init_4 rfl rfl ?_
  refine mr_bipush (pc' := 7) (v := (12 : Int32)) dX2_init_5 rfl (by decide) ?_
  refine sr_na (pc' := 9) (n := 85) (s := 87) dX2_init_7 rfl (by decide) (by decide) (by decide) rfl (by decide) ?_
  refine sr_putR (pc' := 12) (ci := 2) (j := 0) (n := 86) (s := 86) dX2_init_9 rfl rfl rfl (by decide) rfl rfl rfl rfl ?_
  refine mr_aload_n (pc' := 13) dX2_init_12 rfl rfl ?_
  refine mr_bipush (pc' := 15) (v := (12 : Int32)) dX2_init_13 rfl (by decide) ?_
  refine sr_na (pc' := 17) (n := 86) (s := 86) dX2_init_15 rfl (by decide) (by decide) (by decide) rfl (by decide) ?_
  refine sr_putR (pc' := 20) (ci := 2) (j := 1) (n := 87) (s := 85) dX2_init_17 rfl rfl rfl (by decide) rfl rfl rfl rfl ?_
  refine mr_aload_n (pc' := 21) dX2_init_20 rfl rfl ?_
  refine mr_bipush (pc' := 23) (v := (12 : Int32)) dX2_init_21 rfl (by decide) ?_
  refine sr_na (pc' := 25) (n := 87) (s := 85) dX2_init_23 rfl (by decide) (by decide) (by decide) rfl (by decide) ?_
  refine sr_putR (pc' := 28) (ci := 2) (j := 2) (n := 88) (s := 84) dX2_init_25 rfl rfl rfl (by decide) rfl rfl rfl rfl ?_
  refine mr_aload_n (pc' := 29) dX2_init_28 rfl rfl ?_
  refine mr_bipush (pc' := 31) (v := (12 : Int32)) dX2_init_29 rfl (by decide) ?_
  refine sr_na (pc' := 33) (n := 88) (s := 84) dX2_init_31 rfl (by decide) (by decide) (by decide) rfl (by decide) ?_
  refine sr_putR (pc' := 36) (ci := 2) (j := 3) (n := 89) (s := 83) dX2_init_33 rfl rfl rfl (by decide) rfl rfl rfl rfl ?_
  refine mr_aload_n (pc' := 37) dX2_init_36 rfl rfl ?_
  refine mr_iconst (pc' := 38) (v := (0 : Int32)) dX2_init_37 rfl (by decide) ?_
  refine sr_putI (pc' := 41) (ci := 2) (j := 4) (n := 89) (s := 83) dX2_init_38 rfl rfl rfl (by decide) rfl rfl rfl ?_
  exact mr_return dX2_init_41 rfl
set_option maxRecDepth 100000 in
theorem ct_X6_init_70 : mr X 1 mY_X6_init 0 (lv_args 0 [.ref 70]) [] (sM 71 100) (none, sM 89 82) := by
  show mr X _ _ 0 [(0, .ref 70)] [] _ _
  refine mr_aload_n (pc' := 1) dX6_init_0 rfl rfl ?_
  refine sr_obj (pc' := 4) dX6_init_1 rfl rfl (by decide) ?_
  refine mr_aload_n (pc' := 5) dX6_init_4 rfl rfl ?_
  refine sr_new (pc' := 8) (c := 8) (n := 71) (s := 100) dX6_init_5 rfl rfl rfl (by decide) ?_
  refine mr_dup_ref (pc' := 9) dX6_init_8 rfl ?_
  refine mr_callg (d1 := 0) (Y' := mY_X8_init) (as := [.ref 71]) (rest := [.ref 71, .ref 70]) (mm_nd_uq rfl) dX6_init_9 rfl rfl (by decide) ct_X8_init_71 ?_
  show mr X _ _ 12 _ [.ref 71, .ref 70] (sM 78 94) _
  refine sr_putR (pc' := 15) (ci := 6) (j := 0) (n := 78) (s := 93) dX6_init_12 rfl rfl rfl (by decide) rfl rfl rfl rfl ?_
  refine mr_aload_n (pc' := 16) dX6_init_15 rfl rfl ?_
  refine sr_new (pc' := 19) (c := 0) (n := 78) (s := 93) dX6_init_16 rfl rfl rfl (by decide) ?_
  refine mr_dup_ref (pc' := 20) dX6_init_19 rfl ?_
  refine mr_callg (d1 := 0) (Y' := mY_X0_init) (as := [.ref 78]) (rest := [.ref 78, .ref 70]) (mm_nd_uq rfl) dX6_init_20 rfl rfl (by decide) ct_X0_init_78 ?_
  show mr X _ _ 23 _ [.ref 78, .ref 70] (sM 84 88) _
  refine sr_putR (pc' := 26) (ci := 6) (j := 1) (n := 84) (s := 87) dX6_init_23 rfl rfl rfl (by decide) rfl rfl rfl rfl ?_
  refine mr_aload_n (pc' := 27) dX6_init_26 rfl rfl ?_
  refine sr_new (pc' := 30) (c := 2) (n := 84) (s := 87) dX6_init_27 rfl rfl rfl (by decide) ?_
  refine mr_dup_ref (pc' := 31) dX6_init_30 rfl ?_
  refine mr_callg (d1 := 0) (Y' := mY_X2_init) (as := [.ref 84]) (rest := [.ref 84, .ref 70]) (mm_nd_uq rfl) dX6_init_31 rfl rfl (by decide) ct_X2_init_84 ?_
  show mr X _ _ 34 _ [.ref 84, .ref 70] (sM 89 83) _
  refine sr_putR (pc' := 37) (ci := 6) (j := 2) (n := 89) (s := 82) dX6_init_34 rfl rfl rfl (by decide) rfl rfl rfl rfl ?_
  refine mr_aload_n (pc' := 38) dX6_init_37 rfl rfl ?_
  refine mr_iconst (pc' := 39) (v := (0 : Int32)) dX6_init_38 rfl (by decide) ?_
  refine sr_putI (pc' := 42) (ci := 6) (j := 3) (n := 89) (s := 82) dX6_init_39 rfl rfl rfl (by decide) rfl rfl rfl ?_
  refine mr_aload_n (pc' := 43) dX6_init_42 rfl rfl ?_
  refine mr_iconst (pc' := 44) (v := (0 : Int32)) dX6_init_43 rfl (by decide) ?_
  refine sr_putZ (pc' := 47) (ci := 6) (j := 4) (n := 89) (s := 82) dX6_init_44 rfl rfl rfl (by decide) rfl rfl rfl ?_
  exact mr_return dX6_init_47 rfl
set_option maxRecDepth 100000 in
theorem ct_X8_init_90 : mr X 0 mY_X8_init 0 (lv_args 0 [.ref 90]) [] (sM 91 81) (none, sM 97 75) := by
  show mr X _ _ 0 [(0, .ref 90)] [] _ _
  refine mr_aload_n (pc' := 1) dX8_init_0 rfl rfl ?_
  refine sr_obj (pc' := 4) dX8_init_1 rfl rfl (by decide) ?_
  refine mr_aload_n (pc' := 5) dX8_init_4 rfl rfl ?_
  refine mr_bipush (pc' := 7) (v := (10 : Int32)) dX8_init_5 rfl (by decide) ?_
  refine sr_na (pc' := 9) (n := 91) (s := 81) dX8_init_7 rfl (by decide) (by decide) (by decide) rfl (by decide) ?_
  refine sr_putR (pc' := 12) (ci := 8) (j := 0) (n := 92) (s := 80) dX8_init_9 rfl rfl rfl (by decide) rfl rfl rfl rfl ?_
  refine mr_aload_n (pc' := 13) dX8_init_12 rfl rfl ?_
  refine mr_bipush (pc' := 15) (v := (12 : Int32)) dX8_init_13 rfl (by decide) ?_
  refine sr_na (pc' := 17) (n := 92) (s := 80) dX8_init_15 rfl (by decide) (by decide) (by decide) rfl (by decide) ?_
  refine sr_putR (pc' := 20) (ci := 8) (j := 1) (n := 93) (s := 79) dX8_init_17 rfl rfl rfl (by decide) rfl rfl rfl rfl ?_
  refine mr_aload_n (pc' := 21) dX8_init_20 rfl rfl ?_
  refine mr_bipush (pc' := 23) (v := (12 : Int32)) dX8_init_21 rfl (by decide) ?_
  refine sr_na (pc' := 25) (n := 93) (s := 79) dX8_init_23 rfl (by decide) (by decide) (by decide) rfl (by decide) ?_
  refine sr_putR (pc' := 28) (ci := 8) (j := 2) (n := 94) (s := 78) dX8_init_25 rfl rfl rfl (by decide) rfl rfl rfl rfl ?_
  refine mr_aload_n (pc' := 29) dX8_init_28 rfl rfl ?_
  refine mr_bipush (pc' := 31) (v := (12 : Int32)) dX8_init_29 rfl (by decide) ?_
  refine sr_na (pc' := 33) (n := 94) (s := 78) dX8_init_31 rfl (by decide) (by decide) (by decide) rfl (by decide) ?_
  refine sr_putR (pc' := 36) (ci := 8) (j := 3) (n := 95) (s := 77) dX8_init_33 rfl rfl rfl (by decide) rfl rfl rfl rfl ?_
  refine mr_aload_n (pc' := 37) dX8_init_36 rfl rfl ?_
  refine mr_bipush (pc' := 39) (v := (12 : Int32)) dX8_init_37 rfl (by decide) ?_
  refine sr_na (pc' := 41) (n := 95) (s := 77) dX8_init_39 rfl (by decide) (by decide) (by decide) rfl (by decide) ?_
  refine sr_putR (pc' := 44) (ci := 8) (j := 4) (n := 96) (s := 76) dX8_init_41 rfl rfl rfl (by decide) rfl rfl rfl rfl ?_
  refine mr_aload_n (pc' := 45) dX8_init_44 rfl rfl ?_
  refine mr_bipush (pc' := 47) (v := (100 : Int32)) dX8_init_45 rfl (by decide) ?_
  refine sr_na (pc' := 49) (n := 96) (s := 76) dX8_init_47 rfl (by decide) (by decide) (by decide) rfl (by decide) ?_
  refine sr_putR (pc' := 52) (ci := 8) (j := 5) (n := 97) (s := 75) dX8_init_49 rfl rfl rfl (by decide) rfl rfl rfl rfl ?_
  refine mr_aload_n (pc' := 53) dX8_init_52 rfl rfl ?_
  refine mr_iconst (pc' := 54) (v := (0 : Int32)) dX8_init_53 rfl (by decide) ?_
  refine sr_putI (pc' := 57) (ci := 8) (j := 6) (n := 97) (s := 75) dX8_init_54 rfl rfl rfl (by decide) rfl rfl rfl ?_
  refine mr_aload_n (pc' := 58) dX8_init_57 rfl rfl ?_
  refine mr_iconst (pc' := 59) (v := (0 : Int32)) dX8_init_58 rfl (by decide) ?_
  refine sr_putI (pc' := 62) (ci := 8) (j := 7) (n := 97) (s := 75) dX8_init_59 rfl rfl rfl (by decide) rfl rfl rfl ?_
  exact mr_return dX8_init_62 rfl
set_option maxRecDepth 100000 in
theorem ct_X0_init_97 : mr X 0 mY_X0_init 0 (lv_args 0 [.ref 97]) [] (sM 98 74) (none, sM 103 69) := by
  show mr X _ _ 0 [(0, .ref 97)] [] _ _
  refine mr_aload_n (pc' := 1) dX0_init_0 rfl rfl ?_
  refine sr_obj (pc' := 4) dX0_init_1 rfl rfl (by decide) ?_
  refine mr_aload_n (pc' := 5) dX0_init_4 rfl rfl ?_
  refine mr_bipush (pc' := 7) (v := (8 : Int32)) dX0_init_5 rfl (by decide) ?_
  refine sr_na (pc' := 9) (n := 98) (s := 74) dX0_init_7 rfl (by decide) (by decide) (by decide) rfl (by decide) ?_
  refine sr_putR (pc' := 12) (ci := 0) (j := 0) (n := 99) (s := 73) dX0_init_9 rfl rfl rfl (by decide) rfl rfl rfl rfl ?_
  refine mr_aload_n (pc' := 13) dX0_init_12 rfl rfl ?_
  refine mr_bipush (pc' := 15) (v := (8 : Int32)) dX0_init_13 rfl (by decide) ?_
  refine sr_na (pc' := 17) (n := 99) (s := 73) dX0_init_15 rfl (by decide) (by decide) (by decide) rfl (by decide) ?_
  refine sr_putR (pc' := 20) (ci := 0) (j := 1) (n := 100) (s := 72) dX0_init_17 rfl rfl rfl (by decide) rfl rfl rfl rfl ?_
  refine mr_aload_n (pc' := 21) dX0_init_20 rfl rfl ?_
  refine mr_bipush (pc' := 23) (v := (8 : Int32)) dX0_init_21 rfl (by decide) ?_
  refine sr_na (pc' := 25) (n := 100) (s := 72) dX0_init_23 rfl (by decide) (by decide) (by decide) rfl (by decide) ?_
  refine sr_putR (pc' := 28) (ci := 0) (j := 2) (n := 101) (s := 71) dX0_init_25 rfl rfl rfl (by decide) rfl rfl rfl rfl ?_
  refine mr_aload_n (pc' := 29) dX0_init_28 rfl rfl ?_
  refine mr_bipush (pc' := 31) (v := (8 : Int32)) dX0_init_29 rfl (by decide) ?_
  refine sr_na (pc' := 33) (n := 101) (s := 71) dX0_init_31 rfl (by decide) (by decide) (by decide) rfl (by decide) ?_
  refine sr_putR (pc' := 36) (ci := 0) (j := 3) (n := 102) (s := 70) dX0_init_33 rfl rfl rfl (by decide) rfl rfl rfl rfl ?_
  refine mr_aload_n (pc' := 37) dX0_init_36 rfl rfl ?_
  refine mr_bipush (pc' := 39) (v := (8 : Int32)) dX0_init_37 rfl (by decide) ?_
  refine sr_na (pc' := 41) (n := 102) (s := 70) dX0_init_39 rfl (by decide) (by decide) (by decide) rfl (by decide) ?_
  refine sr_putR (pc' := 44) (ci := 0) (j := 4) (n := 103) (s := 69) dX0_init_41 rfl rfl rfl (by decide) rfl rfl rfl rfl ?_
  refine mr_aload_n (pc' := 45) dX0_init_44 rfl rfl ?_
  refine mr_iconst (pc' := 46) (v := (0 : Int32)) dX0_init_45 rfl (by decide) ?_
  refine sr_putI (pc' := 49) (ci := 0) (j := 5) (n := 103) (s := 69) dX0_init_46 rfl rfl rfl (by decide) rfl rfl rfl ?_
  refine mr_aload_n (pc' := 50) dX0_init_49 rfl rfl ?_
  refine mr_iconst (pc' := 51) (v := (0 : Int32)) dX0_init_50 rfl (by decide) ?_
  refine sr_putI (pc' := 54) (ci := 0) (j := 6) (n := 103) (s := 69) dX0_init_51 rfl rfl rfl (by decide) rfl rfl rfl ?_
  exact mr_return dX0_init_54 rfl
set_option maxRecDepth 100000 in
theorem ct_X2_init_103 : mr X 0 mY_X2_init 0 (lv_args 0 [.ref 103]) [] (sM 104 68) (none, sM 108 64) := by
  show mr X _ _ 0 [(0, .ref 103)] [] _ _
  refine mr_aload_n (pc' := 1) dX2_init_0 rfl rfl ?_
  refine sr_obj (pc' := 4) dX2_init_1 rfl rfl (by decide) ?_
  refine mr_aload_n (pc' := 5) dX2_init_4 rfl rfl ?_
  refine mr_bipush (pc' := 7) (v := (12 : Int32)) dX2_init_5 rfl (by decide) ?_
  refine sr_na (pc' := 9) (n := 104) (s := 68) dX2_init_7 rfl (by decide) (by decide) (by decide) rfl (by decide) ?_
  refine sr_putR (pc' := 12) (ci := 2) (j := 0) (n := 105) (s := 67) dX2_init_9 rfl rfl rfl (by decide) rfl rfl rfl rfl ?_
  refine mr_aload_n (pc' := 13) dX2_init_12 rfl rfl ?_
  refine mr_bipush (pc' := 15) (v := (12 : Int32)) dX2_init_13 rfl (by decide) ?_
  refine sr_na (pc' := 17) (n := 105) (s := 67) dX2_init_15 rfl (by decide) (by decide) (by decide) rfl (by decide) ?_
  refine sr_putR (pc' := 20) (ci := 2) (j := 1) (n := 106) (s := 66) dX2_init_17 rfl rfl rfl (by decide) rfl rfl rfl rfl ?_
  refine mr_aload_n (pc' := 21) dX2_init_20 rfl rfl ?_
  refine mr_bipush (pc' := 23) (v := (12 : Int32)) dX2_init_21 rfl (by decide) ?_
  refine sr_na (pc' := 25) (n := 106) (s := 66) dX2_init_23 rfl (by decide) (by decide) (by decide) rfl (by decide) ?_
  refine sr_putR (pc' := 28) (ci := 2) (j := 2) (n := 107) (s := 65) dX2_init_25 rfl rfl rfl (by decide) rfl rfl rfl rfl ?_
  refine mr_aload_n (pc' := 29) dX2_init_28 rfl rfl ?_
  refine mr_bipush (pc' := 31) (v := (12 : Int32)) dX2_init_29 rfl (by decide) ?_
  refine sr_na (pc' := 33) (n := 107) (s := 65) dX2_init_31 rfl (by decide) (by decide) (by decide) rfl (by decide) ?_
  refine sr_putR (pc' := 36) (ci := 2) (j := 3) (n := 108) (s := 64) dX2_init_33 rfl rfl rfl (by decide) rfl rfl rfl rfl ?_
  refine mr_aload_n (pc' := 37) dX2_init_36 rfl rfl ?_
  refine mr_iconst (pc' := 38) (v := (0 : Int32)) dX2_init_37 rfl (by decide) ?_
  refine sr_putI (pc' := 41) (ci := 2) (j := 4) (n := 108) (s := 64) dX2_init_38 rfl rfl rfl (by decide) rfl rfl rfl ?_
  exact mr_return dX2_init_41 rfl
set_option maxRecDepth 100000 in
theorem ct_X6_init_89 : mr X 1 mY_X6_init 0 (lv_args 0 [.ref 89]) [] (sM 90 81) (none, sM 108 63) := by
  show mr X _ _ 0 [(0, .ref 89)] [] _ _
  refine mr_aload_n (pc' := 1) dX6_init_0 rfl rfl ?_
  refine sr_obj (pc' := 4) dX6_init_1 rfl rfl (by decide) ?_
  refine mr_aload_n (pc' := 5) dX6_init_4 rfl rfl ?_
  refine sr_new (pc' := 8) (c := 8) (n := 90) (s := 81) dX6_init_5 rfl rfl rfl (by decide) ?_
  refine mr_dup_ref (pc' := 9) dX6_init_8 rfl ?_
  refine mr_callg (d1 := 0) (Y' := mY_X8_init) (as := [.ref 90]) (rest := [.ref 90, .ref 89]) (mm_nd_uq rfl) dX6_init_9 rfl rfl (by decide) ct_X8_init_90 ?_
  show mr X _ _ 12 _ [.ref 90, .ref 89] (sM 97 75) _
  refine sr_putR (pc' := 15) (ci := 6) (j := 0) (n := 97) (s := 74) dX6_init_12 rfl rfl rfl (by decide) rfl rfl rfl rfl ?_
  refine mr_aload_n (pc' := 16) dX6_init_15 rfl rfl ?_
  refine sr_new (pc' := 19) (c := 0) (n := 97) (s := 74) dX6_init_16 rfl rfl rfl (by decide) ?_
  refine mr_dup_ref (pc' := 20) dX6_init_19 rfl ?_
  refine mr_callg (d1 := 0) (Y' := mY_X0_init) (as := [.ref 97]) (rest := [.ref 97, .ref 89]) (mm_nd_uq rfl) dX6_init_20 rfl rfl (by decide) ct_X0_init_97 ?_
  show mr X _ _ 23 _ [.ref 97, .ref 89] (sM 103 69) _
  refine sr_putR (pc' := 26) (ci := 6) (j := 1) (n := 103) (s := 68) dX6_init_23 rfl rfl rfl (by decide) rfl rfl rfl rfl ?_
  refine mr_aload_n (pc' := 27) dX6_init_26 rfl rfl ?_
  refine sr_new (pc' := 30) (c := 2) (n := 103) (s := 68) dX6_init_27 rfl rfl rfl (by decide) ?_
  refine mr_dup_ref (pc' := 31) dX6_init_30 rfl ?_
  refine mr_callg (d1 := 0) (Y' := mY_X2_init) (as := [.ref 103]) (rest := [.ref 103, .ref 89]) (mm_nd_uq rfl) dX6_init_31 rfl rfl (by decide) ct_X2_init_103 ?_
  show mr X _ _ 34 _ [.ref 103, .ref 89] (sM 108 64) _
  refine sr_putR (pc' := 37) (ci := 6) (j := 2) (n := 108) (s := 63) dX6_init_34 rfl rfl rfl (by decide) rfl rfl rfl rfl ?_
  refine mr_aload_n (pc' := 38) dX6_init_37 rfl rfl ?_
  refine mr_iconst (pc' := 39) (v := (0 : Int32)) dX6_init_38 rfl (by decide) ?_
  refine sr_putI (pc' := 42) (ci := 6) (j := 3) (n := 108) (s := 63) dX6_init_39 rfl rfl rfl (by decide) rfl rfl rfl ?_
  refine mr_aload_n (pc' := 43) dX6_init_42 rfl rfl ?_
  refine mr_iconst (pc' := 44) (v := (0 : Int32)) dX6_init_43 rfl (by decide) ?_
  refine sr_putZ (pc' := 47) (ci := 6) (j := 4) (n := 108) (s := 63) dX6_init_44 rfl rfl rfl (by decide) rfl rfl rfl ?_
  exact mr_return dX6_init_47 rfl
set_option maxRecDepth 100000 in
theorem ct_X8_init_109 : mr X 0 mY_X8_init 0 (lv_args 0 [.ref 109]) [] (sM 110 62) (none, sM 116 56) := by
  show mr X _ _ 0 [(0, .ref 109)] [] _ _
  refine mr_aload_n (pc' := 1) dX8_init_0 rfl rfl ?_
  refine sr_obj (pc' := 4) dX8_init_1 rfl rfl (by decide) ?_
  refine mr_aload_n (pc' := 5) dX8_init_4 rfl rfl ?_
  refine mr_bipush (pc' := 7) (v := (10 : Int32)) dX8_init_5 rfl (by decide) ?_
  refine sr_na (pc' := 9) (n := 110) (s := 62) dX8_init_7 rfl (by decide) (by decide) (by decide) rfl (by decide) ?_
  refine sr_putR (pc' := 12) (ci := 8) (j := 0) (n := 111) (s := 61) dX8_init_9 rfl rfl rfl (by decide) rfl rfl rfl rfl ?_
  refine mr_aload_n (pc' := 13) dX8_init_12 rfl rfl ?_
  refine mr_bipush (pc' := 15) (v := (12 : Int32)) dX8_init_13 rfl (by decide) ?_
  refine sr_na (pc' := 17) (n := 111) (s := 61) dX8_init_15 rfl (by decide) (by decide) (by decide) rfl (by decide) ?_
  refine sr_putR (pc' := 20) (ci := 8) (j := 1) (n := 112) (s := 60) dX8_init_17 rfl rfl rfl (by decide) rfl rfl rfl rfl ?_
  refine mr_aload_n (pc' := 21) dX8_init_20 rfl rfl ?_
  refine mr_bipush (pc' := 23) (v := (12 : Int32)) dX8_init_21 rfl (by decide) ?_
  refine sr_na (pc' := 25) (n := 112) (s := 60) dX8_init_23 rfl (by decide) (by decide) (by decide) rfl (by decide) ?_
  refine sr_putR (pc' := 28) (ci := 8) (j := 2) (n := 113) (s := 59) dX8_init_25 rfl rfl rfl (by decide) rfl rfl rfl rfl ?_
  refine mr_aload_n (pc' := 29) dX8_init_28 rfl rfl ?_
  refine mr_bipush (pc' := 31) (v := (12 : Int32)) dX8_init_29 rfl (by decide) ?_
  refine sr_na (pc' := 33) (n := 113) (s := 59) dX8_init_31 rfl (by decide) (by decide) (by decide) rfl (by decide) ?_
  refine sr_putR (pc' := 36) (ci := 8) (j := 3) (n := 114) (s := 58) dX8_init_33 rfl rfl rfl (by decide) rfl rfl rfl rfl ?_
  refine mr_aload_n (pc' := 37) dX8_init_36 rfl rfl ?_
  refine mr_bipush (pc' := 39) (v := (12 : Int32)) dX8_init_37 rfl (by decide) ?_
  refine sr_na (pc' := 41) (n := 114) (s := 58) dX8_init_39 rfl (by decide) (by decide) (by decide) rfl (by decide) ?_
  refine sr_putR (pc' := 44) (ci := 8) (j := 4) (n := 115) (s := 57) dX8_init_41 rfl rfl rfl (by decide) rfl rfl rfl rfl ?_
  refine mr_aload_n (pc' := 45) dX8_init_44 rfl rfl ?_
  refine mr_bipush (pc' := 47) (v := (100 : Int32)) dX8_init_45 rfl (by decide) ?_
  refine sr_na (pc' := 49) (n := 115) (s := 57) dX8_init_47 rfl (by decide) (by decide) (by decide) rfl (by decide) ?_
  refine sr_putR (pc' := 52) (ci := 8) (j := 5) (n := 116) (s := 56) dX8_init_49 rfl rfl rfl (by decide) rfl rfl rfl rfl ?_
  refine mr_aload_n (pc' := 53) dX8_init_52 rfl rfl ?_
  refine mr_iconst (pc' := 54) (v := (0 : Int32)) dX8_init_53 rfl (by decide) ?_
  refine sr_putI (pc' := 57) (ci := 8) (j := 6) (n := 116) (s := 56) dX8_init_54 rfl rfl rfl (by decide) rfl rfl rfl ?_
  refine mr_aload_n (pc' := 58) dX8_init_57 rfl rfl ?_
  refine mr_iconst (pc' := 59) (v := (0 : Int32)) dX8_init_58 rfl (by decide) ?_
  refine sr_putI (pc' := 62) (ci := 8) (j := 7) (n := 116) (s := 56) dX8_init_59 rfl rfl rfl (by decide) rfl rfl rfl ?_
  exact mr_return dX8_init_62 rfl
set_option maxRecDepth 100000 in
theorem ct_X0_init_116 : mr X 0 mY_X0_init 0 (lv_args 0 [.ref 116]) [] (sM 117 55) (none, sM 122 50) := by
  show mr X _ _ 0 [(0, .ref 116)] [] _ _
  refine mr_aload_n (pc' := 1) dX0_init_0 rfl rfl ?_
  refine sr_obj (pc' := 4) dX0_init_1 rfl rfl (by decide) ?_
  refine mr_aload_n (pc' := 5) dX0_init_4 rfl rfl ?_
  refine mr_bipush (pc' := 7) (v := (8 : Int32)) dX0_init_5 rfl (by decide) ?_
  refine sr_na (pc' := 9) (n := 117) (s := 55) dX0_init_7 rfl (by decide) (by decide) (by decide) rfl (by decide) ?_
  refine sr_putR (pc' := 12) (ci := 0) (j := 0) (n := 118) (s := 54) dX0_init_9 rfl rfl rfl (by decide) rfl rfl rfl rfl ?_
  refine mr_aload_n (pc' := 13) dX0_init_12 rfl rfl ?_
  refine mr_bipush (pc' := 15) (v := (8 : Int32)) dX0_init_13 rfl (by decide) ?_
  refine sr_na (pc' := 17) (n := 118) (s := 54) dX0_init_15 rfl (by decide) (by decide) (by decide) rfl (by decide) ?_
  refine sr_putR (pc' := 20) (ci := 0) (j := 1) (n := 119) (s := 53) dX0_init_17 rfl rfl rfl (by decide) rfl rfl rfl rfl ?_
  refine mr_aload_n (pc' := 21) dX0_init_20 rfl rfl ?_
  refine mr_bipush (pc' := 23) (v := (8 : Int32)) dX0_init_21 rfl (by decide) ?_
  refine sr_na (pc' := 25) (n := 119) (s := 53) dX0_init_23 rfl (by decide) (by decide) (by decide) rfl (by decide) ?_
  refine sr_putR (pc' := 28) (ci := 0) (j := 2) (n := 120) (s := 52) dX0_init_25 rfl rfl rfl (by decide) rfl rfl rfl rfl ?_
  refine mr_aload_n (pc' := 29) dX0_init_28 rfl rfl ?_
  refine mr_bipush (pc' := 31) (v := (8 : Int32)) dX0_init_29 rfl (by decide) ?_
  refine sr_na (pc' := 33) (n := 120) (s := 52) dX0_init_31 rfl (by decide) (by decide) (by decide) rfl (by decide) ?_
  refine sr_putR (pc' := 36) (ci := 0) (j := 3) (n := 121) (s := 51) dX0_init_33 rfl rfl rfl (by decide) rfl rfl rfl rfl ?_
  refine mr_aload_n (pc' := 37) dX0_init_36 rfl rfl ?_
  refine mr_bipush (pc' := 39) (v := (8 : Int32)) dX0_init_37 rfl (by decide) ?_
  refine sr_na (pc' := 41) (n := 121) (s := 51) dX0_init_39 rfl (by decide) (by decide) (by decide) rfl (by decide) ?_
  refine sr_putR (pc' := 44) (ci := 0) (j := 4) (n := 122) (s := 50) dX0_init_41 rfl rfl rfl (by decide) rfl rfl rfl rfl ?_
  refine mr_aload_n (pc' := 45) dX0_init_44 rfl rfl ?_
  refine mr_iconst (pc' := 46) (v := (0 : Int32)) dX0_init_45 rfl (by decide) ?_
  refine sr_putI (pc' := 49) (ci := 0) (j := 5) (n := 122) (s := 50) dX0_init_46 rfl rfl rfl (by decide) rfl rfl rfl ?_
  refine mr_aload_n (pc' := 50) dX0_init_49 rfl rfl ?_
  refine mr_iconst (pc' := 51) (v := (0 : Int32)) dX0_init_50 rfl (by decide) ?_
  refine sr_putI (pc' := 54) (ci := 0) (j := 6) (n := 122) (s := 50) dX0_init_51 rfl rfl rfl (by decide) rfl rfl rfl ?_
  exact mr_return dX0_init_54 rfl
set_option maxRecDepth 100000 in
theorem ct_X2_init_122 : mr X 0 mY_X2_init 0 (lv_args 0 [.ref 122]) [] (sM 123 49) (none, sM 127 45) := by
  show mr X _ _ 0 [(0, .ref 122)] [] _ _
  refine mr_aload_n (pc' := 1) dX2_init_0 rfl rfl ?_
  refine sr_obj (pc' := 4) dX2_init_1 rfl rfl (by decide) ?_
  refine mr_aload_n (pc' := 5) dX2_init_4 rfl rfl ?_
  refine mr_bipush (pc' := 7) (v := (12 : Int32)) dX2_init_5 rfl (by decide) ?_
  refine sr_na (pc' := 9) (n := 123) (s := 49) dX2_init_7 rfl (by decide) (by decide) (by decide) rfl (by decide) ?_
  refine sr_putR (pc' := 12) (ci := 2) (j := 0) (n := 124) (s := 48) dX2_init_9 rfl rfl rfl (by decide) rfl rfl rfl rfl ?_
  refine mr_aload_n (pc' := 13) dX2_init_12 rfl rfl ?_
  refine mr_bipush (pc' := 15) (v := (12 : Int32)) dX2_init_13 rfl (by decide) ?_
  refine sr_na (pc' := 17) (n := 124) (s := 48) dX2_init_15 rfl (by decide) (by decide) (by decide) rfl (by decide) ?_
  refine sr_putR (pc' := 20) (ci := 2) (j := 1) (n := 125) (s := 47) dX2_init_17 rfl rfl rfl (by decide) rfl rfl rfl rfl ?_
  refine mr_aload_n (pc' := 21) dX2_init_20 rfl rfl ?_
  refine mr_bipush (pc' := 23) (v := (12 : Int32)) dX2_init_21 rfl (by decide) ?_
  refine sr_na (pc' := 25) (n := 125) (s := 47) dX2_init_23 rfl (by decide) (by decide) (by decide) rfl (by decide) ?_
  refine sr_putR (pc' := 28) (ci := 2) (j := 2) (n := 126) (s := 46) dX2_init_25 rfl rfl rfl (by decide) rfl rfl rfl rfl ?_
  refine mr_aload_n (pc' := 29) dX2_init_28 rfl rfl ?_
  refine mr_bipush (pc' := 31) (v := (12 : Int32)) dX2_init_29 rfl (by decide) ?_
  refine sr_na (pc' := 33) (n := 126) (s := 46) dX2_init_31 rfl (by decide) (by decide) (by decide) rfl (by decide) ?_
  refine sr_putR (pc' := 36) (ci := 2) (j := 3) (n := 127) (s := 45) dX2_init_33 rfl rfl rfl (by decide) rfl rfl rfl rfl ?_
  refine mr_aload_n (pc' := 37) dX2_init_36 rfl rfl ?_
  refine mr_iconst (pc' := 38) (v := (0 : Int32)) dX2_init_37 rfl (by decide) ?_
  refine sr_putI (pc' := 41) (ci := 2) (j := 4) (n := 127) (s := 45) dX2_init_38 rfl rfl rfl (by decide) rfl rfl rfl ?_
  exact mr_return dX2_init_41 rfl
set_option maxRecDepth 100000 in
theorem ct_X6_init_108 : mr X 1 mY_X6_init 0 (lv_args 0 [.ref 108]) [] (sM 109 62) (none, sM 127 44) := by
  show mr X _ _ 0 [(0, .ref 108)] [] _ _
  refine mr_aload_n (pc' := 1) dX6_init_0 rfl rfl ?_
  refine sr_obj (pc' := 4) dX6_init_1 rfl rfl (by decide) ?_
  refine mr_aload_n (pc' := 5) dX6_init_4 rfl rfl ?_
  refine sr_new (pc' := 8) (c := 8) (n := 109) (s := 62) dX6_init_5 rfl rfl rfl (by decide) ?_
  refine mr_dup_ref (pc' := 9) dX6_init_8 rfl ?_
  refine mr_callg (d1 := 0) (Y' := mY_X8_init) (as := [.ref 109]) (rest := [.ref 109, .ref 108]) (mm_nd_uq rfl) dX6_init_9 rfl rfl (by decide) ct_X8_init_109 ?_
  show mr X _ _ 12 _ [.ref 109, .ref 108] (sM 116 56) _
  refine sr_putR (pc' := 15) (ci := 6) (j := 0) (n := 116) (s := 55) dX6_init_12 rfl rfl rfl (by decide) rfl rfl rfl rfl ?_
  refine mr_aload_n (pc' := 16) dX6_init_15 rfl rfl ?_
  refine sr_new (pc' := 19) (c := 0) (n := 116) (s := 55) dX6_init_16 rfl rfl rfl (by decide) ?_
  refine mr_dup_ref (pc' := 20) dX6_init_19 rfl ?_
  refine mr_callg (d1 := 0) (Y' := mY_X0_init) (as := [.ref 116]) (rest := [.ref 116, .ref 108]) (mm_nd_uq rfl) dX6_init_20 rfl rfl (by decide) ct_X0_init_116 ?_
  show mr X _ _ 23 _ [.ref 116, .ref 108] (sM 122 50) _
  refine sr_putR (pc' := 26) (ci := 6) (j := 1) (n := 122) (s := 49) dX6_init_23 rfl rfl rfl (by decide) rfl rfl rfl rfl ?_
  refine mr_aload_n (pc' := 27) dX6_init_26 rfl rfl ?_
  refine sr_new (pc' := 30) (c := 2) (n := 122) (s := 49) dX6_init_27 rfl rfl rfl (by decide) ?_
  refine mr_dup_ref (pc' := 31) dX6_init_30 rfl ?_
  refine mr_callg (d1 := 0) (Y' := mY_X2_init) (as := [.ref 122]) (rest := [.ref 122, .ref 108]) (mm_nd_uq rfl) dX6_init_31 rfl rfl (by decide) ct_X2_init_122 ?_
  show mr X _ _ 34 _ [.ref 122, .ref 108] (sM 127 45) _
  refine sr_putR (pc' := 37) (ci := 6) (j := 2) (n := 127) (s := 44) dX6_init_34 rfl rfl rfl (by decide) rfl rfl rfl rfl ?_
  refine mr_aload_n (pc' := 38) dX6_init_37 rfl rfl ?_
  refine mr_iconst (pc' := 39) (v := (0 : Int32)) dX6_init_38 rfl (by decide) ?_
  refine sr_putI (pc' := 42) (ci := 6) (j := 3) (n := 127) (s := 44) dX6_init_39 rfl rfl rfl (by decide) rfl rfl rfl ?_
  refine mr_aload_n (pc' := 43) dX6_init_42 rfl rfl ?_
  refine mr_iconst (pc' := 44) (v := (0 : Int32)) dX6_init_43 rfl (by decide) ?_
  refine sr_putZ (pc' := 47) (ci := 6) (j := 4) (n := 127) (s := 44) dX6_init_44 rfl rfl rfl (by decide) rfl rfl rfl ?_
  exact mr_return dX6_init_47 rfl
set_option maxRecDepth 100000 in
theorem ct_X4_init_127 : mr X 0 mY_X4_init 0 (lv_args 0 [.ref 127]) [] (sM 128 43) (none, sM 130 41) := by
  show mr X _ _ 0 [(0, .ref 127)] [] _ _
  refine mr_aload_n (pc' := 1) dX4_init_0 rfl rfl ?_
  refine sr_obj (pc' := 4) dX4_init_1 rfl rfl (by decide) ?_
  refine mr_aload_n (pc' := 5) dX4_init_4 rfl rfl ?_
  refine mr_sipush (pc' := 8) (v := (400 : Int32)) dX4_init_5 rfl (by decide) ?_
  refine sr_na (pc' := 10) (n := 128) (s := 43) dX4_init_8 rfl (by decide) (by decide) (by decide) rfl (by decide) ?_
  refine sr_putR (pc' := 13) (ci := 4) (j := 0) (n := 129) (s := 42) dX4_init_10 rfl rfl rfl (by decide) rfl rfl rfl rfl ?_
  refine mr_aload_n (pc' := 14) dX4_init_13 rfl rfl ?_
  refine mr_bipush (pc' := 16) (v := (60 : Int32)) dX4_init_14 rfl (by decide) ?_
  refine sr_na (pc' := 18) (n := 129) (s := 42) dX4_init_16 rfl (by decide) (by decide) (by decide) rfl (by decide) ?_
  refine sr_putR (pc' := 21) (ci := 4) (j := 1) (n := 130) (s := 41) dX4_init_18 rfl rfl rfl (by decide) rfl rfl rfl rfl ?_
  refine mr_aload_n (pc' := 22) dX4_init_21 rfl rfl ?_
  refine mr_iconst (pc' := 23) (v := (0 : Int32)) dX4_init_22 rfl (by decide) ?_
  refine sr_putI (pc' := 26) (ci := 4) (j := 2) (n := 130) (s := 41) dX4_init_23 rfl rfl rfl (by decide) rfl rfl rfl ?_
  refine mr_aload_n (pc' := 27) dX4_init_26 rfl rfl ?_
  refine mr_iconst (pc' := 28) (v := (0 : Int32)) dX4_init_27 rfl (by decide) ?_
  refine sr_putI (pc' := 31) (ci := 4) (j := 3) (n := 130) (s := 41) dX4_init_28 rfl rfl rfl (by decide) rfl rfl rfl ?_
  exact mr_return dX4_init_31 rfl
set_option maxRecDepth 100000 in
theorem ct_X4_init_130 : mr X 0 mY_X4_init 0 (lv_args 0 [.ref 130]) [] (sM 131 40) (none, sM 133 38) := by
  show mr X _ _ 0 [(0, .ref 130)] [] _ _
  refine mr_aload_n (pc' := 1) dX4_init_0 rfl rfl ?_
  refine sr_obj (pc' := 4) dX4_init_1 rfl rfl (by decide) ?_
  refine mr_aload_n (pc' := 5) dX4_init_4 rfl rfl ?_
  refine mr_sipush (pc' := 8) (v := (400 : Int32)) dX4_init_5 rfl (by decide) ?_
  refine sr_na (pc' := 10) (n := 131) (s := 40) dX4_init_8 rfl (by decide) (by decide) (by decide) rfl (by decide) ?_
  refine sr_putR (pc' := 13) (ci := 4) (j := 0) (n := 132) (s := 39) dX4_init_10 rfl rfl rfl (by decide) rfl rfl rfl rfl ?_
  refine mr_aload_n (pc' := 14) dX4_init_13 rfl rfl ?_
  refine mr_bipush (pc' := 16) (v := (60 : Int32)) dX4_init_14 rfl (by decide) ?_
  refine sr_na (pc' := 18) (n := 132) (s := 39) dX4_init_16 rfl (by decide) (by decide) (by decide) rfl (by decide) ?_
  refine sr_putR (pc' := 21) (ci := 4) (j := 1) (n := 133) (s := 38) dX4_init_18 rfl rfl rfl (by decide) rfl rfl rfl rfl ?_
  refine mr_aload_n (pc' := 22) dX4_init_21 rfl rfl ?_
  refine mr_iconst (pc' := 23) (v := (0 : Int32)) dX4_init_22 rfl (by decide) ?_
  refine sr_putI (pc' := 26) (ci := 4) (j := 2) (n := 133) (s := 38) dX4_init_23 rfl rfl rfl (by decide) rfl rfl rfl ?_
  refine mr_aload_n (pc' := 27) dX4_init_26 rfl rfl ?_
  refine mr_iconst (pc' := 28) (v := (0 : Int32)) dX4_init_27 rfl (by decide) ?_
  refine sr_putI (pc' := 31) (ci := 4) (j := 3) (n := 133) (s := 38) dX4_init_28 rfl rfl rfl (by decide) rfl rfl rfl ?_
  exact mr_return dX4_init_31 rfl
set_option maxRecDepth 100000 in
theorem ct_X4_init_133 : mr X 0 mY_X4_init 0 (lv_args 0 [.ref 133]) [] (sM 134 37) (none, sM 136 35) := by
  show mr X _ _ 0 [(0, .ref 133)] [] _ _
  refine mr_aload_n (pc' := 1) dX4_init_0 rfl rfl ?_
  refine sr_obj (pc' := 4) dX4_init_1 rfl rfl (by decide) ?_
  refine mr_aload_n (pc' := 5) dX4_init_4 rfl rfl ?_
  refine mr_sipush (pc' := 8) (v := (400 : Int32)) dX4_init_5 rfl (by decide) ?_
  refine sr_na (pc' := 10) (n := 134) (s := 37) dX4_init_8 rfl (by decide) (by decide) (by decide) rfl (by decide) ?_
  refine sr_putR (pc' := 13) (ci := 4) (j := 0) (n := 135) (s := 36) dX4_init_10 rfl rfl rfl (by decide) rfl rfl rfl rfl ?_
  refine mr_aload_n (pc' := 14) dX4_init_13 rfl rfl ?_
  refine mr_bipush (pc' := 16) (v := (60 : Int32)) dX4_init_14 rfl (by decide) ?_
  refine sr_na (pc' := 18) (n := 135) (s := 36) dX4_init_16 rfl (by decide) (by decide) (by decide) rfl (by decide) ?_
  refine sr_putR (pc' := 21) (ci := 4) (j := 1) (n := 136) (s := 35) dX4_init_18 rfl rfl rfl (by decide) rfl rfl rfl rfl ?_
  refine mr_aload_n (pc' := 22) dX4_init_21 rfl rfl ?_
  refine mr_iconst (pc' := 23) (v := (0 : Int32)) dX4_init_22 rfl (by decide) ?_
  refine sr_putI (pc' := 26) (ci := 4) (j := 2) (n := 136) (s := 35) dX4_init_23 rfl rfl rfl (by decide) rfl rfl rfl ?_
  refine mr_aload_n (pc' := 27) dX4_init_26 rfl rfl ?_
  refine mr_iconst (pc' := 28) (v := (0 : Int32)) dX4_init_27 rfl (by decide) ?_
  refine sr_putI (pc' := 31) (ci := 4) (j := 3) (n := 136) (s := 35) dX4_init_28 rfl rfl rfl (by decide) rfl rfl rfl ?_
  exact mr_return dX4_init_31 rfl
set_option maxRecDepth 100000 in
theorem ct_X4_init_136 : mr X 0 mY_X4_init 0 (lv_args 0 [.ref 136]) [] (sM 137 34) (none, sM 139 32) := by
  show mr X _ _ 0 [(0, .ref 136)] [] _ _
  refine mr_aload_n (pc' := 1) dX4_init_0 rfl rfl ?_
  refine sr_obj (pc' := 4) dX4_init_1 rfl rfl (by decide) ?_
  refine mr_aload_n (pc' := 5) dX4_init_4 rfl rfl ?_
  refine mr_sipush (pc' := 8) (v := (400 : Int32)) dX4_init_5 rfl (by decide) ?_
  refine sr_na (pc' := 10) (n := 137) (s := 34) dX4_init_8 rfl (by decide) (by decide) (by decide) rfl (by decide) ?_
  refine sr_putR (pc' := 13) (ci := 4) (j := 0) (n := 138) (s := 33) dX4_init_10 rfl rfl rfl (by decide) rfl rfl rfl rfl ?_
  refine mr_aload_n (pc' := 14) dX4_init_13 rfl rfl ?_
  refine mr_bipush (pc' := 16) (v := (60 : Int32)) dX4_init_14 rfl (by decide) ?_
  refine sr_na (pc' := 18) (n := 138) (s := 33) dX4_init_16 rfl (by decide) (by decide) (by decide) rfl (by decide) ?_
  refine sr_putR (pc' := 21) (ci := 4) (j := 1) (n := 139) (s := 32) dX4_init_18 rfl rfl rfl (by decide) rfl rfl rfl rfl ?_
  refine mr_aload_n (pc' := 22) dX4_init_21 rfl rfl ?_
  refine mr_iconst (pc' := 23) (v := (0 : Int32)) dX4_init_22 rfl (by decide) ?_
  refine sr_putI (pc' := 26) (ci := 4) (j := 2) (n := 139) (s := 32) dX4_init_23 rfl rfl rfl (by decide) rfl rfl rfl ?_
  refine mr_aload_n (pc' := 27) dX4_init_26 rfl rfl ?_
  refine mr_iconst (pc' := 28) (v := (0 : Int32)) dX4_init_27 rfl (by decide) ?_
  refine sr_putI (pc' := 31) (ci := 4) (j := 3) (n := 139) (s := 32) dX4_init_28 rfl rfl rfl (by decide) rfl rfl rfl ?_
  exact mr_return dX4_init_31 rfl
set_option maxRecDepth 100000 in
theorem ct_X4_init_139 : mr X 0 mY_X4_init 0 (lv_args 0 [.ref 139]) [] (sM 140 31) (none, sM 142 29) := by
  show mr X _ _ 0 [(0, .ref 139)] [] _ _
  refine mr_aload_n (pc' := 1) dX4_init_0 rfl rfl ?_
  refine sr_obj (pc' := 4) dX4_init_1 rfl rfl (by decide) ?_
  refine mr_aload_n (pc' := 5) dX4_init_4 rfl rfl ?_
  refine mr_sipush (pc' := 8) (v := (400 : Int32)) dX4_init_5 rfl (by decide) ?_
  refine sr_na (pc' := 10) (n := 140) (s := 31) dX4_init_8 rfl (by decide) (by decide) (by decide) rfl (by decide) ?_
  refine sr_putR (pc' := 13) (ci := 4) (j := 0) (n := 141) (s := 30) dX4_init_10 rfl rfl rfl (by decide) rfl rfl rfl rfl ?_
  refine mr_aload_n (pc' := 14) dX4_init_13 rfl rfl ?_
  refine mr_bipush (pc' := 16) (v := (60 : Int32)) dX4_init_14 rfl (by decide) ?_
  refine sr_na (pc' := 18) (n := 141) (s := 30) dX4_init_16 rfl (by decide) (by decide) (by decide) rfl (by decide) ?_
  refine sr_putR (pc' := 21) (ci := 4) (j := 1) (n := 142) (s := 29) dX4_init_18 rfl rfl rfl (by decide) rfl rfl rfl rfl ?_
  refine mr_aload_n (pc' := 22) dX4_init_21 rfl rfl ?_
  refine mr_iconst (pc' := 23) (v := (0 : Int32)) dX4_init_22 rfl (by decide) ?_
  refine sr_putI (pc' := 26) (ci := 4) (j := 2) (n := 142) (s := 29) dX4_init_23 rfl rfl rfl (by decide) rfl rfl rfl ?_
  refine mr_aload_n (pc' := 27) dX4_init_26 rfl rfl ?_
  refine mr_iconst (pc' := 28) (v := (0 : Int32)) dX4_init_27 rfl (by decide) ?_
  refine sr_putI (pc' := 31) (ci := 4) (j := 3) (n := 142) (s := 29) dX4_init_28 rfl rfl rfl (by decide) rfl rfl rfl ?_
  exact mr_return dX4_init_31 rfl
set_option maxRecDepth 100000 in
theorem ct_X4_init_142 : mr X 0 mY_X4_init 0 (lv_args 0 [.ref 142]) [] (sM 143 28) (none, sM 145 26) := by
  show mr X _ _ 0 [(0, .ref 142)] [] _ _
  refine mr_aload_n (pc' := 1) dX4_init_0 rfl rfl ?_
  refine sr_obj (pc' := 4) dX4_init_1 rfl rfl (by decide) ?_
  refine mr_aload_n (pc' := 5) dX4_init_4 rfl rfl ?_
  refine mr_sipush (pc' := 8) (v := (400 : Int32)) dX4_init_5 rfl (by decide) ?_
  refine sr_na (pc' := 10) (n := 143) (s := 28) dX4_init_8 rfl (by decide) (by decide) (by decide) rfl (by decide) ?_
  refine sr_putR (pc' := 13) (ci := 4) (j := 0) (n := 144) (s := 27) dX4_init_10 rfl rfl rfl (by decide) rfl rfl rfl rfl ?_
  refine mr_aload_n (pc' := 14) dX4_init_13 rfl rfl ?_
  refine mr_bipush (pc' := 16) (v := (60 : Int32)) dX4_init_14 rfl (by decide) ?_
  refine sr_na (pc' := 18) (n := 144) (s := 27) dX4_init_16 rfl (by decide) (by decide) (by decide) rfl (by decide) ?_
  refine sr_putR (pc' := 21) (ci := 4) (j := 1) (n := 145) (s := 26) dX4_init_18 rfl rfl rfl (by decide) rfl rfl rfl rfl ?_
  refine mr_aload_n (pc' := 22) dX4_init_21 rfl rfl ?_
  refine mr_iconst (pc' := 23) (v := (0 : Int32)) dX4_init_22 rfl (by decide) ?_
  refine sr_putI (pc' := 26) (ci := 4) (j := 2) (n := 145) (s := 26) dX4_init_23 rfl rfl rfl (by decide) rfl rfl rfl ?_
  refine mr_aload_n (pc' := 27) dX4_init_26 rfl rfl ?_
  refine mr_iconst (pc' := 28) (v := (0 : Int32)) dX4_init_27 rfl (by decide) ?_
  refine sr_putI (pc' := 31) (ci := 4) (j := 3) (n := 145) (s := 26) dX4_init_28 rfl rfl rfl (by decide) rfl rfl rfl ?_
  exact mr_return dX4_init_31 rfl
set_option maxRecDepth 100000 in
theorem ct_X10_init_0 : mr X 2 mY_X10_init 0 (lv_args 0 [.ref 0]) [] (sM 1 173) (none, sM 145 25) := by
  show mr X _ _ 0 [(0, .ref 0)] [] _ _
  refine mr_aload_n (pc' := 1) dX10_init_0 rfl rfl ?_
  refine sr_obj (pc' := 4) dX10_init_1 rfl rfl (by decide) ?_
  refine mr_aload_n (pc' := 5) dX10_init_4 rfl rfl ?_
  refine sr_new (pc' := 8) (c := 7) (n := 1) (s := 173) dX10_init_5 rfl rfl rfl (by decide) ?_
  refine mr_dup_ref (pc' := 9) dX10_init_8 rfl ?_
  refine mr_callg (d1 := 0) (Y' := mY_X7_init) (as := [.ref 1]) (rest := [.ref 1, .ref 0]) (mm_nd_uq rfl) dX10_init_9 rfl rfl (by decide) ct_X7_init_1 ?_
  show mr X _ _ 12 _ [.ref 1, .ref 0] (sM 3 172) _
  refine sr_putR (pc' := 15) (ci := 10) (j := 0) (n := 3) (s := 171) dX10_init_12 rfl rfl rfl (by decide) rfl rfl rfl rfl ?_
  refine mr_aload_n (pc' := 16) dX10_init_15 rfl rfl ?_
  refine sr_new (pc' := 19) (c := 6) (n := 3) (s := 171) dX10_init_16 rfl rfl rfl (by decide) ?_
  refine mr_dup_ref (pc' := 20) dX10_init_19 rfl ?_
  refine mr_callg (d1 := 1) (Y' := mY_X6_init) (as := [.ref 3]) (rest := [.ref 3, .ref 0]) (mm_nd_uq rfl) dX10_init_20 rfl rfl (by decide) ct_X6_init_3 ?_
  show mr X _ _ 23 _ [.ref 3, .ref 0] (sM 22 153) _
  refine sr_putR (pc' := 26) (ci := 10) (j := 1) (n := 22) (s := 152) dX10_init_23 rfl rfl rfl (by decide) rfl rfl rfl rfl ?_
  refine mr_aload_n (pc' := 27) dX10_init_26 rfl rfl ?_
  refine mr_iconst (pc' := 28) (v := (4 : Int32)) dX10_init_27 rfl (by decide) ?_
  refine sr_nq (pc' := 31) (c := 6) (n := 22) (s := 152) dX10_init_28 rfl rfl (by decide) (by decide) (by decide) rfl (by decide) ?_
  refine sr_putR (pc' := 34) (ci := 10) (j := 2) (n := 23) (s := 151) dX10_init_31 rfl rfl rfl (by decide) rfl rfl rfl rfl ?_
  refine mr_aload_n (pc' := 35) dX10_init_34 rfl rfl ?_
  refine mr_bipush (pc' := 37) (v := (6 : Int32)) dX10_init_35 rfl (by decide) ?_
  refine sr_nq (pc' := 40) (c := 4) (n := 23) (s := 151) dX10_init_37 rfl rfl (by decide) (by decide) (by decide) rfl (by decide) ?_
  refine sr_putR (pc' := 43) (ci := 10) (j := 3) (n := 24) (s := 150) dX10_init_40 rfl rfl rfl (by decide) rfl rfl rfl rfl ?_
  refine mr_aload_n (pc' := 44) dX10_init_43 rfl rfl ?_
  refine sr_new (pc' := 47) (c := 8) (n := 24) (s := 150) dX10_init_44 rfl rfl rfl (by decide) ?_
  refine mr_dup_ref (pc' := 48) dX10_init_47 rfl ?_
  refine mr_callg (d1 := 0) (Y' := mY_X8_init) (as := [.ref 24]) (rest := [.ref 24, .ref 0]) (mm_nd_uq rfl) dX10_init_48 rfl rfl (by decide) ct_X8_init_24 ?_
  show mr X _ _ 51 _ [.ref 24, .ref 0] (sM 31 144) _
  refine sr_putR (pc' := 54) (ci := 10) (j := 4) (n := 31) (s := 143) dX10_init_51 rfl rfl rfl (by decide) rfl rfl rfl rfl ?_
  refine mr_aload_n (pc' := 55) dX10_init_54 rfl rfl ?_
  refine sr_new (pc' := 58) (c := 0) (n := 31) (s := 143) dX10_init_55 rfl rfl rfl (by decide) ?_
  refine mr_dup_ref (pc' := 59) dX10_init_58 rfl ?_
  refine mr_callg (d1 := 0) (Y' := mY_X0_init) (as := [.ref 31]) (rest := [.ref 31, .ref 0]) (mm_nd_uq rfl) dX10_init_59 rfl rfl (by decide) ct_X0_init_31 ?_
  show mr X _ _ 62 _ [.ref 31, .ref 0] (sM 37 138) _
  refine sr_putR (pc' := 65) (ci := 10) (j := 5) (n := 37) (s := 137) dX10_init_62 rfl rfl rfl (by decide) rfl rfl rfl rfl ?_
  refine mr_aload_n (pc' := 66) dX10_init_65 rfl rfl ?_
  refine sr_new (pc' := 69) (c := 9) (n := 37) (s := 137) dX10_init_66 rfl rfl rfl (by decide) ?_
  refine mr_dup_ref (pc' := 70) dX10_init_69 rfl ?_
  refine mr_aload_n (pc' := 71) dX10_init_70 rfl rfl ?_
  refine sr_getR (pc' := 74) (ci := 10) (j := 0) (n := 38) (s := 137) (b := 1) dX10_init_71 rfl rfl rfl (by decide) rfl rfl ?_
  refine mr_aload_n (pc' := 75) dX10_init_74 rfl rfl ?_
  refine sr_getR (pc' := 78) (ci := 10) (j := 4) (n := 38) (s := 137) (b := 24) dX10_init_75 rfl rfl rfl (by decide) rfl rfl ?_
  refine mr_aload_n (pc' := 79) dX10_init_78 rfl rfl ?_
  refine sr_getR (pc' := 82) (ci := 10) (j := 5) (n := 38) (s := 137) (b := 31) dX10_init_79 rfl rfl rfl (by decide) rfl rfl ?_
  refine mr_callg (d1 := 0) (Y' := mY_X9_init) (as := [.ref 37, .ref 1, .ref 24, .ref 31]) (rest := [.ref 37, .ref 0]) (mm_nd_uq rfl) dX10_init_82 rfl rfl (by decide) ct_X9_init_37 ?_
  show mr X _ _ 85 _ [.ref 37, .ref 0] (sM 38 134) _
  refine sr_putR (pc' := 88) (ci := 10) (j := 6) (n := 38) (s := 133) dX10_init_85 rfl rfl rfl (by decide) rfl rfl rfl rfl ?_
  refine mr_aload_n (pc' := 89) dX10_init_88 rfl rfl ?_
  refine sr_new (pc' := 92) (c := 5) (n := 38) (s := 133) dX10_init_89 rfl rfl rfl (by decide) ?_
  refine mr_dup_ref (pc' := 93) dX10_init_92 rfl ?_
  refine mr_aload_n (pc' := 94) dX10_init_93 rfl rfl ?_
  refine sr_getR (pc' := 97) (ci := 10) (j := 0) (n := 39) (s := 133) (b := 1) dX10_init_94 rfl rfl rfl (by decide) rfl rfl ?_
  refine mr_callg (d1 := 1) (Y' := mY_X5_init) (as := [.ref 38, .ref 1]) (rest := [.ref 38, .ref 0]) (mm_nd_uq rfl) dX10_init_97 rfl rfl (by decide) ct_X5_init_38 ?_
  show mr X _ _ 100 _ [.ref 38, .ref 0] (sM 43 128) _
  refine sr_putR (pc' := 103) (ci := 10) (j := 7) (n := 43) (s := 127) dX10_init_100 rfl rfl rfl (by decide) rfl rfl rfl rfl ?_
  refine mr_aload_n (pc' := 104) dX10_init_103 rfl rfl ?_
  refine sr_new (pc' := 107) (c := 1) (n := 43) (s := 127) dX10_init_104 rfl rfl rfl (by decide) ?_
  refine mr_dup_ref (pc' := 108) dX10_init_107 rfl ?_
  refine mr_callg (d1 := 0) (Y' := mY_X1_init) (as := [.ref 43]) (rest := [.ref 43, .ref 0]) (mm_nd_uq rfl) dX10_init_108 rfl rfl (by decide) ct_X1_init_43 ?_
  show mr X _ _ 111 _ [.ref 43, .ref 0] (sM 45 126) _
  refine sr_putR (pc' := 114) (ci := 10) (j := 8) (n := 45) (s := 125) dX10_init_111 rfl rfl rfl (by decide) rfl rfl rfl rfl ?_
  refine mr_aload_n (pc' := 115) dX10_init_114 rfl rfl ?_
  refine sr_new (pc' := 118) (c := 3) (n := 45) (s := 125) dX10_init_115 rfl rfl rfl (by decide) ?_
  refine mr_dup_ref (pc' := 119) dX10_init_118 rfl ?_
  refine mr_callg (d1 := 0) (Y' := mY_X3_init) (as := [.ref 45]) (rest := [.ref 45, .ref 0]) (mm_nd_uq rfl) dX10_init_119 rfl rfl (by decide) ct_X3_init_45 ?_
  show mr X _ _ 122 _ [.ref 45, .ref 0] (sM 51 120) _
  refine sr_putR (pc' := 125) (ci := 10) (j := 9) (n := 51) (s := 119) dX10_init_122 rfl rfl rfl (by decide) rfl rfl rfl rfl ?_
  refine mr_aload_n (pc' := 126) dX10_init_125 rfl rfl ?_
  refine mr_iconst (pc' := 127) (v := (0 : Int32)) dX10_init_126 rfl (by decide) ?_
  refine sr_putI (pc' := 130) (ci := 10) (j := 10) (n := 51) (s := 119) dX10_init_127 rfl rfl rfl (by decide) rfl rfl rfl ?_
  refine mr_iconst (pc' := 131) (v := (0 : Int32)) dX10_init_130 rfl (by decide) ?_
  refine mr_istore_n (pc' := 132) (lv' := [(1, .int (0 : Int32)), (0, .ref 0)]) dX10_init_131 rfl (by decide) rfl ?_
  refine mr_iload_n (pc' := 133) dX10_init_132 rfl rfl ?_
  refine mr_iconst (pc' := 134) (v := (4 : Int32)) dX10_init_133 rfl (by decide) ?_
  refine mr_icmp_ge_f (t := 156) (pc' := 137) dX10_init_134 (by decide) rfl (by decide) ?_
  refine mr_aload_n (pc' := 138) dX10_init_137 rfl rfl ?_
  refine sr_getR (pc' := 141) (ci := 10) (j := 2) (n := 51) (s := 119) (b := 22) dX10_init_138 rfl rfl rfl (by decide) rfl rfl ?_
  refine mr_iload_n (pc' := 142) dX10_init_141 rfl rfl ?_
  refine sr_new (pc' := 145) (c := 6) (n := 51) (s := 119) dX10_init_142 rfl rfl rfl (by decide) ?_
  refine mr_dup_ref (pc' := 146) dX10_init_145 rfl ?_
  refine mr_callg (d1 := 1) (Y' := mY_X6_init) (as := [.ref 51]) (rest := [.ref 51, .int (0 : Int32), .ref 22]) (mm_nd_uq rfl) dX10_init_146 rfl rfl (by decide) ct_X6_init_51 ?_
  show mr X _ _ 149 _ [.ref 51, .int (0 : Int32), .ref 22] (sM 70 101) _
  refine sr_aas (pc' := 150) (n := 70) (s := 100) dX10_init_149 rfl (by decide) (by decide) rfl ?_
  refine mr_iinc (pc' := 153) (x' := (1 : Int32)) (lv' := [(1, .int (1 : Int32)), (0, .ref 0)]) dX10_init_150 rfl (by decide) rfl rfl (by decide) ?_
  refine mr_goto (t := 132) dX10_init_153 (by decide) ?_
  refine mr_iload_n (pc' := 133) dX10_init_132 rfl rfl ?_
  refine mr_iconst (pc' := 134) (v := (4 : Int32)) dX10_init_133 rfl (by decide) ?_
  refine mr_icmp_ge_f (t := 156) (pc' := 137) dX10_init_134 (by decide) rfl (by decide) ?_
  refine mr_aload_n (pc' := 138) dX10_init_137 rfl rfl ?_
  refine sr_getR (pc' := 141) (ci := 10) (j := 2) (n := 70) (s := 100) (b := 22) dX10_init_138 rfl rfl rfl (by decide) rfl rfl ?_
  refine mr_iload_n (pc' := 142) dX10_init_141 rfl rfl ?_
  refine sr_new (pc' := 145) (c := 6) (n := 70) (s := 100) dX10_init_142 rfl rfl rfl (by decide) ?_
  refine mr_dup_ref (pc' := 146) dX10_init_145 rfl ?_
  refine mr_callg (d1 := 1) (Y' := mY_X6_init) (as := [.ref 70]) (rest := [.ref 70, .int (1 : Int32), .ref 22]) (mm_nd_uq rfl) dX10_init_146 rfl rfl (by decide) ct_X6_init_70 ?_
  show mr X _ _ 149 _ [.ref 70, .int (1 : Int32), .ref 22] (sM 89 82) _
  refine sr_aas (pc' := 150) (n := 89) (s := 81) dX10_init_149 rfl (by decide) (by decide) rfl ?_
  refine mr_iinc (pc' := 153) (x' := (2 : Int32)) (lv' := [(1, .int (2 : Int32)), (0, .ref 0)]) dX10_init_150 rfl (by decide) rfl rfl (by decide) ?_
  refine mr_goto (t := 132) dX10_init_153 (by decide) ?_
  refine mr_iload_n (pc' := 133) dX10_init_132 rfl rfl ?_
  refine mr_iconst (pc' := 134) (v := (4 : Int32)) dX10_init_133 rfl (by decide) ?_
  refine mr_icmp_ge_f (t := 156) (pc' := 137) dX10_init_134 (by decide) rfl (by decide) ?_
  refine mr_aload_n (pc' := 138) dX10_init_137 rfl rfl ?_
  refine sr_getR (pc' := 141) (ci := 10) (j := 2) (n := 89) (s := 81) (b := 22) dX10_init_138 rfl rfl rfl (by decide) rfl rfl ?_
  refine mr_iload_n (pc' := 142) dX10_init_141 rfl rfl ?_
  refine sr_new (pc' := 145) (c := 6) (n := 89) (s := 81) dX10_init_142 rfl rfl rfl (by decide) ?_
  refine mr_dup_ref (pc' := 146) dX10_init_145 rfl ?_
  refine mr_callg (d1 := 1) (Y' := mY_X6_init) (as := [.ref 89]) (rest := [.ref 89, .int (2 : Int32), .ref 22]) (mm_nd_uq rfl) dX10_init_146 rfl rfl (by decide) ct_X6_init_89 ?_
  show mr X _ _ 149 _ [.ref 89, .int (2 : Int32), .ref 22] (sM 108 63) _
  refine sr_aas (pc' := 150) (n := 108) (s := 62) dX10_init_149 rfl (by decide) (by decide) rfl ?_
  refine mr_iinc (pc' := 153) (x' := (3 : Int32)) (lv' := [(1, .int (3 : Int32)), (0, .ref 0)]) dX10_init_150 rfl (by decide) rfl rfl (by decide) ?_
  refine mr_goto (t := 132) dX10_init_153 (by decide) ?_
  refine mr_iload_n (pc' := 133) dX10_init_132 rfl rfl ?_
  refine mr_iconst (pc' := 134) (v := (4 : Int32)) dX10_init_133 rfl (by decide) ?_
  refine mr_icmp_ge_f (t := 156) (pc' := 137) dX10_init_134 (by decide) rfl (by decide) ?_
  refine mr_aload_n (pc' := 138) dX10_init_137 rfl rfl ?_
  refine sr_getR (pc' := 141) (ci := 10) (j := 2) (n := 108) (s := 62) (b := 22) dX10_init_138 rfl rfl rfl (by decide) rfl rfl ?_
  refine mr_iload_n (pc' := 142) dX10_init_141 rfl rfl ?_
  refine sr_new (pc' := 145) (c := 6) (n := 108) (s := 62) dX10_init_142 rfl rfl rfl (by decide) ?_
  refine mr_dup_ref (pc' := 146) dX10_init_145 rfl ?_
  refine mr_callg (d1 := 1) (Y' := mY_X6_init) (as := [.ref 108]) (rest := [.ref 108, .int (3 : Int32), .ref 22]) (mm_nd_uq rfl) dX10_init_146 rfl rfl (by decide) ct_X6_init_108 ?_
  show mr X _ _ 149 _ [.ref 108, .int (3 : Int32), .ref 22] (sM 127 44) _
  refine sr_aas (pc' := 150) (n := 127) (s := 43) dX10_init_149 rfl (by decide) (by decide) rfl ?_
  refine mr_iinc (pc' := 153) (x' := (4 : Int32)) (lv' := [(1, .int (4 : Int32)), (0, .ref 0)]) dX10_init_150 rfl (by decide) rfl rfl (by decide) ?_
  refine mr_goto (t := 132) dX10_init_153 (by decide) ?_
  refine mr_iload_n (pc' := 133) dX10_init_132 rfl rfl ?_
  refine mr_iconst (pc' := 134) (v := (4 : Int32)) dX10_init_133 rfl (by decide) ?_
  refine mr_icmp_ge_t (t := 156) dX10_init_134 (by decide) (by decide) ?_
  refine mr_iconst (pc' := 157) (v := (0 : Int32)) dX10_init_156 rfl (by decide) ?_
  refine mr_istore_n (pc' := 158) (lv' := [(1, .int (0 : Int32)), (0, .ref 0)]) dX10_init_157 rfl (by decide) rfl ?_
  refine mr_iload_n (pc' := 159) dX10_init_158 rfl rfl ?_
  refine mr_bipush (pc' := 161) (v := (6 : Int32)) dX10_init_159 rfl (by decide) ?_
  refine mr_icmp_ge_f (t := 183) (pc' := 164) dX10_init_161 (by decide) rfl (by decide) ?_
  refine mr_aload_n (pc' := 165) dX10_init_164 rfl rfl ?_
  refine sr_getR (pc' := 168) (ci := 10) (j := 3) (n := 127) (s := 43) (b := 23) dX10_init_165 rfl rfl rfl (by decide) rfl rfl ?_
  refine mr_iload_n (pc' := 169) dX10_init_168 rfl rfl ?_
  refine sr_new (pc' := 172) (c := 4) (n := 127) (s := 43) dX10_init_169 rfl rfl rfl (by decide) ?_
  refine mr_dup_ref (pc' := 173) dX10_init_172 rfl ?_
  refine mr_callg (d1 := 0) (Y' := mY_X4_init) (as := [.ref 127]) (rest := [.ref 127, .int (0 : Int32), .ref 23]) (mm_nd_uq rfl) dX10_init_173 rfl rfl (by decide) ct_X4_init_127 ?_
  show mr X _ _ 176 _ [.ref 127, .int (0 : Int32), .ref 23] (sM 130 41) _
  refine sr_aas (pc' := 177) (n := 130) (s := 40) dX10_init_176 rfl (by decide) (by decide) rfl ?_
  refine mr_iinc (pc' := 180) (x' := (1 : Int32)) (lv' := [(1, .int (1 : Int32)), (0, .ref 0)]) dX10_init_177 rfl (by decide) rfl rfl (by decide) ?_
  refine mr_goto (t := 158) dX10_init_180 (by decide) ?_
  refine mr_iload_n (pc' := 159) dX10_init_158 rfl rfl ?_
  refine mr_bipush (pc' := 161) (v := (6 : Int32)) dX10_init_159 rfl (by decide) ?_
  refine mr_icmp_ge_f (t := 183) (pc' := 164) dX10_init_161 (by decide) rfl (by decide) ?_
  refine mr_aload_n (pc' := 165) dX10_init_164 rfl rfl ?_
  refine sr_getR (pc' := 168) (ci := 10) (j := 3) (n := 130) (s := 40) (b := 23) dX10_init_165 rfl rfl rfl (by decide) rfl rfl ?_
  refine mr_iload_n (pc' := 169) dX10_init_168 rfl rfl ?_
  refine sr_new (pc' := 172) (c := 4) (n := 130) (s := 40) dX10_init_169 rfl rfl rfl (by decide) ?_
  refine mr_dup_ref (pc' := 173) dX10_init_172 rfl ?_
  refine mr_callg (d1 := 0) (Y' := mY_X4_init) (as := [.ref 130]) (rest := [.ref 130, .int (1 : Int32), .ref 23]) (mm_nd_uq rfl) dX10_init_173 rfl rfl (by decide) ct_X4_init_130 ?_
  show mr X _ _ 176 _ [.ref 130, .int (1 : Int32), .ref 23] (sM 133 38) _
  refine sr_aas (pc' := 177) (n := 133) (s := 37) dX10_init_176 rfl (by decide) (by decide) rfl ?_
  refine mr_iinc (pc' := 180) (x' := (2 : Int32)) (lv' := [(1, .int (2 : Int32)), (0, .ref 0)]) dX10_init_177 rfl (by decide) rfl rfl (by decide) ?_
  refine mr_goto (t := 158) dX10_init_180 (by decide) ?_
  refine mr_iload_n (pc' := 159) dX10_init_158 rfl rfl ?_
  refine mr_bipush (pc' := 161) (v := (6 : Int32)) dX10_init_159 rfl (by decide) ?_
  refine mr_icmp_ge_f (t := 183) (pc' := 164) dX10_init_161 (by decide) rfl (by decide) ?_
  refine mr_aload_n (pc' := 165) dX10_init_164 rfl rfl ?_
  refine sr_getR (pc' := 168) (ci := 10) (j := 3) (n := 133) (s := 37) (b := 23) dX10_init_165 rfl rfl rfl (by decide) rfl rfl ?_
  refine mr_iload_n (pc' := 169) dX10_init_168 rfl rfl ?_
  refine sr_new (pc' := 172) (c := 4) (n := 133) (s := 37) dX10_init_169 rfl rfl rfl (by decide) ?_
  refine mr_dup_ref (pc' := 173) dX10_init_172 rfl ?_
  refine mr_callg (d1 := 0) (Y' := mY_X4_init) (as := [.ref 133]) (rest := [.ref 133, .int (2 : Int32), .ref 23]) (mm_nd_uq rfl) dX10_init_173 rfl rfl (by decide) ct_X4_init_133 ?_
  show mr X _ _ 176 _ [.ref 133, .int (2 : Int32), .ref 23] (sM 136 35) _
  refine sr_aas (pc' := 177) (n := 136) (s := 34) dX10_init_176 rfl (by decide) (by decide) rfl ?_
  refine mr_iinc (pc' := 180) (x' := (3 : Int32)) (lv' := [(1, .int (3 : Int32)), (0, .ref 0)]) dX10_init_177 rfl (by decide) rfl rfl (by decide) ?_
  refine mr_goto (t := 158) dX10_init_180 (by decide) ?_
  refine mr_iload_n (pc' := 159) dX10_init_158 rfl rfl ?_
  refine mr_bipush (pc' := 161) (v := (6 : Int32)) dX10_init_159 rfl (by decide) ?_
  refine mr_icmp_ge_f (t := 183) (pc' := 164) dX10_init_161 (by decide) rfl (by decide) ?_
  refine mr_aload_n (pc' := 165) dX10_init_164 rfl rfl ?_
  refine sr_getR (pc' := 168) (ci := 10) (j := 3) (n := 136) (s := 34) (b := 23) dX10_init_165 rfl rfl rfl (by decide) rfl rfl ?_
  refine mr_iload_n (pc' := 169) dX10_init_168 rfl rfl ?_
  refine sr_new (pc' := 172) (c := 4) (n := 136) (s := 34) dX10_init_169 rfl rfl rfl (by decide) ?_
  refine mr_dup_ref (pc' := 173) dX10_init_172 rfl ?_
  refine mr_callg (d1 := 0) (Y' := mY_X4_init) (as := [.ref 136]) (rest := [.ref 136, .int (3 : Int32), .ref 23]) (mm_nd_uq rfl) dX10_init_173 rfl rfl (by decide) ct_X4_init_136 ?_
  show mr X _ _ 176 _ [.ref 136, .int (3 : Int32), .ref 23] (sM 139 32) _
  refine sr_aas (pc' := 177) (n := 139) (s := 31) dX10_init_176 rfl (by decide) (by decide) rfl ?_
  refine mr_iinc (pc' := 180) (x' := (4 : Int32)) (lv' := [(1, .int (4 : Int32)), (0, .ref 0)]) dX10_init_177 rfl (by decide) rfl rfl (by decide) ?_
  refine mr_goto (t := 158) dX10_init_180 (by decide) ?_
  refine mr_iload_n (pc' := 159) dX10_init_158 rfl rfl ?_
  refine mr_bipush (pc' := 161) (v := (6 : Int32)) dX10_init_159 rfl (by decide) ?_
  refine mr_icmp_ge_f (t := 183) (pc' := 164) dX10_init_161 (by decide) rfl (by decide) ?_
  refine mr_aload_n (pc' := 165) dX10_init_164 rfl rfl ?_
  refine sr_getR (pc' := 168) (ci := 10) (j := 3) (n := 139) (s := 31) (b := 23) dX10_init_165 rfl rfl rfl (by decide) rfl rfl ?_
  refine mr_iload_n (pc' := 169) dX10_init_168 rfl rfl ?_
  refine sr_new (pc' := 172) (c := 4) (n := 139) (s := 31) dX10_init_169 rfl rfl rfl (by decide) ?_
  refine mr_dup_ref (pc' := 173) dX10_init_172 rfl ?_
  refine mr_callg (d1 := 0) (Y' := mY_X4_init) (as := [.ref 139]) (rest := [.ref 139, .int (4 : Int32), .ref 23]) (mm_nd_uq rfl) dX10_init_173 rfl rfl (by decide) ct_X4_init_139 ?_
  show mr X _ _ 176 _ [.ref 139, .int (4 : Int32), .ref 23] (sM 142 29) _
  refine sr_aas (pc' := 177) (n := 142) (s := 28) dX10_init_176 rfl (by decide) (by decide) rfl ?_
  refine mr_iinc (pc' := 180) (x' := (5 : Int32)) (lv' := [(1, .int (5 : Int32)), (0, .ref 0)]) dX10_init_177 rfl (by decide) rfl rfl (by decide) ?_
  refine mr_goto (t := 158) dX10_init_180 (by decide) ?_
  refine mr_iload_n (pc' := 159) dX10_init_158 rfl rfl ?_
  refine mr_bipush (pc' := 161) (v := (6 : Int32)) dX10_init_159 rfl (by decide) ?_
  refine mr_icmp_ge_f (t := 183) (pc' := 164) dX10_init_161 (by decide) rfl (by decide) ?_
  refine mr_aload_n (pc' := 165) dX10_init_164 rfl rfl ?_
  refine sr_getR (pc' := 168) (ci := 10) (j := 3) (n := 142) (s := 28) (b := 23) dX10_init_165 rfl rfl rfl (by decide) rfl rfl ?_
  refine mr_iload_n (pc' := 169) dX10_init_168 rfl rfl ?_
  refine sr_new (pc' := 172) (c := 4) (n := 142) (s := 28) dX10_init_169 rfl rfl rfl (by decide) ?_
  refine mr_dup_ref (pc' := 173) dX10_init_172 rfl ?_
  refine mr_callg (d1 := 0) (Y' := mY_X4_init) (as := [.ref 142]) (rest := [.ref 142, .int (5 : Int32), .ref 23]) (mm_nd_uq rfl) dX10_init_173 rfl rfl (by decide) ct_X4_init_142 ?_
  show mr X _ _ 176 _ [.ref 142, .int (5 : Int32), .ref 23] (sM 145 26) _
  refine sr_aas (pc' := 177) (n := 145) (s := 25) dX10_init_176 rfl (by decide) (by decide) rfl ?_
  refine mr_iinc (pc' := 180) (x' := (6 : Int32)) (lv' := [(1, .int (6 : Int32)), (0, .ref 0)]) dX10_init_177 rfl (by decide) rfl rfl (by decide) ?_
  refine mr_goto (t := 158) dX10_init_180 (by decide) ?_
  refine mr_iload_n (pc' := 159) dX10_init_158 rfl rfl ?_
  refine mr_bipush (pc' := 161) (v := (6 : Int32)) dX10_init_159 rfl (by decide) ?_
  refine mr_icmp_ge_t (t := 183) dX10_init_161 (by decide) (by decide) ?_
  exact mr_return dX10_init_183 rfl
set_option maxRecDepth 100000 in
theorem ct_X11_init_145 : mr X 0 mY_X11_init 0 (lv_args 0 [.ref 145]) [] (sM 146 25) (none, sM 171 0) := by
  show mr X _ _ 0 [(0, .ref 145)] [] _ _
  refine mr_aload_n (pc' := 1) dX11_init_0 rfl rfl ?_
  refine sr_obj (pc' := 4) dX11_init_1 rfl rfl (by decide) ?_
  refine mr_aload_n (pc' := 5) dX11_init_4 rfl rfl ?_
  refine mr_sipush (pc' := 8) (v := (400 : Int32)) dX11_init_5 rfl (by decide) ?_
  refine sr_na (pc' := 10) (n := 146) (s := 25) dX11_init_8 rfl (by decide) (by decide) (by decide) rfl (by decide) ?_
  refine sr_putR (pc' := 13) (ci := 11) (j := 0) (n := 147) (s := 24) dX11_init_10 rfl rfl rfl (by decide) rfl rfl rfl rfl ?_
  refine mr_aload_n (pc' := 14) dX11_init_13 rfl rfl ?_
  refine mr_sipush (pc' := 17) (v := (2400 : Int32)) dX11_init_14 rfl (by decide) ?_
  refine sr_na (pc' := 19) (n := 147) (s := 24) dX11_init_17 rfl (by decide) (by decide) (by decide) rfl (by decide) ?_
  refine sr_putR (pc' := 22) (ci := 11) (j := 3) (n := 148) (s := 23) dX11_init_19 rfl rfl rfl (by decide) rfl rfl rfl rfl ?_
  refine mr_aload_n (pc' := 23) dX11_init_22 rfl rfl ?_
  refine mr_bipush (pc' := 25) (v := (7 : Int32)) dX11_init_23 rfl (by decide) ?_
  refine sr_na (pc' := 27) (n := 148) (s := 23) dX11_init_25 rfl (by decide) (by decide) (by decide) rfl (by decide) ?_
  refine sr_putR (pc' := 30) (ci := 11) (j := 4) (n := 149) (s := 22) dX11_init_27 rfl rfl rfl (by decide) rfl rfl rfl rfl ?_
  refine mr_aload_n (pc' := 31) dX11_init_30 rfl rfl ?_
  refine mr_sipush (pc' := 34) (v := (216 : Int32)) dX11_init_31 rfl (by decide) ?_
  refine sr_na (pc' := 36) (n := 149) (s := 22) dX11_init_34 rfl (by decide) (by decide) (by decide) rfl (by decide) ?_
  refine sr_putR (pc' := 39) (ci := 11) (j := 5) (n := 150) (s := 21) dX11_init_36 rfl rfl rfl (by decide) rfl rfl rfl rfl ?_
  refine mr_aload_n (pc' := 40) dX11_init_39 rfl rfl ?_
  refine mr_bipush (pc' := 42) (v := (6 : Int32)) dX11_init_40 rfl (by decide) ?_
  refine sr_na (pc' := 44) (n := 150) (s := 21) dX11_init_42 rfl (by decide) (by decide) (by decide) rfl (by decide) ?_
  refine sr_putR (pc' := 47) (ci := 11) (j := 6) (n := 151) (s := 20) dX11_init_44 rfl rfl rfl (by decide) rfl rfl rfl rfl ?_
  refine mr_aload_n (pc' := 48) dX11_init_47 rfl rfl ?_
  refine mr_bipush (pc' := 50) (v := (20 : Int32)) dX11_init_48 rfl (by decide) ?_
  refine sr_na (pc' := 52) (n := 151) (s := 20) dX11_init_50 rfl (by decide) (by decide) (by decide) rfl (by decide) ?_
  refine sr_putR (pc' := 55) (ci := 11) (j := 10) (n := 152) (s := 19) dX11_init_52 rfl rfl rfl (by decide) rfl rfl rfl rfl ?_
  refine mr_aload_n (pc' := 56) dX11_init_55 rfl rfl ?_
  refine mr_bipush (pc' := 58) (v := (60 : Int32)) dX11_init_56 rfl (by decide) ?_
  refine sr_na (pc' := 60) (n := 152) (s := 19) dX11_init_58 rfl (by decide) (by decide) (by decide) rfl (by decide) ?_
  refine sr_putR (pc' := 63) (ci := 11) (j := 11) (n := 153) (s := 18) dX11_init_60 rfl rfl rfl (by decide) rfl rfl rfl rfl ?_
  refine mr_aload_n (pc' := 64) dX11_init_63 rfl rfl ?_
  refine mr_bipush (pc' := 66) (v := (8 : Int32)) dX11_init_64 rfl (by decide) ?_
  refine sr_na (pc' := 68) (n := 153) (s := 18) dX11_init_66 rfl (by decide) (by decide) (by decide) rfl (by decide) ?_
  refine sr_putR (pc' := 71) (ci := 11) (j := 12) (n := 154) (s := 17) dX11_init_68 rfl rfl rfl (by decide) rfl rfl rfl rfl ?_
  refine mr_aload_n (pc' := 72) dX11_init_71 rfl rfl ?_
  refine mr_sipush (pc' := 75) (v := (400 : Int32)) dX11_init_72 rfl (by decide) ?_
  refine sr_na (pc' := 77) (n := 154) (s := 17) dX11_init_75 rfl (by decide) (by decide) (by decide) rfl (by decide) ?_
  refine sr_putR (pc' := 80) (ci := 11) (j := 20) (n := 155) (s := 16) dX11_init_77 rfl rfl rfl (by decide) rfl rfl rfl rfl ?_
  refine mr_aload_n (pc' := 81) dX11_init_80 rfl rfl ?_
  refine mr_bipush (pc' := 83) (v := (64 : Int32)) dX11_init_81 rfl (by decide) ?_
  refine sr_na (pc' := 85) (n := 155) (s := 16) dX11_init_83 rfl (by decide) (by decide) (by decide) rfl (by decide) ?_
  refine sr_putR (pc' := 88) (ci := 11) (j := 22) (n := 156) (s := 15) dX11_init_85 rfl rfl rfl (by decide) rfl rfl rfl rfl ?_
  refine mr_aload_n (pc' := 89) dX11_init_88 rfl rfl ?_
  refine mr_bipush (pc' := 91) (v := (8 : Int32)) dX11_init_89 rfl (by decide) ?_
  refine sr_na (pc' := 93) (n := 156) (s := 15) dX11_init_91 rfl (by decide) (by decide) (by decide) rfl (by decide) ?_
  refine sr_putR (pc' := 96) (ci := 11) (j := 24) (n := 157) (s := 14) dX11_init_93 rfl rfl rfl (by decide) rfl rfl rfl rfl ?_
  refine mr_aload_n (pc' := 97) dX11_init_96 rfl rfl ?_
  refine mr_sipush (pc' := 100) (v := (158 : Int32)) dX11_init_97 rfl (by decide) ?_
  refine sr_na (pc' := 102) (n := 157) (s := 14) dX11_init_100 rfl (by decide) (by decide) (by decide) rfl (by decide) ?_
  refine sr_putR (pc' := 105) (ci := 11) (j := 25) (n := 158) (s := 13) dX11_init_102 rfl rfl rfl (by decide) rfl rfl rfl rfl ?_
  refine mr_aload_n (pc' := 106) dX11_init_105 rfl rfl ?_
  refine mr_bipush (pc' := 108) (v := (8 : Int32)) dX11_init_106 rfl (by decide) ?_
  refine sr_na (pc' := 110) (n := 158) (s := 13) dX11_init_108 rfl (by decide) (by decide) (by decide) rfl (by decide) ?_
  refine sr_putR (pc' := 113) (ci := 11) (j := 26) (n := 159) (s := 12) dX11_init_110 rfl rfl rfl (by decide) rfl rfl rfl rfl ?_
  refine mr_aload_n (pc' := 114) dX11_init_113 rfl rfl ?_
  refine mr_sipush (pc' := 117) (v := (158 : Int32)) dX11_init_114 rfl (by decide) ?_
  refine sr_na (pc' := 119) (n := 159) (s := 12) dX11_init_117 rfl (by decide) (by decide) (by decide) rfl (by decide) ?_
  refine sr_putR (pc' := 122) (ci := 11) (j := 27) (n := 160) (s := 11) dX11_init_119 rfl rfl rfl (by decide) rfl rfl rfl rfl ?_
  refine mr_aload_n (pc' := 123) dX11_init_122 rfl rfl ?_
  refine mr_bipush (pc' := 125) (v := (8 : Int32)) dX11_init_123 rfl (by decide) ?_
  refine sr_na (pc' := 127) (n := 160) (s := 11) dX11_init_125 rfl (by decide) (by decide) (by decide) rfl (by decide) ?_
  refine sr_putR (pc' := 130) (ci := 11) (j := 28) (n := 161) (s := 10) dX11_init_127 rfl rfl rfl (by decide) rfl rfl rfl rfl ?_
  refine mr_aload_n (pc' := 131) dX11_init_130 rfl rfl ?_
  refine mr_bipush (pc' := 133) (v := (100 : Int32)) dX11_init_131 rfl (by decide) ?_
  refine sr_na (pc' := 135) (n := 161) (s := 10) dX11_init_133 rfl (by decide) (by decide) (by decide) rfl (by decide) ?_
  refine sr_putR (pc' := 138) (ci := 11) (j := 29) (n := 162) (s := 9) dX11_init_135 rfl rfl rfl (by decide) rfl rfl rfl rfl ?_
  refine mr_aload_n (pc' := 139) dX11_init_138 rfl rfl ?_
  refine mr_sipush (pc' := 142) (v := (1210 : Int32)) dX11_init_139 rfl (by decide) ?_
  refine sr_na (pc' := 144) (n := 162) (s := 9) dX11_init_142 rfl (by decide) (by decide) (by decide) rfl (by decide) ?_
  refine sr_putR (pc' := 147) (ci := 11) (j := 30) (n := 163) (s := 8) dX11_init_144 rfl rfl rfl (by decide) rfl rfl rfl rfl ?_
  refine mr_aload_n (pc' := 148) dX11_init_147 rfl rfl ?_
  refine mr_bipush (pc' := 150) (v := (10 : Int32)) dX11_init_148 rfl (by decide) ?_
  refine sr_na (pc' := 152) (n := 163) (s := 8) dX11_init_150 rfl (by decide) (by decide) (by decide) rfl (by decide) ?_
  refine sr_putR (pc' := 155) (ci := 11) (j := 31) (n := 164) (s := 7) dX11_init_152 rfl rfl rfl (by decide) rfl rfl rfl rfl ?_
  refine mr_aload_n (pc' := 156) dX11_init_155 rfl rfl ?_
  refine mr_sipush (pc' := 159) (v := (4001 : Int32)) dX11_init_156 rfl (by decide) ?_
  refine sr_na (pc' := 161) (n := 164) (s := 7) dX11_init_159 rfl (by decide) (by decide) (by decide) rfl (by decide) ?_
  refine sr_putR (pc' := 164) (ci := 11) (j := 32) (n := 165) (s := 6) dX11_init_161 rfl rfl rfl (by decide) rfl rfl rfl rfl ?_
  refine mr_aload_n (pc' := 165) dX11_init_164 rfl rfl ?_
  refine mr_sipush (pc' := 168) (v := (4001 : Int32)) dX11_init_165 rfl (by decide) ?_
  refine sr_na (pc' := 170) (n := 165) (s := 6) dX11_init_168 rfl (by decide) (by decide) (by decide) rfl (by decide) ?_
  refine sr_putR (pc' := 173) (ci := 11) (j := 33) (n := 166) (s := 5) dX11_init_170 rfl rfl rfl (by decide) rfl rfl rfl rfl ?_
  refine mr_aload_n (pc' := 174) dX11_init_173 rfl rfl ?_
  refine mr_sipush (pc' := 177) (v := (4001 : Int32)) dX11_init_174 rfl (by decide) ?_
  refine sr_na (pc' := 179) (n := 166) (s := 5) dX11_init_177 rfl (by decide) (by decide) (by decide) rfl (by decide) ?_
  refine sr_putR (pc' := 182) (ci := 11) (j := 34) (n := 167) (s := 4) dX11_init_179 rfl rfl rfl (by decide) rfl rfl rfl rfl ?_
  refine mr_aload_n (pc' := 183) dX11_init_182 rfl rfl ?_
  refine mr_sipush (pc' := 186) (v := (4001 : Int32)) dX11_init_183 rfl (by decide) ?_
  refine sr_na (pc' := 188) (n := 167) (s := 4) dX11_init_186 rfl (by decide) (by decide) (by decide) rfl (by decide) ?_
  refine sr_putR (pc' := 191) (ci := 11) (j := 35) (n := 168) (s := 3) dX11_init_188 rfl rfl rfl (by decide) rfl rfl rfl rfl ?_
  refine mr_aload_n (pc' := 192) dX11_init_191 rfl rfl ?_
  refine mr_sipush (pc' := 195) (v := (632 : Int32)) dX11_init_192 rfl (by decide) ?_
  refine sr_na (pc' := 197) (n := 168) (s := 3) dX11_init_195 rfl (by decide) (by decide) (by decide) rfl (by decide) ?_
  refine sr_putR (pc' := 200) (ci := 11) (j := 38) (n := 169) (s := 2) dX11_init_197 rfl rfl rfl (by decide) rfl rfl rfl rfl ?_
  refine mr_aload_n (pc' := 201) dX11_init_200 rfl rfl ?_
  refine mr_bipush (pc' := 203) (v := (32 : Int32)) dX11_init_201 rfl (by decide) ?_
  refine sr_na (pc' := 205) (n := 169) (s := 2) dX11_init_203 rfl (by decide) (by decide) (by decide) rfl (by decide) ?_
  refine sr_putR (pc' := 208) (ci := 11) (j := 39) (n := 170) (s := 1) dX11_init_205 rfl rfl rfl (by decide) rfl rfl rfl rfl ?_
  refine mr_aload_n (pc' := 209) dX11_init_208 rfl rfl ?_
  refine mr_iconst (pc' := 210) (v := (4 : Int32)) dX11_init_209 rfl (by decide) ?_
  refine sr_na (pc' := 212) (n := 170) (s := 1) dX11_init_210 rfl (by decide) (by decide) (by decide) rfl (by decide) ?_
  refine sr_putR (pc' := 215) (ci := 11) (j := 40) (n := 171) (s := 0) dX11_init_212 rfl rfl rfl (by decide) rfl rfl rfl rfl ?_
  exact mr_return dX11_init_215 rfl
def lkr : List (Nat × Nat) → Nat → Option Nat
  | [], _ => none
  | e :: W, k => if k = e.1 then some e.2 else lkr W k
def fm (W : List (Nat × Nat × Nat)) (a : Nat) : List (Nat × Nat) := W.filterMap (fun e => if e.1 = a then some e.2 else none)
theorem lk_fm : ∀ (W : List (Nat × Nat × Nat)) (a k : Nat), lk W a k = lkr (fm W a) k := by
  intro W
  induction W with
  | nil => intro a k; rfl
  | cons e W ih =>
    intro a k
    show (if a = e.1 then (if k = e.2.1 then some e.2.2 else lk W a k) else lk W a k) = lkr (List.filterMap _ (e :: W)) k
    by_cases h : a = e.1
    · rw [if_pos h, List.filterMap_cons, if_pos h.symm, ih a k]
      rfl
    · rw [if_neg h, List.filterMap_cons, if_neg (fun z => h z.symm), ih a k]
      rfl
def fr (o : Option (List (Option Nat))) (k : Nat) : Option Nat := o.bind (fun l => (l[k]?).bind id)
theorem st_rows : (List.range 171).all (fun a => (List.range 41).all (fun k => decide (lkr (fm WW a) k = fr (mm_ix RRl a) k))) = true := by decide +kernel
theorem st_R : RRok (lk WW) := by
  intro a k ha hk
  have h := List.all_eq_true.mp st_rows a (List.mem_range.mpr ha)
  have h2 := List.all_eq_true.mp h k (List.mem_range.mpr hk)
  rw [lk_fm, of_decide_eq_true h2]
  rfl
def S00 : fS := (fun _ _ => 0, fun _ _ => 0)
theorem st_M : sM 171 0 = MM (lk WW) S00 := by
  show (KK.take 171, (fun _ _ => (0 : Int32)), (fun _ _ => (0 : Int64)), lk (WW.drop 0)) = (KK, _, _, lk WW)
  rfl
theorem st_z : mm_Z = sM 0 173 := by
  show ([], (fun _ _ => (0 : Int32)), (fun _ _ => (0 : Int64)), fun _ _ => none) = (KK.take 0, (fun _ _ => (0 : Int32)), (fun _ _ => (0 : Int64)), lk (WW.drop 173))
  have e : lk (WW.drop 173) = fun _ _ => none := rfl
  rw [e]
  rfl
/-- from the law's first instruction to its loop -/
theorem st_law (hL : X.1 < 100000) {S : fS} (h : lp_L_law_18 X (fun S => some (1, S)) FU 0 S00 = some (1, S)) : mr X 13 mY_L_law 0 (lv_args 0 [.ref mm_ext]) [] mm_Z (some (.int 1), MM (lk WW) S) := by
  rw [st_z]
  show mr X _ _ 0 [(0, .ref mm_ext)] [] _ _
  refine sr_new (pc' := 3) (c := 10) (n := 0) (s := 173) dL_law_0 rfl rfl rfl (by decide) ?_
  refine mr_dup_ref (pc' := 4) dL_law_3 rfl ?_
  refine mr_callg (d1 := 2) (Y' := mY_X10_init) (as := [.ref 0]) (rest := [.ref 0]) (mm_nd_uq rfl) dL_law_4 rfl rfl (by decide) ct_X10_init_0 ?_
  show mr X _ _ 7 _ [.ref 0] (sM 145 25) _
  refine mr_astore_n (pc' := 8) (lv' := [(1, .ref 0), (0, .ref mm_ext)]) dL_law_7 rfl (by decide) rfl ?_
  refine sr_new (pc' := 11) (c := 11) (n := 145) (s := 25) dL_law_8 rfl rfl rfl (by decide) ?_
  refine mr_dup_ref (pc' := 12) dL_law_11 rfl ?_
  refine mr_callg (d1 := 0) (Y' := mY_X11_init) (as := [.ref 145]) (rest := [.ref 145]) (mm_nd_uq rfl) dL_law_12 rfl rfl (by decide) ct_X11_init_145 ?_
  show mr X _ _ 15 _ [.ref 145] (sM 171 0) _
  refine mr_astore_n (pc' := 16) (lv' := [(2, .ref 145), (1, .ref 0), (0, .ref mm_ext)]) dL_law_15 rfl (by decide) rfl ?_
  refine mr_iconst (pc' := 17) (v := 0) dL_law_16 rfl (by decide) ?_
  refine mr_istore_n (pc' := 18) (lv' := [(3, .int 0), (2, .ref 145), (1, .ref 0), (0, .ref mm_ext)]) dL_law_17 rfl (by decide) rfl ?_
  rw [st_M]
  refine mr_sub [(0, .ref mm_ext), (1, .ref 0), (2, .ref 145), (3, .int 0)] ⟨rfl, rfl, rfl, rfl, trivial⟩ rfl ?_
  refine ok_lp_L_law_18 (r := (1, S)) st_R hL (fun Sk hk => ?_) FU 0 S00 h
  have e := (Prod.mk.inj (Option.some.inj hk)).2
  subst e
  refine mr_iconst (pc' := 1626) (v := 1) dL_law_1625 rfl (by decide) ?_
  exact mr_zreturn dL_law_1626 rfl (by decide)
theorem st_len : KK.length ≤ 600000 := by decide +kernel
theorem st_sl : (KK.map (fun q => q.2)).sum ≤ 7302250 := by decide +kernel
/-- what is left: the law's loop answers 1 -/
theorem mm_law_of (hL : X.1 < 100000) {S : fS} (h : lp_L_law_18 X (fun S => some (1, S)) FU 0 S00 = some (1, S)) : mm_Law X := by
  obtain ⟨n, e⟩ := st_law hL h
  refine ⟨n, _, e, ?_, ?_⟩
  · exact st_len
  · exact st_sl
end SR
