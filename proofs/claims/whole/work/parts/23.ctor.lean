/-! the two constructors, by the rules -/
def lk : List (Nat × Nat × Nat) → Nat → Nat → Option Nat
  | [], _, _ => none
  | e :: W, a, k => if a = e.1 then (if k = e.2.1 then some e.2.2 else lk W a k) else lk W a k
theorem lk_up (W : List (Nat × Nat × Nat)) (a k v : Nat) : mm_up (lk W) a k (some v) = lk ((a, k, v) :: W) := by
  funext b j
  unfold mm_up
  show _ = (if b = a then (if j = k then some v else lk W b j) else lk W b j)
  by_cases h : b = a
  · rw [if_pos h, if_pos h, h]
  · rw [if_neg h, if_neg h]
theorem lk_none : ∀ (W : List (Nat × Nat × Nat)) (n k : Nat), W.all (fun e => decide (e.1 ≠ n)) = true → lk W n k = none := by
  intro W
  induction W with
  | nil => intro n k _; rfl
  | cons e W ih =>
    intro n k h
    rw [List.all_cons, Bool.and_eq_true] at h
    show (if n = e.1 then (if k = e.2.1 then some e.2.2 else lk W n k) else lk W n k) = none
    rw [if_neg (fun z => (of_decide_eq_true h.1) z.symm)]
    exact ih n k h.2
theorem lk_row {W : List (Nat × Nat × Nat)} {n : Nat} (h : W.all (fun e => decide (e.1 ≠ n)) = true) : mm_row (lk W) n (fun _ => none) = lk W := by
  funext b j
  unfold mm_row
  by_cases e : b = n
  · rw [if_pos e, e, lk_none W n j h]
  · rw [if_neg e]
theorem z_up {α : Type} [Zero α] (a k : Nat) : mm_up (fun _ _ => (0 : α)) a k 0 = fun _ _ => 0 := by
  funext b j
  unfold mm_up
  by_cases h : b = a
  · rw [if_pos h]; exact ite_self _
  · rw [if_neg h]
theorem z_row {α : Type} [Zero α] (n : Nat) : mm_row (fun _ _ => (0 : α)) n (fun _ => 0) = fun _ _ => 0 := by
  funext b j
  unfold mm_row
  by_cases h : b = n
  · rw [if_pos h]
  · rw [if_neg h]
def WW : List (Nat × Nat × Nat) := [(147, 40, 172), (147, 39, 171), (147, 38, 170), (147, 35, 169), (147, 34, 168), (147, 33, 167), (147, 32, 166), (147, 31, 165), (147, 30, 164), (147, 29, 163), (147, 28, 162), (147, 27, 161), (147, 26, 160), (147, 25, 159), (147, 24, 158), (147, 22, 157), (147, 20, 156), (147, 12, 155), (147, 11, 154), (147, 10, 153), (147, 6, 152), (147, 5, 151), (147, 4, 150), (147, 3, 149), (147, 0, 148), (23, 5, 144), (144, 1, 146), (144, 0, 145), (23, 4, 141), (141, 1, 143), (141, 0, 142), (23, 3, 138), (138, 1, 140), (138, 0, 139), (23, 2, 135), (135, 1, 137), (135, 0, 136), (23, 1, 132), (132, 1, 134), (132, 0, 133), (23, 0, 129), (129, 1, 131), (129, 0, 130), (22, 3, 110), (110, 2, 124), (124, 3, 128), (124, 2, 127), (124, 1, 126), (124, 0, 125), (110, 1, 118), (118, 4, 123), (118, 3, 122), (118, 2, 121), (118, 1, 120), (118, 0, 119), (110, 0, 111), (111, 5, 117), (111, 4, 116), (111, 3, 115), (111, 2, 114), (111, 1, 113), (111, 0, 112), (22, 2, 91), (91, 2, 105), (105, 3, 109), (105, 2, 108), (105, 1, 107), (105, 0, 106), (91, 1, 99), (99, 4, 104), (99, 3, 103), (99, 2, 102), (99, 1, 101), (99, 0, 100), (91, 0, 92), (92, 5, 98), (92, 4, 97), (92, 3, 96), (92, 2, 95), (92, 1, 94), (92, 0, 93), (22, 1, 72), (72, 2, 86), (86, 3, 90), (86, 2, 89), (86, 1, 88), (86, 0, 87), (72, 1, 80), (80, 4, 85), (80, 3, 84), (80, 2, 83), (80, 1, 82), (80, 0, 81), (72, 0, 73), (73, 5, 79), (73, 4, 78), (73, 3, 77), (73, 2, 76), (73, 1, 75), (73, 0, 74), (22, 0, 53), (53, 2, 67), (67, 3, 71), (67, 2, 70), (67, 1, 69), (67, 0, 68), (53, 1, 61), (61, 4, 66), (61, 3, 65), (61, 2, 64), (61, 1, 63), (61, 0, 62), (53, 0, 54), (54, 5, 60), (54, 4, 59), (54, 3, 58), (54, 2, 57), (54, 1, 56), (54, 0, 55), (0, 9, 45), (45, 6, 52), (45, 5, 51), (45, 4, 50), (45, 3, 49), (45, 2, 48), (45, 1, 47), (45, 0, 46), (0, 8, 43), (43, 0, 44), (0, 7, 38), (38, 0, 1), (38, 2, 40), (40, 1, 42), (40, 0, 41), (38, 1, 39), (0, 6, 37), (37, 2, 31), (37, 1, 24), (37, 0, 1), (0, 5, 31), (31, 4, 36), (31, 3, 35), (31, 2, 34), (31, 1, 33), (31, 0, 32), (0, 4, 24), (24, 5, 30), (24, 4, 29), (24, 3, 28), (24, 2, 27), (24, 1, 26), (24, 0, 25), (0, 3, 23), (0, 2, 22), (0, 1, 3), (3, 2, 17), (17, 3, 21), (17, 2, 20), (17, 1, 19), (17, 0, 18), (3, 1, 11), (11, 4, 16), (11, 3, 15), (11, 2, 14), (11, 1, 13), (11, 0, 12), (3, 0, 4), (4, 5, 10), (4, 4, 9), (4, 3, 8), (4, 2, 7), (4, 1, 6), (4, 0, 5), (0, 0, 1), (1, 0, 2)]
def sM (n s : Nat) : mm_M := (KK.take n, fun _ _ => 0, fun _ _ => 0, lk (WW.drop s))
theorem sM_len {n s : Nat} (h : n < 173) : (sM n s).1.length = n := by
  show (KK.take n).length = n
  rw [List.length_take]
  exact Nat.min_eq_left (Nat.le_of_lt h)
theorem sM_nw {n s : Nat} {kd : Nat × Nat} (hn : n < 173) (hk : KK[n]? = some kd) (hw : (WW.drop s).all (fun e => decide (e.1 ≠ n)) = true) : mm_nw (sM n s) kd = sM (n + 1) s := by
  unfold mm_nw
  rw [sM_len hn]
  have e : KK.take (n + 1) = KK.take n ++ [kd] := by rw [List.take_succ, hk]; rfl
  show (KK.take n ++ [kd], mm_row (fun _ _ => (0 : Int32)) n (fun _ => 0), mm_row (fun _ _ => (0 : Int64)) n (fun _ => 0), mm_row (lk (WW.drop s)) n (fun _ => none)) = (KK.take (n + 1), _, _, lk (WW.drop s))
  rw [z_row, z_row, lk_row hw, e]
section SR
variable {X : mm_C} {d : Nat} {Y : mm_Y} {pc pc' : Nat} {lv lv' : mm_L} {st : List Value} {M : mm_M} {r : Option Value × mm_M}
theorem kk_lt {n : Nat} {kd : Nat × Nat} (hk : KK[n]? = some kd) : n < 173 := (List.getElem?_eq_some_iff.mp hk).1
theorem sr_ext {n s : Nat} {kd : Nat × Nat} (hk : KK[n]? = some kd) : (sM n s).1.length < mm_ext := by
  rw [sM_len (kk_lt hk)]
  exact Nat.lt_trans (kk_lt hk) (by decide)
theorem sr_obj {a cp : Nat} (hd : decode Y.2.2.1 pc = .ok (.invokespecial cp, 3)) (hp : pc + 3 = pc') (hb : mm_bi Y.1 cp = some 0) (hs : (st.map fun v => v.category).sum ≤ 8) (k : mr X d Y pc' lv st M r) : mr X d Y pc lv (.ref a :: st) M r := by
  subst hp
  refine mr_hpg (q := (3, st, M)) hd rfl rfl ?_ rfl k
  show (if mm_bi Y.1 cp = some 0 ∧ (st.map fun v => v.category).sum ≤ 8 then some (3, st, M) else none) = _
  rw [if_pos ⟨hb, hs⟩]
theorem sr_new {cp c n s : Nat} (hd : decode Y.2.2.1 pc = .ok (.new cp, 3)) (hp : pc + 3 = pc') (hc : mm_cl Y.1 cp = some c) (hk : KK[n]? = some (c, mm_nf c)) (hw : (WW.drop s).all (fun e => decide (e.1 ≠ n)) = true) (k : mr X d Y pc' lv (.ref n :: st) (sM (n + 1) s) r) : mr X d Y pc lv st (sM n s) r := by
  subst hp
  refine mr_hpg (q := (3, .ref n :: st, sM (n + 1) s)) hd rfl rfl ?_ rfl k
  show (mm_cl Y.1 cp).bind (fun c => if (sM n s).1.length < mm_ext then some (3, .ref (sM n s).1.length :: st, mm_nw (sM n s) (c, mm_nf c)) else none) = _
  rw [hc, Option.bind_some, if_pos (sr_ext hk), sM_len (kk_lt hk), sM_nw (kk_lt hk) hk hw]
theorem sr_na {t : ArrayType} {x : Int32} {n s : Nat} (hd : decode Y.2.2.1 pc = .ok (.newarray t, 2)) (hp : pc + 2 = pc') (h0 : ¬ x < 0) (h1 : x.toNatClampNeg ≤ 10000) (h2 : 100 ≤ mm_at t) (hk : KK[n]? = some (mm_at t, x.toNatClampNeg)) (hw : (WW.drop s).all (fun e => decide (e.1 ≠ n)) = true) (k : mr X d Y pc' lv (.ref n :: st) (sM (n + 1) s) r) : mr X d Y pc lv (.int x :: st) (sM n s) r := by
  subst hp
  refine mr_hpg (q := (2, .ref n :: st, sM (n + 1) s)) hd rfl rfl ?_ rfl k
  show (if (sM n s).1.length < mm_ext ∧ ¬ x < 0 ∧ x.toNatClampNeg ≤ 10000 ∧ 100 ≤ mm_at t then some (2, .ref (sM n s).1.length :: st, mm_nw (sM n s) (mm_at t, x.toNatClampNeg)) else none) = _
  rw [if_pos ⟨sr_ext hk, h0, h1, h2⟩, sM_len (kk_lt hk), sM_nw (kk_lt hk) hk hw]
theorem sr_nq {cp c : Nat} {x : Int32} {n s : Nat} (hd : decode Y.2.2.1 pc = .ok (.anewarray cp, 3)) (hp : pc + 3 = pc') (hc : mm_cl Y.1 cp = some c) (h0 : ¬ x < 0) (h1 : x.toNatClampNeg ≤ 10000) (h2 : c = 4 ∨ c = 6) (hk : KK[n]? = some (110 + c, x.toNatClampNeg)) (hw : (WW.drop s).all (fun e => decide (e.1 ≠ n)) = true) (k : mr X d Y pc' lv (.ref n :: st) (sM (n + 1) s) r) : mr X d Y pc lv (.int x :: st) (sM n s) r := by
  subst hp
  refine mr_hpg (q := (3, .ref n :: st, sM (n + 1) s)) hd rfl rfl ?_ rfl k
  show (mm_cl Y.1 cp).bind (fun c => if (sM n s).1.length < mm_ext ∧ ¬ x < 0 ∧ x.toNatClampNeg ≤ 10000 ∧ (c = 4 ∨ c = 6) then some (3, .ref (sM n s).1.length :: st, mm_nw (sM n s) (110 + c, x.toNatClampNeg)) else none) = _
  rw [hc, Option.bind_some, if_pos ⟨sr_ext hk, h0, h1, h2⟩, sM_len (kk_lt hk), sM_nw (kk_lt hk) hk hw]
theorem sr_putg {cp ci j a : Nat} {v : Value} {M' : mm_M} (hd : decode Y.2.2.1 pc = .ok (.putfield cp, 3)) (hp : pc + 3 = pc') (hf : mm_fl Y.1 cp = some (ci, j)) (ht : mm_tag M a = ci) (ha : a < mm_ext) (hj : Nat.ble (j + 1) (mm_nf ci) = true) (hi : Y.2.1.name = "<init>") (hy : ci = Y.1) (hw : mm_wr M a j (mm_ft ci j) v = some M') (k : mr X d Y pc' lv st M' r) : mr X d Y pc lv (v :: .ref a :: st) M r := by
  subst hp
  refine mr_hpg (q := (3, st, M')) hd rfl rfl ?_ rfl k
  show (mm_fl Y.1 cp).bind (fun q => if a < mm_ext ∧ mm_tag M a = q.1 ∧ q.2 < mm_nf q.1 ∧ ((mm_T q.1 q.2).2.2.2 = false ∨ (Y.2.1.name = "<init>" ∧ q.1 = Y.1)) then (mm_wr M a q.2 (mm_ft q.1 q.2) v).map (fun M' => (3, st, M')) else none) = _
  rw [hf, Option.bind_some, if_pos ⟨ha, ht, Nat.le_of_ble_eq_true hj, Or.inr ⟨hi, hy⟩⟩, hw]
  rfl
theorem sr_putI {cp ci j a n s : Nat} (hd : decode Y.2.2.1 pc = .ok (.putfield cp, 3)) (hp : pc + 3 = pc') (hf : mm_fl Y.1 cp = some (ci, j)) (ht : mm_tag (sM n s) a = ci) (ha : a < mm_ext) (hj : Nat.ble (j + 1) (mm_nf ci) = true) (hi : Y.2.1.name = "<init>") (hty : mm_ft ci j = .int) (k : mr X d Y pc' lv st (sM n s) r) (hy : ci = Y.1 := by rfl) : mr X d Y pc lv (.int 0 :: .ref a :: st) (sM n s) r :=
  sr_putg hd hp hf ht ha hj hi hy (by
    rw [hty]
    show (if FieldType.int = .int ∨ (FieldType.int = .boolean ∧ ((0 : Int32) = 0 ∨ (0 : Int32) = 1)) then some (KK.take n, mm_up (fun _ _ => (0 : Int32)) a j 0, (fun _ _ => (0 : Int64)), lk (WW.drop s)) else none) = _
    rw [if_pos (Or.inl rfl), z_up]
    rfl) k
theorem sr_putZ {cp ci j a n s : Nat} (hd : decode Y.2.2.1 pc = .ok (.putfield cp, 3)) (hp : pc + 3 = pc') (hf : mm_fl Y.1 cp = some (ci, j)) (ht : mm_tag (sM n s) a = ci) (ha : a < mm_ext) (hj : Nat.ble (j + 1) (mm_nf ci) = true) (hi : Y.2.1.name = "<init>") (hty : mm_ft ci j = .boolean) (k : mr X d Y pc' lv st (sM n s) r) (hy : ci = Y.1 := by rfl) : mr X d Y pc lv (.int 0 :: .ref a :: st) (sM n s) r :=
  sr_putg hd hp hf ht ha hj hi hy (by
    rw [hty]
    show (if FieldType.boolean = .int ∨ (FieldType.boolean = .boolean ∧ ((0 : Int32) = 0 ∨ (0 : Int32) = 1)) then some (KK.take n, mm_up (fun _ _ => (0 : Int32)) a j 0, (fun _ _ => (0 : Int64)), lk (WW.drop s)) else none) = _
    rw [if_pos (Or.inr ⟨rfl, Or.inl rfl⟩), z_up]
    rfl) k
theorem sr_drop {s a j b : Nat} (hW : WW[s]? = some (a, j, b)) : WW.drop s = (a, j, b) :: WW.drop (s + 1) := by
  obtain ⟨h1, h2⟩ := List.getElem?_eq_some_iff.mp hW
  rw [List.drop_eq_getElem_cons h1, h2]
theorem sr_putR {cp ci j a b n s : Nat} (hd : decode Y.2.2.1 pc = .ok (.putfield cp, 3)) (hp : pc + 3 = pc') (hf : mm_fl Y.1 cp = some (ci, j)) (ht : mm_tag (sM n (s + 1)) a = ci) (ha : a < mm_ext) (hj : Nat.ble (j + 1) (mm_nf ci) = true) (hi : Y.2.1.name = "<init>") (hty : mm_tk (mm_ft ci j) = 2) (hW : WW[s]? = some (a, j, b)) (k : mr X d Y pc' lv st (sM n s) r) (hy : ci = Y.1 := by rfl) : mr X d Y pc lv (.ref b :: .ref a :: st) (sM n (s + 1)) r :=
  sr_putg hd hp hf ht ha hj hi hy (by
    show (if mm_tk (mm_ft ci j) = 2 then some (KK.take n, (fun _ _ => (0 : Int32)), (fun _ _ => (0 : Int64)), mm_up (lk (WW.drop (s + 1))) a j (some b)) else none) = _
    rw [if_pos hty, lk_up, ← sr_drop hW]
    rfl) k
theorem sr_aas {v a n s : Nat} {i : Int32} (hd : decode Y.2.2.1 pc = .ok (.aastore, 1)) (hp : pc + 1 = pc') (h1 : a < mm_ext ∧ v < mm_ext) (h2 : (mm_tag (sM n (s + 1)) a = 114 ∨ mm_tag (sM n (s + 1)) a = 116) ∧ mm_tag (sM n (s + 1)) a = 110 + mm_tag (sM n (s + 1)) v ∧ ¬ (i < 0 ∨ mm_len (sM n (s + 1)) a ≤ i.toNatClampNeg)) (hW : WW[s]? = some (a, i.toNatClampNeg, v)) (k : mr X d Y pc' lv st (sM n s) r) : mr X d Y pc lv (.ref v :: .int i :: .ref a :: st) (sM n (s + 1)) r := by
  subst hp
  refine mr_hpg (q := (1, st, sM n s)) hd rfl rfl ?_ rfl k
  show (if a < mm_ext ∧ v < mm_ext ∧ (mm_tag (sM n (s + 1)) a = 114 ∨ mm_tag (sM n (s + 1)) a = 116) ∧ mm_tag (sM n (s + 1)) a = 110 + mm_tag (sM n (s + 1)) v ∧ ¬ (i < 0 ∨ mm_len (sM n (s + 1)) a ≤ i.toNatClampNeg) then some (1, st, (KK.take n, (fun _ _ => (0 : Int32)), (fun _ _ => (0 : Int64)), mm_up (lk (WW.drop (s + 1))) a i.toNatClampNeg (some v))) else none) = _
  rw [if_pos ⟨h1.1, h1.2, h2.1, h2.2.1, h2.2.2⟩, lk_up, ← sr_drop hW]
  rfl
theorem sr_getR {cp ci j a b n s : Nat} (hd : decode Y.2.2.1 pc = .ok (.getfield cp, 3)) (hp : pc + 3 = pc') (hf : mm_fl Y.1 cp = some (ci, j)) (ht : mm_tag (sM n s) a = ci) (ha : a < mm_ext) (hj : Nat.ble (j + 1) (mm_nf ci) = true) (hv : mm_fa (sM n s) a j (mm_tk (mm_ft ci j)) = .ref b) (k : mr X d Y pc' lv (.ref b :: st) (sM n s) r) : mr X d Y pc lv (.ref a :: st) (sM n s) r := by
  subst hp
  refine mr_hpg (q := (3, .ref b :: st, sM n s)) hd rfl rfl ?_ rfl k
  show (if a < mm_ext then (mm_fl Y.1 cp).bind (fun q => if mm_tag (sM n s) a = q.1 ∧ q.2 < mm_nf q.1 then some (3, mm_fa (sM n s) a q.2 (mm_tk (mm_ft q.1 q.2)) :: st, sM n s) else none) else _) = _
  rw [if_pos ha, hf, Option.bind_some, if_pos ⟨ht, Nat.le_of_ble_eq_true hj⟩, hv]
set_option maxRecDepth 100000 in
theorem ct_X7_init_1 : mr X 0 mY_X7_init 0 (lv_args 0 [.ref 1]) [] (sM 2 175) (none, sM 3 174) := by
  show mr X _ _ 0 [(0, .ref 1)] [] _ _
  refine mr_aload_n (pc' := 1) dX7_init_0 rfl rfl ?_
  refine sr_obj (pc' := 4) dX7_init_1 rfl rfl (by decide) ?_
  refine mr_aload_n (pc' := 5) dX7_init_4 rfl rfl ?_
  refine mr_sipush (pc' := 8) (v := (400 : Int32)) dX7_init_5 rfl (by decide) ?_
  refine sr_na (pc' := 10) (n := 2) (s := 175) dX7_init_8 rfl (by decide) (by decide) (by decide) rfl (by decide) ?_
  refine sr_putR (pc' := 13) (ci := 7) (j := 0) (n := 3) (s := 174) dX7_init_10 rfl rfl rfl (by decide) rfl rfl rfl rfl ?_
  refine mr_aload_n (pc' := 14) dX7_init_13 rfl rfl ?_
  refine mr_iconst (pc' := 15) (v := (0 : Int32)) dX7_init_14 rfl (by decide) ?_
  refine sr_putI (pc' := 18) (ci := 7) (j := 1) (n := 3) (s := 174) dX7_init_15 rfl rfl rfl (by decide) rfl rfl rfl ?_
  refine mr_aload_n (pc' := 19) dX7_init_18 rfl rfl ?_
  refine mr_iconst (pc' := 20) (v := (0 : Int32)) dX7_init_19 rfl (by decide) ?_
  refine sr_putI (pc' := 23) (ci := 7) (j := 2) (n := 3) (s := 174) dX7_init_20 rfl rfl rfl (by decide) rfl rfl rfl ?_
  refine mr_aload_n (pc' := 24) dX7_init_23 rfl rfl ?_
  refine mr_iconst (pc' := 25) (v := (0 : Int32)) dX7_init_24 rfl (by decide) ?_
  refine sr_putI (pc' := 28) (ci := 7) (j := 3) (n := 3) (s := 174) dX7_init_25 rfl rfl rfl (by decide) rfl rfl rfl ?_
  refine mr_aload_n (pc' := 29) dX7_init_28 rfl rfl ?_
  refine mr_iconst (pc' := 30) (v := (0 : Int32)) dX7_init_29 rfl (by decide) ?_
  refine sr_putI (pc' := 33) (ci := 7) (j := 4) (n := 3) (s := 174) dX7_init_30 rfl rfl rfl (by decide) rfl rfl rfl ?_
  exact mr_return dX7_init_33 rfl
set_option maxRecDepth 100000 in
theorem ct_X8_init_4 : mr X 0 mY_X8_init 0 (lv_args 0 [.ref 4]) [] (sM 5 173) (none, sM 11 167) := by
  show mr X _ _ 0 [(0, .ref 4)] [] _ _
  refine mr_aload_n (pc' := 1) dX8_init_0 rfl rfl ?_
  refine sr_obj (pc' := 4) dX8_init_1 rfl rfl (by decide) ?_
  refine mr_aload_n (pc' := 5) dX8_init_4 rfl rfl ?_
  refine mr_bipush (pc' := 7) (v := (10 : Int32)) dX8_init_5 rfl (by decide) ?_
  refine sr_na (pc' := 9) (n := 5) (s := 173) dX8_init_7 rfl (by decide) (by decide) (by decide) rfl (by decide) ?_
  refine sr_putR (pc' := 12) (ci := 8) (j := 0) (n := 6) (s := 172) dX8_init_9 rfl rfl rfl (by decide) rfl rfl rfl rfl ?_
  refine mr_aload_n (pc' := 13) dX8_init_12 rfl rfl ?_
  refine mr_bipush (pc' := 15) (v := (12 : Int32)) dX8_init_13 rfl (by decide) ?_
  refine sr_na (pc' := 17) (n := 6) (s := 172) dX8_init_15 rfl (by decide) (by decide) (by decide) rfl (by decide) ?_
  refine sr_putR (pc' := 20) (ci := 8) (j := 1) (n := 7) (s := 171) dX8_init_17 rfl rfl rfl (by decide) rfl rfl rfl rfl ?_
  refine mr_aload_n (pc' := 21) dX8_init_20 rfl rfl ?_
  refine mr_bipush (pc' := 23) (v := (12 : Int32)) dX8_init_21 rfl (by decide) ?_
  refine sr_na (pc' := 25) (n := 7) (s := 171) dX8_init_23 rfl (by decide) (by decide) (by decide) rfl (by decide) ?_
  refine sr_putR (pc' := 28) (ci := 8) (j := 2) (n := 8) (s := 170) dX8_init_25 rfl rfl rfl (by decide) rfl rfl rfl rfl ?_
  refine mr_aload_n (pc' := 29) dX8_init_28 rfl rfl ?_
  refine mr_bipush (pc' := 31) (v := (12 : Int32)) dX8_init_29 rfl (by decide) ?_
  refine sr_na (pc' := 33) (n := 8) (s := 170) dX8_init_31 rfl (by decide) (by decide) (by decide) rfl (by decide) ?_
  refine sr_putR (pc' := 36) (ci := 8) (j := 3) (n := 9) (s := 169) dX8_init_33 rfl rfl rfl (by decide) rfl rfl rfl rfl ?_
  refine mr_aload_n (pc' := 37) dX8_init_36 rfl rfl ?_
  refine mr_bipush (pc' := 39) (v := (12 : Int32)) dX8_init_37 rfl (by decide) ?_
  refine sr_na (pc' := 41) (n := 9) (s := 169) dX8_init_39 rfl (by decide) (by decide) (by decide) rfl (by decide) ?_
  refine sr_putR (pc' := 44) (ci := 8) (j := 4) (n := 10) (s := 168) dX8_init_41 rfl rfl rfl (by decide) rfl rfl rfl rfl ?_
  refine mr_aload_n (pc' := 45) dX8_init_44 rfl rfl ?_
  refine mr_bipush (pc' := 47) (v := (100 : Int32)) dX8_init_45 rfl (by decide) ?_
  refine sr_na (pc' := 49) (n := 10) (s := 168) dX8_init_47 rfl (by decide) (by decide) (by decide) rfl (by decide) ?_
  refine sr_putR (pc' := 52) (ci := 8) (j := 5) (n := 11) (s := 167) dX8_init_49 rfl rfl rfl (by decide) rfl rfl rfl rfl ?_
  refine mr_aload_n (pc' := 53) dX8_init_52 rfl rfl ?_
  refine mr_iconst (pc' := 54) (v := (0 : Int32)) dX8_init_53 rfl (by decide) ?_
  refine sr_putI (pc' := 57) (ci := 8) (j := 6) (n := 11) (s := 167) dX8_init_54 rfl rfl rfl (by decide) rfl rfl rfl ?_
  refine mr_aload_n (pc' := 58) dX8_init_57 rfl rfl ?_
  refine mr_iconst (pc' := 59) (v := (0 : Int32)) dX8_init_58 rfl (by decide) ?_
  refine sr_putI (pc' := 62) (ci := 8) (j := 7) (n := 11) (s := 167) dX8_init_59 rfl rfl rfl (by decide) rfl rfl rfl ?_
  exact mr_return dX8_init_62 rfl
set_option maxRecDepth 100000 in
theorem ct_X0_init_11 : mr X 0 mY_X0_init 0 (lv_args 0 [.ref 11]) [] (sM 12 166) (none, sM 17 161) := by
  show mr X _ _ 0 [(0, .ref 11)] [] _ _
  refine mr_aload_n (pc' := 1) dX0_init_0 rfl rfl ?_
  refine sr_obj (pc' := 4) dX0_init_1 rfl rfl (by decide) ?_
  refine mr_aload_n (pc' := 5) dX0_init_4 rfl rfl ?_
  refine mr_bipush (pc' := 7) (v := (8 : Int32)) dX0_init_5 rfl (by decide) ?_
  refine sr_na (pc' := 9) (n := 12) (s := 166) dX0_init_7 rfl (by decide) (by decide) (by decide) rfl (by decide) ?_
  refine sr_putR (pc' := 12) (ci := 0) (j := 0) (n := 13) (s := 165) dX0_init_9 rfl rfl rfl (by decide) rfl rfl rfl rfl ?_
  refine mr_aload_n (pc' := 13) dX0_init_12 rfl rfl ?_
  refine mr_bipush (pc' := 15) (v := (8 : Int32)) dX0_init_13 rfl (by decide) ?_
  refine sr_na (pc' := 17) (n := 13) (s := 165) dX0_init_15 rfl (by decide) (by decide) (by decide) rfl (by decide) ?_
  refine sr_putR (pc' := 20) (ci := 0) (j := 1) (n := 14) (s := 164) dX0_init_17 rfl rfl rfl (by decide) rfl rfl rfl rfl ?_
  refine mr_aload_n (pc' := 21) dX0_init_20 rfl rfl ?_
  refine mr_bipush (pc' := 23) (v := (8 : Int32)) dX0_init_21 rfl (by decide) ?_
  refine sr_na (pc' := 25) (n := 14) (s := 164) dX0_init_23 rfl (by decide) (by decide) (by decide) rfl (by decide) ?_
  refine sr_putR (pc' := 28) (ci := 0) (j := 2) (n := 15) (s := 163) dX0_init_25 rfl rfl rfl (by decide) rfl rfl rfl rfl ?_
  refine mr_aload_n (pc' := 29) dX0_init_28 rfl rfl ?_
  refine mr_bipush (pc' := 31) (v := (8 : Int32)) dX0_init_29 rfl (by decide) ?_
  refine sr_na (pc' := 33) (n := 15) (s := 163) dX0_init_31 rfl (by decide) (by decide) (by decide) rfl (by decide) ?_
  refine sr_putR (pc' := 36) (ci := 0) (j := 3) (n := 16) (s := 162) dX0_init_33 rfl rfl rfl (by decide) rfl rfl rfl rfl ?_
  refine mr_aload_n (pc' := 37) dX0_init_36 rfl rfl ?_
  refine mr_bipush (pc' := 39) (v := (8 : Int32)) dX0_init_37 rfl (by decide) ?_
  refine sr_na (pc' := 41) (n := 16) (s := 162) dX0_init_39 rfl (by decide) (by decide) (by decide) rfl (by decide) ?_
  refine sr_putR (pc' := 44) (ci := 0) (j := 4) (n := 17) (s := 161) dX0_init_41 rfl rfl rfl (by decide) rfl rfl rfl rfl ?_
  refine mr_aload_n (pc' := 45) dX0_init_44 rfl rfl ?_
  refine mr_iconst (pc' := 46) (v := (0 : Int32)) dX0_init_45 rfl (by decide) ?_
  refine sr_putI (pc' := 49) (ci := 0) (j := 5) (n := 17) (s := 161) dX0_init_46 rfl rfl rfl (by decide) rfl rfl rfl ?_
  refine mr_aload_n (pc' := 50) dX0_init_49 rfl rfl ?_
  refine mr_iconst (pc' := 51) (v := (0 : Int32)) dX0_init_50 rfl (by decide) ?_
  refine sr_putI (pc' := 54) (ci := 0) (j := 6) (n := 17) (s := 161) dX0_init_51 rfl rfl rfl (by decide) rfl rfl rfl ?_
  exact mr_return dX0_init_54 rfl
set_option maxRecDepth 100000 in
theorem ct_X2_init_17 : mr X 0 mY_X2_init 0 (lv_args 0 [.ref 17]) [] (sM 18 160) (none, sM 22 156) := by
  show mr X _ _ 0 [(0, .ref 17)] [] _ _
  refine mr_aload_n (pc' := 1) dX2_init_0 rfl rfl ?_
  refine sr_obj (pc' := 4) dX2_init_1 rfl rfl (by decide) ?_
  refine mr_aload_n (pc' := 5) dX2_init_4 rfl rfl ?_
  refine mr_bipush (pc' := 7) (v := (12 : Int32)) dX2_init_5 rfl (by decide) ?_
  refine sr_na (pc' := 9) (n := 18) (s := 160) dX2_init_7 rfl (by decide) (by decide) (by decide) rfl (by decide) ?_
  refine sr_putR (pc' := 12) (ci := 2) (j := 0) (n := 19) (s := 159) dX2_init_9 rfl rfl rfl (by decide) rfl rfl rfl rfl ?_
  refine mr_aload_n (pc' := 13) dX2_init_12 rfl rfl ?_
  refine mr_bipush (pc' := 15) (v := (12 : Int32)) dX2_init_13 rfl (by decide) ?_
  refine sr_na (pc' := 17) (n := 19) (s := 159) dX2_init_15 rfl (by decide) (by decide) (by decide) rfl (by decide) ?_
  refine sr_putR (pc' := 20) (ci := 2) (j := 1) (n := 20) (s := 158) dX2_init_17 rfl rfl rfl (by decide) rfl rfl rfl rfl ?_
  refine mr_aload_n (pc' := 21) dX2_init_20 rfl rfl ?_
  refine mr_bipush (pc' := 23) (v := (12 : Int32)) dX2_init_21 rfl (by decide) ?_
  refine sr_na (pc' := 25) (n := 20) (s := 158) dX2_init_23 rfl (by decide) (by decide) (by decide) rfl (by decide) ?_
  refine sr_putR (pc' := 28) (ci := 2) (j := 2) (n := 21) (s := 157) dX2_init_25 rfl rfl rfl (by decide) rfl rfl rfl rfl ?_
  refine mr_aload_n (pc' := 29) dX2_init_28 rfl rfl ?_
  refine mr_bipush (pc' := 31) (v := (12 : Int32)) dX2_init_29 rfl (by decide) ?_
  refine sr_na (pc' := 33) (n := 21) (s := 157) dX2_init_31 rfl (by decide) (by decide) (by decide) rfl (by decide) ?_
  refine sr_putR (pc' := 36) (ci := 2) (j := 3) (n := 22) (s := 156) dX2_init_33 rfl rfl rfl (by decide) rfl rfl rfl rfl ?_
  refine mr_aload_n (pc' := 37) dX2_init_36 rfl rfl ?_
  refine mr_iconst (pc' := 38) (v := (0 : Int32)) dX2_init_37 rfl (by decide) ?_
  refine sr_putI (pc' := 41) (ci := 2) (j := 4) (n := 22) (s := 156) dX2_init_38 rfl rfl rfl (by decide) rfl rfl rfl ?_
  exact mr_return dX2_init_41 rfl
set_option maxRecDepth 100000 in
theorem ct_X6_init_3 : mr X 1 mY_X6_init 0 (lv_args 0 [.ref 3]) [] (sM 4 173) (none, sM 22 155) := by
  show mr X _ _ 0 [(0, .ref 3)] [] _ _
  refine mr_aload_n (pc' := 1) dX6_init_0 rfl rfl ?_
  refine sr_obj (pc' := 4) dX6_init_1 rfl rfl (by decide) ?_
  refine mr_aload_n (pc' := 5) dX6_init_4 rfl rfl ?_
  refine sr_new (pc' := 8) (c := 8) (n := 4) (s := 173) dX6_init_5 rfl rfl rfl (by decide) ?_
  refine mr_dup_ref (pc' := 9) dX6_init_8 rfl ?_
  refine mr_callg (d1 := 0) (Y' := mY_X8_init) (as := [.ref 4]) (rest := [.ref 4, .ref 3]) (mm_nd_uq rfl) dX6_init_9 rfl rfl (by decide) ct_X8_init_4 ?_
  show mr X _ _ 12 _ [.ref 4, .ref 3] (sM 11 167) _
  refine sr_putR (pc' := 15) (ci := 6) (j := 0) (n := 11) (s := 166) dX6_init_12 rfl rfl rfl (by decide) rfl rfl rfl rfl ?_
  refine mr_aload_n (pc' := 16) dX6_init_15 rfl rfl ?_
  refine sr_new (pc' := 19) (c := 0) (n := 11) (s := 166) dX6_init_16 rfl rfl rfl (by decide) ?_
  refine mr_dup_ref (pc' := 20) dX6_init_19 rfl ?_
  refine mr_callg (d1 := 0) (Y' := mY_X0_init) (as := [.ref 11]) (rest := [.ref 11, .ref 3]) (mm_nd_uq rfl) dX6_init_20 rfl rfl (by decide) ct_X0_init_11 ?_
  show mr X _ _ 23 _ [.ref 11, .ref 3] (sM 17 161) _
  refine sr_putR (pc' := 26) (ci := 6) (j := 1) (n := 17) (s := 160) dX6_init_23 rfl rfl rfl (by decide) rfl rfl rfl rfl ?_
  refine mr_aload_n (pc' := 27) dX6_init_26 rfl rfl ?_
  refine sr_new (pc' := 30) (c := 2) (n := 17) (s := 160) dX6_init_27 rfl rfl rfl (by decide) ?_
  refine mr_dup_ref (pc' := 31) dX6_init_30 rfl ?_
  refine mr_callg (d1 := 0) (Y' := mY_X2_init) (as := [.ref 17]) (rest := [.ref 17, .ref 3]) (mm_nd_uq rfl) dX6_init_31 rfl rfl (by decide) ct_X2_init_17 ?_
  show mr X _ _ 34 _ [.ref 17, .ref 3] (sM 22 156) _
  refine sr_putR (pc' := 37) (ci := 6) (j := 2) (n := 22) (s := 155) dX6_init_34 rfl rfl rfl (by decide) rfl rfl rfl rfl ?_
  refine mr_aload_n (pc' := 38) dX6_init_37 rfl rfl ?_
  refine mr_iconst (pc' := 39) (v := (0 : Int32)) dX6_init_38 rfl (by decide) ?_
  refine sr_putI (pc' := 42) (ci := 6) (j := 3) (n := 22) (s := 155) dX6_init_39 rfl rfl rfl (by decide) rfl rfl rfl ?_
  refine mr_aload_n (pc' := 43) dX6_init_42 rfl rfl ?_
  refine mr_iconst (pc' := 44) (v := (0 : Int32)) dX6_init_43 rfl (by decide) ?_
  refine sr_putZ (pc' := 47) (ci := 6) (j := 4) (n := 22) (s := 155) dX6_init_44 rfl rfl rfl (by decide) rfl rfl rfl ?_
  exact mr_return dX6_init_47 rfl
set_option maxRecDepth 100000 in
theorem ct_X8_init_24 : mr X 0 mY_X8_init 0 (lv_args 0 [.ref 24]) [] (sM 25 152) (none, sM 31 146) := by
  show mr X _ _ 0 [(0, .ref 24)] [] _ _
  refine mr_aload_n (pc' := 1) dX8_init_0 rfl rfl ?_
  refine sr_obj (pc' := 4) dX8_init_1 rfl rfl (by decide) ?_
  refine mr_aload_n (pc' := 5) dX8_init_4 rfl rfl ?_
  refine mr_bipush (pc' := 7) (v := (10 : Int32)) dX8_init_5 rfl (by decide) ?_
  refine sr_na (pc' := 9) (n := 25) (s := 152) dX8_init_7 rfl (by decide) (by decide) (by decide) rfl (by decide) ?_
  refine sr_putR (pc' := 12) (ci := 8) (j := 0) (n := 26) (s := 151) dX8_init_9 rfl rfl rfl (by decide) rfl rfl rfl rfl ?_
  refine mr_aload_n (pc' := 13) dX8_init_12 rfl rfl ?_
  refine mr_bipush (pc' := 15) (v := (12 : Int32)) dX8_init_13 rfl (by decide) ?_
  refine sr_na (pc' := 17) (n := 26) (s := 151) dX8_init_15 rfl (by decide) (by decide) (by decide) rfl (by decide) ?_
  refine sr_putR (pc' := 20) (ci := 8) (j := 1) (n := 27) (s := 150) dX8_init_17 rfl rfl rfl (by decide) rfl rfl rfl rfl ?_
  refine mr_aload_n (pc' := 21) dX8_init_20 rfl rfl ?_
  refine mr_bipush (pc' := 23) (v := (12 : Int32)) dX8_init_21 rfl (by decide) ?_
  refine sr_na (pc' := 25) (n := 27) (s := 150) dX8_init_23 rfl (by decide) (by decide) (by decide) rfl (by decide) ?_
  refine sr_putR (pc' := 28) (ci := 8) (j := 2) (n := 28) (s := 149) dX8_init_25 rfl rfl rfl (by decide) rfl rfl rfl rfl ?_
  refine mr_aload_n (pc' := 29) dX8_init_28 rfl rfl ?_
  refine mr_bipush (pc' := 31) (v := (12 : Int32)) dX8_init_29 rfl (by decide) ?_
  refine sr_na (pc' := 33) (n := 28) (s := 149) dX8_init_31 rfl (by decide) (by decide) (by decide) rfl (by decide) ?_
  refine sr_putR (pc' := 36) (ci := 8) (j := 3) (n := 29) (s := 148) dX8_init_33 rfl rfl rfl (by decide) rfl rfl rfl rfl ?_
  refine mr_aload_n (pc' := 37) dX8_init_36 rfl rfl ?_
  refine mr_bipush (pc' := 39) (v := (12 : Int32)) dX8_init_37 rfl (by decide) ?_
  refine sr_na (pc' := 41) (n := 29) (s := 148) dX8_init_39 rfl (by decide) (by decide) (by decide) rfl (by decide) ?_
  refine sr_putR (pc' := 44) (ci := 8) (j := 4) (n := 30) (s := 147) dX8_init_41 rfl rfl rfl (by decide) rfl rfl rfl rfl ?_
  refine mr_aload_n (pc' := 45) dX8_init_44 rfl rfl ?_
  refine mr_bipush (pc' := 47) (v := (100 : Int32)) dX8_init_45 rfl (by decide) ?_
  refine sr_na (pc' := 49) (n := 30) (s := 147) dX8_init_47 rfl (by decide) (by decide) (by decide) rfl (by decide) ?_
  refine sr_putR (pc' := 52) (ci := 8) (j := 5) (n := 31) (s := 146) dX8_init_49 rfl rfl rfl (by decide) rfl rfl rfl rfl ?_
  refine mr_aload_n (pc' := 53) dX8_init_52 rfl rfl ?_
  refine mr_iconst (pc' := 54) (v := (0 : Int32)) dX8_init_53 rfl (by decide) ?_
  refine sr_putI (pc' := 57) (ci := 8) (j := 6) (n := 31) (s := 146) dX8_init_54 rfl rfl rfl (by decide) rfl rfl rfl ?_
  refine mr_aload_n (pc' := 58) dX8_init_57 rfl rfl ?_
  refine mr_iconst (pc' := 59) (v := (0 : Int32)) dX8_init_58 rfl (by decide) ?_
  refine sr_putI (pc' := 62) (ci := 8) (j := 7) (n := 31) (s := 146) dX8_init_59 rfl rfl rfl (by decide) rfl rfl rfl ?_
  exact mr_return dX8_init_62 rfl
set_option maxRecDepth 100000 in
theorem ct_X0_init_31 : mr X 0 mY_X0_init 0 (lv_args 0 [.ref 31]) [] (sM 32 145) (none, sM 37 140) := by
  show mr X _ _ 0 [(0, .ref 31)] [] _ _
  refine mr_aload_n (pc' := 1) dX0_init_0 rfl rfl ?_
  refine sr_obj (pc' := 4) dX0_init_1 rfl rfl (by decide) ?_
  refine mr_aload_n (pc' := 5) dX0_init_4 rfl rfl ?_
  refine mr_bipush (pc' := 7) (v := (8 : Int32)) dX0_init_5 rfl (by decide) ?_
  refine sr_na (pc' := 9) (n := 32) (s := 145) dX0_init_7 rfl (by decide) (by decide) (by decide) rfl (by decide) ?_
  refine sr_putR (pc' := 12) (ci := 0) (j := 0) (n := 33) (s := 144) dX0_init_9 rfl rfl rfl (by decide) rfl rfl rfl rfl ?_
  refine mr_aload_n (pc' := 13) dX0_init_12 rfl rfl ?_
  refine mr_bipush (pc' := 15) (v := (8 : Int32)) dX0_init_13 rfl (by decide) ?_
  refine sr_na (pc' := 17) (n := 33) (s := 144) dX0_init_15 rfl (by decide) (by decide) (by decide) rfl (by decide) ?_
  refine sr_putR (pc' := 20) (ci := 0) (j := 1) (n := 34) (s := 143) dX0_init_17 rfl rfl rfl (by decide) rfl rfl rfl rfl ?_
  refine mr_aload_n (pc' := 21) dX0_init_20 rfl rfl ?_
  refine mr_bipush (pc' := 23) (v := (8 : Int32)) dX0_init_21 rfl (by decide) ?_
  refine sr_na (pc' := 25) (n := 34) (s := 143) dX0_init_23 rfl (by decide) (by decide) (by decide) rfl (by decide) ?_
  refine sr_putR (pc' := 28) (ci := 0) (j := 2) (n := 35) (s := 142) dX0_init_25 rfl rfl rfl (by decide) rfl rfl rfl rfl ?_
  refine mr_aload_n (pc' := 29) dX0_init_28 rfl rfl ?_
  refine mr_bipush (pc' := 31) (v := (8 : Int32)) dX0_init_29 rfl (by decide) ?_
  refine sr_na (pc' := 33) (n := 35) (s := 142) dX0_init_31 rfl (by decide) (by decide) (by decide) rfl (by decide) ?_
  refine sr_putR (pc' := 36) (ci := 0) (j := 3) (n := 36) (s := 141) dX0_init_33 rfl rfl rfl (by decide) rfl rfl rfl rfl ?_
  refine mr_aload_n (pc' := 37) dX0_init_36 rfl rfl ?_
  refine mr_bipush (pc' := 39) (v := (8 : Int32)) dX0_init_37 rfl (by decide) ?_
  refine sr_na (pc' := 41) (n := 36) (s := 141) dX0_init_39 rfl (by decide) (by decide) (by decide) rfl (by decide) ?_
  refine sr_putR (pc' := 44) (ci := 0) (j := 4) (n := 37) (s := 140) dX0_init_41 rfl rfl rfl (by decide) rfl rfl rfl rfl ?_
  refine mr_aload_n (pc' := 45) dX0_init_44 rfl rfl ?_
  refine mr_iconst (pc' := 46) (v := (0 : Int32)) dX0_init_45 rfl (by decide) ?_
  refine sr_putI (pc' := 49) (ci := 0) (j := 5) (n := 37) (s := 140) dX0_init_46 rfl rfl rfl (by decide) rfl rfl rfl ?_
  refine mr_aload_n (pc' := 50) dX0_init_49 rfl rfl ?_
  refine mr_iconst (pc' := 51) (v := (0 : Int32)) dX0_init_50 rfl (by decide) ?_
  refine sr_putI (pc' := 54) (ci := 0) (j := 6) (n := 37) (s := 140) dX0_init_51 rfl rfl rfl (by decide) rfl rfl rfl ?_
  exact mr_return dX0_init_54 rfl
set_option maxRecDepth 100000 in
theorem ct_X9_init_37 : mr X 0 mY_X9_init 0 (lv_args 0 [.ref 37, .ref 1, .ref 24, .ref 31]) [] (sM 38 139) (none, sM 38 136) := by
  show mr X _ _ 0 [(0, .ref 37), (1, .ref 1), (2, .ref 24), (3, .ref 31)] [] _ _
  refine mr_aload_n (pc' := 1) dX9_init_0 rfl rfl ?_
  refine sr_obj (pc' := 4) dX9_init_1 rfl rfl (by decide) ?_
  refine mr_aload_n (pc' := 5) dX9_init_4 rfl rfl ?_
  refine mr_aload_n (pc' := 6) dX9_init_5 rfl rfl ?_
  refine sr_putR (pc' := 9) (ci := 9) (j := 0) (n := 38) (s := 138) dX9_init_6 rfl rfl rfl (by decide) rfl rfl rfl rfl ?_
  refine mr_aload_n (pc' := 10) dX9_init_9 rfl rfl ?_
  refine mr_aload_n (pc' := 11) dX9_init_10 rfl rfl ?_
  refine sr_putR (pc' := 14) (ci := 9) (j := 1) (n := 38) (s := 137) dX9_init_11 rfl rfl rfl (by decide) rfl rfl rfl rfl ?_
  refine mr_aload_n (pc' := 15) dX9_init_14 rfl rfl ?_
  refine mr_aload_n (pc' := 16) dX9_init_15 rfl rfl ?_
  refine sr_putR (pc' := 19) (ci := 9) (j := 2) (n := 38) (s := 136) dX9_init_16 rfl rfl rfl (by decide) rfl rfl rfl rfl ?_
  exact mr_return dX9_init_19 rfl
set_option maxRecDepth 100000 in
theorem ct_X4_init_40 : mr X 0 mY_X4_init 0 (lv_args 0 [.ref 40]) [] (sM 41 134) (none, sM 43 132) := by
  show mr X _ _ 0 [(0, .ref 40)] [] _ _
  refine mr_aload_n (pc' := 1) dX4_init_0 rfl rfl ?_
  refine sr_obj (pc' := 4) dX4_init_1 rfl rfl (by decide) ?_
  refine mr_aload_n (pc' := 5) dX4_init_4 rfl rfl ?_
  refine mr_sipush (pc' := 8) (v := (400 : Int32)) dX4_init_5 rfl (by decide) ?_
  refine sr_na (pc' := 10) (n := 41) (s := 134) dX4_init_8 rfl (by decide) (by decide) (by decide) rfl (by decide) ?_
  refine sr_putR (pc' := 13) (ci := 4) (j := 0) (n := 42) (s := 133) dX4_init_10 rfl rfl rfl (by decide) rfl rfl rfl rfl ?_
  refine mr_aload_n (pc' := 14) dX4_init_13 rfl rfl ?_
  refine mr_bipush (pc' := 16) (v := (60 : Int32)) dX4_init_14 rfl (by decide) ?_
  refine sr_na (pc' := 18) (n := 42) (s := 133) dX4_init_16 rfl (by decide) (by decide) (by decide) rfl (by decide) ?_
  refine sr_putR (pc' := 21) (ci := 4) (j := 1) (n := 43) (s := 132) dX4_init_18 rfl rfl rfl (by decide) rfl rfl rfl rfl ?_
  refine mr_aload_n (pc' := 22) dX4_init_21 rfl rfl ?_
  refine mr_iconst (pc' := 23) (v := (0 : Int32)) dX4_init_22 rfl (by decide) ?_
  refine sr_putI (pc' := 26) (ci := 4) (j := 2) (n := 43) (s := 132) dX4_init_23 rfl rfl rfl (by decide) rfl rfl rfl ?_
  refine mr_aload_n (pc' := 27) dX4_init_26 rfl rfl ?_
  refine mr_iconst (pc' := 28) (v := (0 : Int32)) dX4_init_27 rfl (by decide) ?_
  refine sr_putI (pc' := 31) (ci := 4) (j := 3) (n := 43) (s := 132) dX4_init_28 rfl rfl rfl (by decide) rfl rfl rfl ?_
  exact mr_return dX4_init_31 rfl
set_option maxRecDepth 100000 in
theorem ct_X5_init_38 : mr X 1 mY_X5_init 0 (lv_args 0 [.ref 38, .ref 1]) [] (sM 39 135) (none, sM 43 130) := by
  show mr X _ _ 0 [(0, .ref 38), (1, .ref 1)] [] _ _
  refine mr_aload_n (pc' := 1) dX5_init_0 rfl rfl ?_
  refine sr_obj (pc' := 4) dX5_init_1 rfl rfl (by decide) ?_
  refine mr_aload_n (pc' := 5) dX5_init_4 rfl rfl ?_
  refine mr_bipush (pc' := 7) (v := (64 : Int32)) dX5_init_5 rfl (by decide) ?_
  refine sr_na (pc' := 9) (n := 39) (s := 135) dX5_init_7 rfl (by decide) (by decide) (by decide) rfl (by decide) ?_
  refine sr_putR (pc' := 12) (ci := 5) (j := 1) (n := 40) (s := 134) dX5_init_9 rfl rfl rfl (by decide) rfl rfl rfl rfl ?_
  refine mr_aload_n (pc' := 13) dX5_init_12 rfl rfl ?_
  refine sr_new (pc' := 16) (c := 4) (n := 40) (s := 134) dX5_init_13 rfl rfl rfl (by decide) ?_
  refine mr_dup_ref (pc' := 17) dX5_init_16 rfl ?_
  refine mr_callg (d1 := 0) (Y' := mY_X4_init) (as := [.ref 40]) (rest := [.ref 40, .ref 38]) (mm_nd_uq rfl) dX5_init_17 rfl rfl (by decide) ct_X4_init_40 ?_
  show mr X _ _ 20 _ [.ref 40, .ref 38] (sM 43 132) _
  refine sr_putR (pc' := 23) (ci := 5) (j := 2) (n := 43) (s := 131) dX5_init_20 rfl rfl rfl (by decide) rfl rfl rfl rfl ?_
  refine mr_aload_n (pc' := 24) dX5_init_23 rfl rfl ?_
  refine mr_iconst (pc' := 25) (v := (0 : Int32)) dX5_init_24 rfl (by decide) ?_
  refine sr_putI (pc' := 28) (ci := 5) (j := 3) (n := 43) (s := 131) dX5_init_25 rfl rfl rfl (by decide) rfl rfl rfl ?_
  refine mr_aload_n (pc' := 29) dX5_init_28 rfl rfl ?_
  refine mr_iconst (pc' := 30) (v := (0 : Int32)) dX5_init_29 rfl (by decide) ?_
  refine sr_putI (pc' := 33) (ci := 5) (j := 4) (n := 43) (s := 131) dX5_init_30 rfl rfl rfl (by decide) rfl rfl rfl ?_
  refine mr_aload_n (pc' := 34) dX5_init_33 rfl rfl ?_
  refine mr_iconst (pc' := 35) (v := (0 : Int32)) dX5_init_34 rfl (by decide) ?_
  refine sr_putI (pc' := 38) (ci := 5) (j := 5) (n := 43) (s := 131) dX5_init_35 rfl rfl rfl (by decide) rfl rfl rfl ?_
  refine mr_aload_n (pc' := 39) dX5_init_38 rfl rfl ?_
  refine mr_iconst (pc' := 40) (v := (0 : Int32)) dX5_init_39 rfl (by decide) ?_
  refine sr_putI (pc' := 43) (ci := 5) (j := 6) (n := 43) (s := 131) dX5_init_40 rfl rfl rfl (by decide) rfl rfl rfl ?_
  refine mr_aload_n (pc' := 44) dX5_init_43 rfl rfl ?_
  refine mr_aload_n (pc' := 45) dX5_init_44 rfl rfl ?_
  refine sr_putR (pc' := 48) (ci := 5) (j := 0) (n := 43) (s := 130) dX5_init_45 rfl rfl rfl (by decide) rfl rfl rfl rfl ?_
  exact mr_return dX5_init_48 rfl
set_option maxRecDepth 100000 in
theorem ct_X1_init_43 : mr X 0 mY_X1_init 0 (lv_args 0 [.ref 43]) [] (sM 44 129) (none, sM 45 128) := by
  show mr X _ _ 0 [(0, .ref 43)] [] _ _
  refine mr_aload_n (pc' := 1) dX1_init_0 rfl rfl ?_
  refine sr_obj (pc' := 4) dX1_init_1 rfl rfl (by decide) ?_
  refine mr_aload_n (pc' := 5) dX1_init_4 rfl rfl ?_
  refine mr_sipush (pc' := 8) (v := (1210 : Int32)) dX1_init_5 rfl (by decide) ?_
  refine sr_na (pc' := 10) (n := 44) (s := 129) dX1_init_8 rfl (by decide) (by decide) (by decide) rfl (by decide) ?_
  refine sr_putR (pc' := 13) (ci := 1) (j := 0) (n := 45) (s := 128) dX1_init_10 rfl rfl rfl (by decide) rfl rfl rfl rfl ?_
  exact mr_return dX1_init_13 rfl
set_option maxRecDepth 100000 in
theorem ct_X3_init_45 : mr X 0 mY_X3_init 0 (lv_args 0 [.ref 45]) [] (sM 46 127) (none, sM 53 120) := by
  show mr X _ _ 0 [(0, .ref 45)] [] _ _
  refine mr_aload_n (pc' := 1) dX3_init_0 rfl rfl ?_
  refine sr_obj (pc' := 4) dX3_init_1 rfl rfl (by decide) ?_
  refine mr_aload_n (pc' := 5) dX3_init_4 rfl rfl ?_
  refine mr_sipush (pc' := 8) (v := (4000 : Int32)) dX3_init_5 rfl (by decide) ?_
  refine sr_na (pc' := 10) (n := 46) (s := 127) dX3_init_8 rfl (by decide) (by decide) (by decide) rfl (by decide) ?_
  refine sr_putR (pc' := 13) (ci := 3) (j := 0) (n := 47) (s := 126) dX3_init_10 rfl rfl rfl (by decide) rfl rfl rfl rfl ?_
  refine mr_aload_n (pc' := 14) dX3_init_13 rfl rfl ?_
  refine mr_sipush (pc' := 17) (v := (4000 : Int32)) dX3_init_14 rfl (by decide) ?_
  refine sr_na (pc' := 19) (n := 47) (s := 126) dX3_init_17 rfl (by decide) (by decide) (by decide) rfl (by decide) ?_
  refine sr_putR (pc' := 22) (ci := 3) (j := 1) (n := 48) (s := 125) dX3_init_19 rfl rfl rfl (by decide) rfl rfl rfl rfl ?_
  refine mr_aload_n (pc' := 23) dX3_init_22 rfl rfl ?_
  refine mr_sipush (pc' := 26) (v := (171 : Int32)) dX3_init_23 rfl (by decide) ?_
  refine sr_na (pc' := 28) (n := 48) (s := 125) dX3_init_26 rfl (by decide) (by decide) (by decide) rfl (by decide) ?_
  refine sr_putR (pc' := 31) (ci := 3) (j := 2) (n := 49) (s := 124) dX3_init_28 rfl rfl rfl (by decide) rfl rfl rfl rfl ?_
  refine mr_aload_n (pc' := 32) dX3_init_31 rfl rfl ?_
  refine mr_bipush (pc' := 34) (v := (13 : Int32)) dX3_init_32 rfl (by decide) ?_
  refine sr_na (pc' := 36) (n := 49) (s := 124) dX3_init_34 rfl (by decide) (by decide) (by decide) rfl (by decide) ?_
  refine sr_putR (pc' := 39) (ci := 3) (j := 3) (n := 50) (s := 123) dX3_init_36 rfl rfl rfl (by decide) rfl rfl rfl rfl ?_
  refine mr_aload_n (pc' := 40) dX3_init_39 rfl rfl ?_
  refine mr_bipush (pc' := 42) (v := (13 : Int32)) dX3_init_40 rfl (by decide) ?_
  refine sr_na (pc' := 44) (n := 50) (s := 123) dX3_init_42 rfl (by decide) (by decide) (by decide) rfl (by decide) ?_
  refine sr_putR (pc' := 47) (ci := 3) (j := 4) (n := 51) (s := 122) dX3_init_44 rfl rfl rfl (by decide) rfl rfl rfl rfl ?_
  refine mr_aload_n (pc' := 48) dX3_init_47 rfl rfl ?_
  refine mr_bipush (pc' := 50) (v := (13 : Int32)) dX3_init_48 rfl (by decide) ?_
  refine sr_na (pc' := 52) (n := 51) (s := 122) dX3_init_50 rfl (by decide) (by decide) (by decide) rfl (by decide) ?_
  refine sr_putR (pc' := 55) (ci := 3) (j := 5) (n := 52) (s := 121) dX3_init_52 rfl rfl rfl (by decide) rfl rfl rfl rfl ?_
  refine mr_aload_n (pc' := 56) dX3_init_55 rfl rfl ?_
  refine mr_bipush (pc' := 58) (v := (13 : Int32)) dX3_init_56 rfl (by decide) ?_
  refine sr_na (pc' := 60) (n := 52) (s := 121) dX3_init_58 rfl (by decide) (by decide) (by decide) rfl (by decide) ?_
  refine sr_putR (pc' := 63) (ci := 3) (j := 6) (n := 53) (s := 120) dX3_init_60 rfl rfl rfl (by decide) rfl rfl rfl rfl ?_
  refine mr_aload_n (pc' := 64) dX3_init_63 rfl rfl ?_
  refine mr_iconst (pc' := 65) (v := (0 : Int32)) dX3_init_64 rfl (by decide) ?_
  refine sr_putI (pc' := 68) (ci := 3) (j := 7) (n := 53) (s := 120) dX3_init_65 rfl rfl rfl (by decide) rfl rfl rfl ?_
  refine mr_aload_n (pc' := 69) dX3_init_68 rfl rfl ?_
  refine mr_iconst (pc' := 70) (v := (0 : Int32)) dX3_init_69 rfl (by decide) ?_
  refine sr_putI (pc' := 73) (ci := 3) (j := 8) (n := 53) (s := 120) dX3_init_70 rfl rfl rfl (by decide) rfl rfl rfl ?_
  exact mr_return dX3_init_73 rfl
set_option maxRecDepth 100000 in
theorem ct_X8_init_54 : mr X 0 mY_X8_init 0 (lv_args 0 [.ref 54]) [] (sM 55 119) (none, sM 61 113) := by
  show mr X _ _ 0 [(0, .ref 54)] [] _ _
  refine mr_aload_n (pc' := 1) dX8_init_0 rfl rfl ?_
  refine sr_obj (pc' := 4) dX8_init_1 rfl rfl (by decide) ?_
  refine mr_aload_n (pc' := 5) dX8_init_4 rfl rfl ?_
  refine mr_bipush (pc' := 7) (v := (10 : Int32)) dX8_init_5 rfl (by decide) ?_
  refine sr_na (pc' := 9) (n := 55) (s := 119) dX8_init_7 rfl (by decide) (by decide) (by decide) rfl (by decide) ?_
  refine sr_putR (pc' := 12) (ci := 8) (j := 0) (n := 56) (s := 118) dX8_init_9 rfl rfl rfl (by decide) rfl rfl rfl rfl ?_
  refine mr_aload_n (pc' := 13) dX8_init_12 rfl rfl ?_
  refine mr_bipush (pc' := 15) (v := (12 : Int32)) dX8_init_13 rfl (by decide) ?_
  refine sr_na (pc' := 17) (n := 56) (s := 118) dX8_init_15 rfl (by decide) (by decide) (by decide) rfl (by decide) ?_
  refine sr_putR (pc' := 20) (ci := 8) (j := 1) (n := 57) (s := 117) dX8_init_17 rfl rfl rfl (by decide) rfl rfl rfl rfl ?_
  refine mr_aload_n (pc' := 21) dX8_init_20 rfl rfl ?_
  refine mr_bipush (pc' := 23) (v := (12 : Int32)) dX8_init_21 rfl (by decide) ?_
  refine sr_na (pc' := 25) (n := 57) (s := 117) dX8_init_23 rfl (by decide) (by decide) (by decide) rfl (by decide) ?_
  refine sr_putR (pc' := 28) (ci := 8) (j := 2) (n := 58) (s := 116) dX8_init_25 rfl rfl rfl (by decide) rfl rfl rfl rfl ?_
  refine mr_aload_n (pc' := 29) dX8_init_28 rfl rfl ?_
  refine mr_bipush (pc' := 31) (v := (12 : Int32)) dX8_init_29 rfl (by decide) ?_
  refine sr_na (pc' := 33) (n := 58) (s := 116) dX8_init_31 rfl (by decide) (by decide) (by decide) rfl (by decide) ?_
  refine sr_putR (pc' := 36) (ci := 8) (j := 3) (n := 59) (s := 115) dX8_init_33 rfl rfl rfl (by decide) rfl rfl rfl rfl ?_
  refine mr_aload_n (pc' := 37) dX8_init_36 rfl rfl ?_
  refine mr_bipush (pc' := 39) (v := (12 : Int32)) dX8_init_37 rfl (by decide) ?_
  refine sr_na (pc' := 41) (n := 59) (s := 115) dX8_init_39 rfl (by decide) (by decide) (by decide) rfl (by decide) ?_
  refine sr_putR (pc' := 44) (ci := 8) (j := 4) (n := 60) (s := 114) dX8_init_41 rfl rfl rfl (by decide) rfl rfl rfl rfl ?_
  refine mr_aload_n (pc' := 45) dX8_init_44 rfl rfl ?_
  refine mr_bipush (pc' := 47) (v := (100 : Int32)) dX8_init_45 rfl (by decide) ?_
  refine sr_na (pc' := 49) (n := 60) (s := 114) dX8_init_47 rfl (by decide) (by decide) (by decide) rfl (by decide) ?_
  refine sr_putR (pc' := 52) (ci := 8) (j := 5) (n := 61) (s := 113) dX8_init_49 rfl rfl rfl (by decide) rfl rfl rfl rfl ?_
  refine mr_aload_n (pc' := 53) dX8_init_52 rfl rfl ?_
  refine mr_iconst (pc' := 54) (v := (0 : Int32)) dX8_init_53 rfl (by decide) ?_
  refine sr_putI (pc' := 57) (ci := 8) (j := 6) (n := 61) (s := 113) dX8_init_54 rfl rfl rfl (by decide) rfl rfl rfl ?_
  refine mr_aload_n (pc' := 58) dX8_init_57 rfl rfl ?_
  refine mr_iconst (pc' := 59) (v := (0 : Int32)) dX8_init_58 rfl (by decide) ?_
  refine sr_putI (pc' := 62) (ci := 8) (j := 7) (n := 61) (s := 113) dX8_init_59 rfl rfl rfl (by decide) rfl rfl rfl ?_
  exact mr_return dX8_init_62 rfl
set_option maxRecDepth 100000 in
theorem ct_X0_init_61 : mr X 0 mY_X0_init 0 (lv_args 0 [.ref 61]) [] (sM 62 112) (none, sM 67 107) := by
  show mr X _ _ 0 [(0, .ref 61)] [] _ _
  refine mr_aload_n (pc' := 1) dX0_init_0 rfl rfl ?_
  refine sr_obj (pc' := 4) dX0_init_1 rfl rfl (by decide) ?_
  refine mr_aload_n (pc' := 5) dX0_init_4 rfl rfl ?_
  refine mr_bipush (pc' := 7) (v := (8 : Int32)) dX0_init_5 rfl (by decide) ?_
  refine sr_na (pc' := 9) (n := 62) (s := 112) dX0_init_7 rfl (by decide) (by decide) (by decide) rfl (by decide) ?_
  refine sr_putR (pc' := 12) (ci := 0) (j := 0) (n := 63) (s := 111) dX0_init_9 rfl rfl rfl (by decide) rfl rfl rfl rfl ?_
  refine mr_aload_n (pc' := 13) dX0_init_12 rfl rfl ?_
  refine mr_bipush (pc' := 15) (v := (8 : Int32)) dX0_init_13 rfl (by decide) ?_
  refine sr_na (pc' := 17) (n := 63) (s := 111) dX0_init_15 rfl (by decide) (by decide) (by decide) rfl (by decide) ?_
  refine sr_putR (pc' := 20) (ci := 0) (j := 1) (n := 64) (s := 110) dX0_init_17 rfl rfl rfl (by decide) rfl rfl rfl rfl ?_
  refine mr_aload_n (pc' := 21) dX0_init_20 rfl rfl ?_
  refine mr_bipush (pc' := 23) (v := (8 : Int32)) dX0_init_21 rfl (by decide) ?_
  refine sr_na (pc' := 25) (n := 64) (s := 110) dX0_init_23 rfl (by decide) (by decide) (by decide) rfl (by decide) ?_
  refine sr_putR (pc' := 28) (ci := 0) (j := 2) (n := 65) (s := 109) dX0_init_25 rfl rfl rfl (by decide) rfl rfl rfl rfl ?_
  refine mr_aload_n (pc' := 29) dX0_init_28 rfl rfl ?_
  refine mr_bipush (pc' := 31) (v := (8 : Int32)) dX0_init_29 rfl (by decide) ?_
  refine sr_na (pc' := 33) (n := 65) (s := 109) dX0_init_31 rfl (by decide) (by decide) (by decide) rfl (by decide) ?_
  refine sr_putR (pc' := 36) (ci := 0) (j := 3) (n := 66) (s := 108) dX0_init_33 rfl rfl rfl (by decide) rfl rfl rfl rfl ?_
  refine mr_aload_n (pc' := 37) dX0_init_36 rfl rfl ?_
  refine mr_bipush (pc' := 39) (v := (8 : Int32)) dX0_init_37 rfl (by decide) ?_
  refine sr_na (pc' := 41) (n := 66) (s := 108) dX0_init_39 rfl (by decide) (by decide) (by decide) rfl (by decide) ?_
  refine sr_putR (pc' := 44) (ci := 0) (j := 4) (n := 67) (s := 107) dX0_init_41 rfl rfl rfl (by decide) rfl rfl rfl rfl ?_
  refine mr_aload_n (pc' := 45) dX0_init_44 rfl rfl ?_
  refine mr_iconst (pc' := 46) (v := (0 : Int32)) dX0_init_45 rfl (by decide) ?_
  refine sr_putI (pc' := 49) (ci := 0) (j := 5) (n := 67) (s := 107) dX0_init_46 rfl rfl rfl (by decide) rfl rfl rfl ?_
  refine mr_aload_n (pc' := 50) dX0_init_49 rfl rfl ?_
  refine mr_iconst (pc' := 51) (v := (0 : Int32)) dX0_init_50 rfl (by decide) ?_
  refine sr_putI (pc' := 54) (ci := 0) (j := 6) (n := 67) (s := 107) dX0_init_51 rfl rfl rfl (by decide) rfl rfl rfl ?_
  exact mr_return dX0_init_54 rfl
set_option maxRecDepth 100000 in
theorem ct_X2_init_67 : mr X 0 mY_X2_init 0 (lv_args 0 [.ref 67]) [] (sM 68 106) (none, sM 72 102) := by
  show mr X _ _ 0 [(0, .ref 67)] [] _ _
  refine mr_aload_n (pc' := 1) dX2_init_0 rfl rfl ?_
  refine sr_obj (pc' := 4) dX2_init_1 rfl rfl (by decide) ?_
  refine mr_aload_n (pc' := 5) dX2_init_4 rfl rfl ?_
  refine mr_bipush (pc' := 7) (v := (12 : Int32)) dX2_init_5 rfl (by decide) ?_
  refine sr_na (pc' := 9) (n := 68) (s := 106) dX2_init_7 rfl (by decide) (by decide) (by decide) rfl (by decide) ?_
  refine sr_putR (pc' := 12) (ci := 2) (j := 0) (n := 69) (s := 105) dX2_init_9 rfl rfl rfl (by decide) rfl rfl rfl rfl ?_
  refine mr_aload_n (pc' := 13) dX2_init_12 rfl rfl ?_
  refine mr_bipush (pc' := 15) (v := (12 : Int32)) dX2_init_13 rfl (by decide) ?_
  refine sr_na (pc' := 17) (n := 69) (s := 105) dX2_init_15 rfl (by decide) (by decide) (by decide) rfl (by decide) ?_
  refine sr_putR (pc' := 20) (ci := 2) (j := 1) (n := 70) (s := 104) dX2_init_17 rfl rfl rfl (by decide) rfl rfl rfl rfl ?_
  refine mr_aload_n (pc' := 21) dX2_init_20 rfl rfl ?_
  refine mr_bipush (pc' := 23) (v := (12 : Int32)) dX2_init_21 rfl (by decide) ?_
  refine sr_na (pc' := 25) (n := 70) (s := 104) dX2_init_23 rfl (by decide) (by decide) (by decide) rfl (by decide) ?_
  refine sr_putR (pc' := 28) (ci := 2) (j := 2) (n := 71) (s := 103) dX2_init_25 rfl rfl rfl (by decide) rfl rfl rfl rfl ?_
  refine mr_aload_n (pc' := 29) dX2_init_28 rfl rfl ?_
  refine mr_bipush (pc' := 31) (v := (12 : Int32)) dX2_init_29 rfl (by decide) ?_
  refine sr_na (pc' := 33) (n := 71) (s := 103) dX2_init_31 rfl (by decide) (by decide) (by decide) rfl (by decide) ?_
  refine sr_putR (pc' := 36) (ci := 2) (j := 3) (n := 72) (s := 102) dX2_init_33 rfl rfl rfl (by decide) rfl rfl rfl rfl ?_
  refine mr_aload_n (pc' := 37) dX2_init_36 rfl rfl ?_
  refine mr_iconst (pc' := 38) (v := (0 : Int32)) dX2_init_37 rfl (by decide) ?_
  refine sr_putI (pc' := 41) (ci := 2) (j := 4) (n := 72) (s := 102) dX2_init_38 rfl rfl rfl (by decide) rfl rfl rfl ?_
  exact mr_return dX2_init_41 rfl
set_option maxRecDepth 100000 in
theorem ct_X6_init_53 : mr X 1 mY_X6_init 0 (lv_args 0 [.ref 53]) [] (sM 54 119) (none, sM 72 101) := by
  show mr X _ _ 0 [(0, .ref 53)] [] _ _
  refine mr_aload_n (pc' := 1) dX6_init_0 rfl rfl ?_
  refine sr_obj (pc' := 4) dX6_init_1 rfl rfl (by decide) ?_
  refine mr_aload_n (pc' := 5) dX6_init_4 rfl rfl ?_
  refine sr_new (pc' := 8) (c := 8) (n := 54) (s := 119) dX6_init_5 rfl rfl rfl (by decide) ?_
  refine mr_dup_ref (pc' := 9) dX6_init_8 rfl ?_
  refine mr_callg (d1 := 0) (Y' := mY_X8_init) (as := [.ref 54]) (rest := [.ref 54, .ref 53]) (mm_nd_uq rfl) dX6_init_9 rfl rfl (by decide) ct_X8_init_54 ?_
  show mr X _ _ 12 _ [.ref 54, .ref 53] (sM 61 113) _
  refine sr_putR (pc' := 15) (ci := 6) (j := 0) (n := 61) (s := 112) dX6_init_12 rfl rfl rfl (by decide) rfl rfl rfl rfl ?_
  refine mr_aload_n (pc' := 16) dX6_init_15 rfl rfl ?_
  refine sr_new (pc' := 19) (c := 0) (n := 61) (s := 112) dX6_init_16 rfl rfl rfl (by decide) ?_
  refine mr_dup_ref (pc' := 20) dX6_init_19 rfl ?_
  refine mr_callg (d1 := 0) (Y' := mY_X0_init) (as := [.ref 61]) (rest := [.ref 61, .ref 53]) (mm_nd_uq rfl) dX6_init_20 rfl rfl (by decide) ct_X0_init_61 ?_
  show mr X _ _ 23 _ [.ref 61, .ref 53] (sM 67 107) _
  refine sr_putR (pc' := 26) (ci := 6) (j := 1) (n := 67) (s := 106) dX6_init_23 rfl rfl rfl (by decide) rfl rfl rfl rfl ?_
  refine mr_aload_n (pc' := 27) dX6_init_26 rfl rfl ?_
  refine sr_new (pc' := 30) (c := 2) (n := 67) (s := 106) dX6_init_27 rfl rfl rfl (by decide) ?_
  refine mr_dup_ref (pc' := 31) dX6_init_30 rfl ?_
  refine mr_callg (d1 := 0) (Y' := mY_X2_init) (as := [.ref 67]) (rest := [.ref 67, .ref 53]) (mm_nd_uq rfl) dX6_init_31 rfl rfl (by decide) ct_X2_init_67 ?_
  show mr X _ _ 34 _ [.ref 67, .ref 53] (sM 72 102) _
  refine sr_putR (pc' := 37) (ci := 6) (j := 2) (n := 72) (s := 101) dX6_init_34 rfl rfl rfl (by decide) rfl rfl rfl rfl ?_
  refine mr_aload_n (pc' := 38) dX6_init_37 rfl rfl ?_
  refine mr_iconst (pc' := 39) (v := (0 : Int32)) dX6_init_38 rfl (by decide) ?_
  refine sr_putI (pc' := 42) (ci := 6) (j := 3) (n := 72) (s := 101) dX6_init_39 rfl rfl rfl (by decide) rfl rfl rfl ?_
  refine mr_aload_n (pc' := 43) dX6_init_42 rfl rfl ?_
  refine mr_iconst (pc' := 44) (v := (0 : Int32)) dX6_init_43 rfl (by decide) ?_
  refine sr_putZ (pc' := 47) (ci := 6) (j := 4) (n := 72) (s := 101) dX6_init_44 rfl rfl rfl (by decide) rfl rfl rfl ?_
  exact mr_return dX6_init_47 rfl
set_option maxRecDepth 100000 in
theorem ct_X8_init_73 : mr X 0 mY_X8_init 0 (lv_args 0 [.ref 73]) [] (sM 74 100) (none, sM 80 94) := by
  show mr X _ _ 0 [(0, .ref 73)] [] _ _
  refine mr_aload_n (pc' := 1) dX8_init_0 rfl rfl ?_
  refine sr_obj (pc' := 4) dX8_init_1 rfl rfl (by decide) ?_
  refine mr_aload_n (pc' := 5) dX8_init_4 rfl rfl ?_
  refine mr_bipush (pc' := 7) (v := (10 : Int32)) dX8_init_5 rfl (by decide) ?_
  refine sr_na (pc' := 9) (n := 74) (s := 100) dX8_init_7 rfl (by decide) (by decide) (by decide) rfl (by decide) ?_
  refine sr_putR (pc' := 12) (ci := 8) (j := 0) (n := 75) (s := 99) dX8_init_9 rfl rfl rfl (by decide) rfl rfl rfl rfl ?_
  refine mr_aload_n (pc' := 13) dX8_init_12 rfl rfl ?_
  refine mr_bipush (pc' := 15) (v := (12 : Int32)) dX8_init_13 rfl (by decide) ?_
  refine sr_na (pc' := 17) (n := 75) (s := 99) dX8_init_15 rfl (by decide) (by decide) (by decide) rfl (by decide) ?_
  refine sr_putR (pc' := 20) (ci := 8) (j := 1) (n := 76) (s := 98) dX8_init_17 rfl rfl rfl (by decide) rfl rfl rfl rfl ?_
  refine mr_aload_n (pc' := 21) dX8_init_20 rfl rfl ?_
  refine mr_bipush (pc' := 23) (v := (12 : Int32)) dX8_init_21 rfl (by decide) ?_
  refine sr_na (pc' := 25) (n := 76) (s := 98) dX8_init_23 rfl (by decide) (by decide) (by decide) rfl (by decide) ?_
  refine sr_putR (pc' := 28) (ci := 8) (j := 2) (n := 77) (s := 97) dX8_init_25 rfl rfl rfl (by decide) rfl rfl rfl rfl ?_
  refine mr_aload_n (pc' := 29) dX8_init_28 rfl rfl ?_
  refine mr_bipush (pc' := 31) (v := (12 : Int32)) dX8_init_29 rfl (by decide) ?_
  refine sr_na (pc' := 33) (n := 77) (s := 97) dX8_init_31 rfl (by decide) (by decide) (by decide) rfl (by decide) ?_
  refine sr_putR (pc' := 36) (ci := 8) (j := 3) (n := 78) (s := 96) dX8_init_33 rfl rfl rfl (by decide) rfl rfl rfl rfl ?_
  refine mr_aload_n (pc' := 37) dX8_init_36 rfl rfl ?_
  refine mr_bipush (pc' := 39) (v := (12 : Int32)) dX8_init_37 rfl (by decide) ?_
  refine sr_na (pc' := 41) (n := 78) (s := 96) dX8_init_39 rfl (by decide) (by decide) (by decide) rfl (by decide) ?_
  refine sr_putR (pc' := 44) (ci := 8) (j := 4) (n := 79) (s := 95) dX8_init_41 rfl rfl rfl (by decide) rfl rfl rfl rfl ?_
  refine mr_aload_n (pc' := 45) dX8_init_44 rfl rfl ?_
  refine mr_bipush (pc' := 47) (v := (100 : Int32)) dX8_init_45 rfl (by decide) ?_
  refine sr_na (pc' := 49) (n := 79) (s := 95) dX8_init_47 rfl (by decide) (by decide) (by decide) rfl (by decide) ?_
  refine sr_putR (pc' := 52) (ci := 8) (j := 5) (n := 80) (s := 94) dX8_init_49 rfl rfl rfl (by decide) rfl rfl rfl rfl ?_
  refine mr_aload_n (pc' := 53) dX8_init_52 rfl rfl ?_
  refine mr_iconst (pc' := 54) (v := (0 : Int32)) dX8_init_53 rfl (by decide) ?_
  refine sr_putI (pc' := 57) (ci := 8) (j := 6) (n := 80) (s := 94) dX8_init_54 rfl rfl rfl (by decide) rfl rfl rfl ?_
  refine mr_aload_n (pc' := 58) dX8_init_57 rfl rfl ?_
  refine mr_iconst (pc' := 59) (v := (0 : Int32)) dX8_init_58 rfl (by decide) ?_
  refine sr_putI (pc' := 62) (ci := 8) (j := 7) (n := 80) (s := 94) dX8_init_59 rfl rfl rfl (by decide) rfl rfl rfl ?_
  exact mr_return dX8_init_62 rfl
set_option maxRecDepth 100000 in
theorem ct_X0_init_80 : mr X 0 mY_X0_init 0 (lv_args 0 [.ref 80]) [] (sM 81 93) (none, sM 86 88) := by
  show mr X _ _ 0 [(0, .ref 80)] [] _ _
  refine mr_aload_n (pc' := 1) dX0_init_0 rfl rfl ?_
  refine sr_obj (pc' := 4) dX0_init_1 rfl rfl (by decide) ?_
  refine mr_aload_n (pc' := 5) dX0_init_4 rfl rfl ?_
  refine mr_bipush (pc' := 7) (v := (8 : Int32)) dX0_init_5 rfl (by decide) ?_
  refine sr_na (pc' := 9) (n := 81) (s := 93) dX0_init_7 rfl (by decide) (by decide) (by decide) rfl (by decide) ?_
  refine sr_putR (pc' := 12) (ci := 0) (j := 0) (n := 82) (s := 92) dX0_init_9 rfl rfl rfl (by decide) rfl rfl rfl rfl ?_
  refine mr_aload_n (pc' := 13) dX0_init_12 rfl rfl ?_
  refine mr_bipush (pc' := 15) (v := (8 : Int32)) dX0_init_13 rfl (by decide) ?_
  refine sr_na (pc' := 17) (n := 82) (s := 92) dX0_init_15 rfl (by decide) (by decide) (by decide) rfl (by decide) ?_
  refine sr_putR (pc' := 20) (ci := 0) (j := 1) (n := 83) (s := 91) dX0_init_17 rfl rfl rfl (by decide) rfl rfl rfl rfl ?_
  refine mr_aload_n (pc' := 21) dX0_init_20 rfl rfl ?_
  refine mr_bipush (pc' := 23) (v := (8 : Int32)) dX0_init_21 rfl (by decide) ?_
  refine sr_na (pc' := 25) (n := 83) (s := 91) dX0_init_23 rfl (by decide) (by decide) (by decide) rfl (by decide) ?_
  refine sr_putR (pc' := 28) (ci := 0) (j := 2) (n := 84) (s := 90) dX0_init_25 rfl rfl rfl (by decide) rfl rfl rfl rfl ?_
  refine mr_aload_n (pc' := 29) dX0_init_28 rfl rfl ?_
  refine mr_bipush (pc' := 31) (v := (8 : Int32)) dX0_init_29 rfl (by decide) ?_
  refine sr_na (pc' := 33) (n := 84) (s := 90) dX0_init_31 rfl (by decide) (by decide) (by decide) rfl (by decide) ?_
  refine sr_putR (pc' := 36) (ci := 0) (j := 3) (n := 85) (s := 89) dX0_init_33 rfl rfl rfl (by decide) rfl rfl rfl rfl ?_
  refine mr_aload_n (pc' := 37) dX0_init_36 rfl rfl ?_
  refine mr_bipush (pc' := 39) (v := (8 : Int32)) dX0_init_37 rfl (by decide) ?_
  refine sr_na (pc' := 41) (n := 85) (s := 89) dX0_init_39 rfl (by decide) (by decide) (by decide) rfl (by decide) ?_
  refine sr_putR (pc' := 44) (ci := 0) (j := 4) (n := 86) (s := 88) dX0_init_41 rfl rfl rfl (by decide) rfl rfl rfl rfl ?_
  refine mr_aload_n (pc' := 45) dX0_init_44 rfl rfl ?_
  refine mr_iconst (pc' := 46) (v := (0 : Int32)) dX0_init_45 rfl (by decide) ?_
  refine sr_putI (pc' := 49) (ci := 0) (j := 5) (n := 86) (s := 88) dX0_init_46 rfl rfl rfl (by decide) rfl rfl rfl ?_
  refine mr_aload_n (pc' := 50) dX0_init_49 rfl rfl ?_
  refine mr_iconst (pc' := 51) (v := (0 : Int32)) dX0_init_50 rfl (by decide) ?_
  refine sr_putI (pc' := 54) (ci := 0) (j := 6) (n := 86) (s := 88) dX0_init_51 rfl rfl rfl (by decide) rfl rfl rfl ?_
  exact mr_return dX0_init_54 rfl
set_option maxRecDepth 100000 in
theorem ct_X2_init_86 : mr X 0 mY_X2_init 0 (lv_args 0 [.ref 86]) [] (sM 87 87) (none, sM 91 83) := by
  show mr X _ _ 0 [(0, .ref 86)] [] _ _
  refine mr_aload_n (pc' := 1) dX2_init_0 rfl rfl ?_
  refine sr_obj (pc' := 4) dX2_init_1 rfl rfl (by decide) ?_
  refine mr_aload_n (pc' := 5) dX2_init_4 rfl rfl ?_
  refine mr_bipush (pc' := 7) (v := (12 : Int32)) dX2_init_5 rfl (by decide) ?_
  refine sr_na (pc' := 9) (n := 87) (s := 87) dX2_init_7 rfl (by decide) (by decide) (by decide) rfl (by decide) ?_
  refine sr_putR (pc' := 12) (ci := 2) (j := 0) (n := 88) (s := 86) dX2_init_9 rfl rfl rfl (by decide) rfl rfl rfl rfl ?_
  refine mr_aload_n (pc' := 13) dX2_init_12 rfl rfl ?_
  refine mr_bipush (pc' := 15) (v := (12 : Int32)) dX2_init_13 rfl (by decide) ?_
  refine sr_na (pc' := 17) (n := 88) (s := 86) dX2_init_15 rfl (by decide) (by decide) (by decide) rfl (by decide) ?_
  refine sr_putR (pc' := 20) (ci := 2) (j := 1) (n := 89) (s := 85) dX2_init_17 rfl rfl rfl (by decide) rfl rfl rfl rfl ?_
  refine mr_aload_n (pc' := 21) dX2_init_20 rfl rfl ?_
  refine mr_bipush (pc' := 23) (v := (12 : Int32)) dX2_init_21 rfl (by decide) ?_
  refine sr_na (pc' := 25) (n := 89) (s := 85) dX2_init_23 rfl (by decide) (by decide) (by decide) rfl (by decide) ?_
  refine sr_putR (pc' := 28) (ci := 2) (j := 2) (n := 90) (s := 84) dX2_init_25 rfl rfl rfl (by decide) rfl rfl rfl rfl ?_
  refine mr_aload_n (pc' := 29) dX2_init_28 rfl rfl ?_
  refine mr_bipush (pc' := 31) (v := (12 : Int32)) dX2_init_29 rfl (by decide) ?_
  refine sr_na (pc' := 33) (n := 90) (s := 84) dX2_init_31 rfl (by decide) (by decide) (by decide) rfl (by decide) ?_
  refine sr_putR (pc' := 36) (ci := 2) (j := 3) (n := 91) (s := 83) dX2_init_33 rfl rfl rfl (by decide) rfl rfl rfl rfl ?_
  refine mr_aload_n (pc' := 37) dX2_init_36 rfl rfl ?_
  refine mr_iconst (pc' := 38) (v := (0 : Int32)) dX2_init_37 rfl (by decide) ?_
  refine sr_putI (pc' := 41) (ci := 2) (j := 4) (n := 91) (s := 83) dX2_init_38 rfl rfl rfl (by decide) rfl rfl rfl ?_
  exact mr_return dX2_init_41 rfl
set_option maxRecDepth 100000 in
theorem ct_X6_init_72 : mr X 1 mY_X6_init 0 (lv_args 0 [.ref 72]) [] (sM 73 100) (none, sM 91 82) := by
  show mr X _ _ 0 [(0, .ref 72)] [] _ _
  refine mr_aload_n (pc' := 1) dX6_init_0 rfl rfl ?_
  refine sr_obj (pc' := 4) dX6_init_1 rfl rfl (by decide) ?_
  refine mr_aload_n (pc' := 5) dX6_init_4 rfl rfl ?_
  refine sr_new (pc' := 8) (c := 8) (n := 73) (s := 100) dX6_init_5 rfl rfl rfl (by decide) ?_
  refine mr_dup_ref (pc' := 9) dX6_init_8 rfl ?_
  refine mr_callg (d1 := 0) (Y' := mY_X8_init) (as := [.ref 73]) (rest := [.ref 73, .ref 72]) (mm_nd_uq rfl) dX6_init_9 rfl rfl (by decide) ct_X8_init_73 ?_
  show mr X _ _ 12 _ [.ref 73, .ref 72] (sM 80 94) _
  refine sr_putR (pc' := 15) (ci := 6) (j := 0) (n := 80) (s := 93) dX6_init_12 rfl rfl rfl (by decide) rfl rfl rfl rfl ?_
  refine mr_aload_n (pc' := 16) dX6_init_15 rfl rfl ?_
  refine sr_new (pc' := 19) (c := 0) (n := 80) (s := 93) dX6_init_16 rfl rfl rfl (by decide) ?_
  refine mr_dup_ref (pc' := 20) dX6_init_19 rfl ?_
  refine mr_callg (d1 := 0) (Y' := mY_X0_init) (as := [.ref 80]) (rest := [.ref 80, .ref 72]) (mm_nd_uq rfl) dX6_init_20 rfl rfl (by decide) ct_X0_init_80 ?_
  show mr X _ _ 23 _ [.ref 80, .ref 72] (sM 86 88) _
  refine sr_putR (pc' := 26) (ci := 6) (j := 1) (n := 86) (s := 87) dX6_init_23 rfl rfl rfl (by decide) rfl rfl rfl rfl ?_
  refine mr_aload_n (pc' := 27) dX6_init_26 rfl rfl ?_
  refine sr_new (pc' := 30) (c := 2) (n := 86) (s := 87) dX6_init_27 rfl rfl rfl (by decide) ?_
  refine mr_dup_ref (pc' := 31) dX6_init_30 rfl ?_
  refine mr_callg (d1 := 0) (Y' := mY_X2_init) (as := [.ref 86]) (rest := [.ref 86, .ref 72]) (mm_nd_uq rfl) dX6_init_31 rfl rfl (by decide) ct_X2_init_86 ?_
  show mr X _ _ 34 _ [.ref 86, .ref 72] (sM 91 83) _
  refine sr_putR (pc' := 37) (ci := 6) (j := 2) (n := 91) (s := 82) dX6_init_34 rfl rfl rfl (by decide) rfl rfl rfl rfl ?_
  refine mr_aload_n (pc' := 38) dX6_init_37 rfl rfl ?_
  refine mr_iconst (pc' := 39) (v := (0 : Int32)) dX6_init_38 rfl (by decide) ?_
  refine sr_putI (pc' := 42) (ci := 6) (j := 3) (n := 91) (s := 82) dX6_init_39 rfl rfl rfl (by decide) rfl rfl rfl ?_
  refine mr_aload_n (pc' := 43) dX6_init_42 rfl rfl ?_
  refine mr_iconst (pc' := 44) (v := (0 : Int32)) dX6_init_43 rfl (by decide) ?_
  refine sr_putZ (pc' := 47) (ci := 6) (j := 4) (n := 91) (s := 82) dX6_init_44 rfl rfl rfl (by decide) rfl rfl rfl ?_
  exact mr_return dX6_init_47 rfl
set_option maxRecDepth 100000 in
theorem ct_X8_init_92 : mr X 0 mY_X8_init 0 (lv_args 0 [.ref 92]) [] (sM 93 81) (none, sM 99 75) := by
  show mr X _ _ 0 [(0, .ref 92)] [] _ _
  refine mr_aload_n (pc' := 1) dX8_init_0 rfl rfl ?_
  refine sr_obj (pc' := 4) dX8_init_1 rfl rfl (by decide) ?_
  refine mr_aload_n (pc' := 5) dX8_init_4 rfl rfl ?_
  refine mr_bipush (pc' := 7) (v := (10 : Int32)) dX8_init_5 rfl (by decide) ?_
  refine sr_na (pc' := 9) (n := 93) (s := 81) dX8_init_7 rfl (by decide) (by decide) (by decide) rfl (by decide) ?_
  refine sr_putR (pc' := 12) (ci := 8) (j := 0) (n := 94) (s := 80) dX8_init_9 rfl rfl rfl (by decide) rfl rfl rfl rfl ?_
  refine mr_aload_n (pc' := 13) dX8_init_12 rfl rfl ?_
  refine mr_bipush (pc' := 15) (v := (12 : Int32)) dX8_init_13 rfl (by decide) ?_
  refine sr_na (pc' := 17) (n := 94) (s := 80) dX8_init_15 rfl (by decide) (by decide) (by decide) rfl (by decide) ?_
  refine sr_putR (pc' := 20) (ci := 8) (j := 1) (n := 95) (s := 79) dX8_init_17 rfl rfl rfl (by decide) rfl rfl rfl rfl ?_
  refine mr_aload_n (pc' := 21) dX8_init_20 rfl rfl ?_
  refine mr_bipush (pc' := 23) (v := (12 : Int32)) dX8_init_21 rfl (by decide) ?_
  refine sr_na (pc' := 25) (n := 95) (s := 79) dX8_init_23 rfl (by decide) (by decide) (by decide) rfl (by decide) ?_
  refine sr_putR (pc' := 28) (ci := 8) (j := 2) (n := 96) (s := 78) dX8_init_25 rfl rfl rfl (by decide) rfl rfl rfl rfl ?_
  refine mr_aload_n (pc' := 29) dX8_init_28 rfl rfl ?_
  refine mr_bipush (pc' := 31) (v := (12 : Int32)) dX8_init_29 rfl (by decide) ?_
  refine sr_na (pc' := 33) (n := 96) (s := 78) dX8_init_31 rfl (by decide) (by decide) (by decide) rfl (by decide) ?_
  refine sr_putR (pc' := 36) (ci := 8) (j := 3) (n := 97) (s := 77) dX8_init_33 rfl rfl rfl (by decide) rfl rfl rfl rfl ?_
  refine mr_aload_n (pc' := 37) dX8_init_36 rfl rfl ?_
  refine mr_bipush (pc' := 39) (v := (12 : Int32)) dX8_init_37 rfl (by decide) ?_
  refine sr_na (pc' := 41) (n := 97) (s := 77) dX8_init_39 rfl (by decide) (by decide) (by decide) rfl (by decide) ?_
  refine sr_putR (pc' := 44) (ci := 8) (j := 4) (n := 98) (s := 76) dX8_init_41 rfl rfl rfl (by decide) rfl rfl rfl rfl ?_
  refine mr_aload_n (pc' := 45) dX8_init_44 rfl rfl ?_
  refine mr_bipush (pc' := 47) (v := (100 : Int32)) dX8_init_45 rfl (by decide) ?_
  refine sr_na (pc' := 49) (n := 98) (s := 76) dX8_init_47 rfl (by decide) (by decide) (by decide) rfl (by decide) ?_
  refine sr_putR (pc' := 52) (ci := 8) (j := 5) (n := 99) (s := 75) dX8_init_49 rfl rfl rfl (by decide) rfl rfl rfl rfl ?_
  refine mr_aload_n (pc' := 53) dX8_init_52 rfl rfl ?_
  refine mr_iconst (pc' := 54) (v := (0 : Int32)) dX8_init_53 rfl (by decide) ?_
  refine sr_putI (pc' := 57) (ci := 8) (j := 6) (n := 99) (s := 75) dX8_init_54 rfl rfl rfl (by decide) rfl rfl rfl ?_
  refine mr_aload_n (pc' := 58) dX8_init_57 rfl rfl ?_
  refine mr_iconst (pc' := 59) (v := (0 : Int32)) dX8_init_58 rfl (by decide) ?_
  refine sr_putI (pc' := 62) (ci := 8) (j := 7) (n := 99) (s := 75) dX8_init_59 rfl rfl rfl (by decide) rfl rfl rfl ?_
  exact mr_return dX8_init_62 rfl
set_option maxRecDepth 100000 in
theorem ct_X0_init_99 : mr X 0 mY_X0_init 0 (lv_args 0 [.ref 99]) [] (sM 100 74) (none, sM 105 69) := by
  show mr X _ _ 0 [(0, .ref 99)] [] _ _
  refine mr_aload_n (pc' := 1) dX0_init_0 rfl rfl ?_
  refine sr_obj (pc' := 4) dX0_init_1 rfl rfl (by decide) ?_
  refine mr_aload_n (pc' := 5) dX0_init_4 rfl rfl ?_
  refine mr_bipush (pc' := 7) (v := (8 : Int32)) dX0_init_5 rfl (by decide) ?_
  refine sr_na (pc' := 9) (n := 100) (s := 74) dX0_init_7 rfl (by decide) (by decide) (by decide) rfl (by decide) ?_
  refine sr_putR (pc' := 12) (ci := 0) (j := 0) (n := 101) (s := 73) dX0_init_9 rfl rfl rfl (by decide) rfl rfl rfl rfl ?_
  refine mr_aload_n (pc' := 13) dX0_init_12 rfl rfl ?_
  refine mr_bipush (pc' := 15) (v := (8 : Int32)) dX0_init_13 rfl (by decide) ?_
  refine sr_na (pc' := 17) (n := 101) (s := 73) dX0_init_15 rfl (by decide) (by decide) (by decide) rfl (by decide) ?_
  refine sr_putR (pc' := 20) (ci := 0) (j := 1) (n := 102) (s := 72) dX0_init_17 rfl rfl rfl (by decide) rfl rfl rfl rfl ?_
  refine mr_aload_n (pc' := 21) dX0_init_20 rfl rfl ?_
  refine mr_bipush (pc' := 23) (v := (8 : Int32)) dX0_init_21 rfl (by decide) ?_
  refine sr_na (pc' := 25) (n := 102) (s := 72) dX0_init_23 rfl (by decide) (by decide) (by decide) rfl (by decide) ?_
  refine sr_putR (pc' := 28) (ci := 0) (j := 2) (n := 103) (s := 71) dX0_init_25 rfl rfl rfl (by decide) rfl rfl rfl rfl ?_
  refine mr_aload_n (pc' := 29) dX0_init_28 rfl rfl ?_
  refine mr_bipush (pc' := 31) (v := (8 : Int32)) dX0_init_29 rfl (by decide) ?_
  refine sr_na (pc' := 33) (n := 103) (s := 71) dX0_init_31 rfl (by decide) (by decide) (by decide) rfl (by decide) ?_
  refine sr_putR (pc' := 36) (ci := 0) (j := 3) (n := 104) (s := 70) dX0_init_33 rfl rfl rfl (by decide) rfl rfl rfl rfl ?_
  refine mr_aload_n (pc' := 37) dX0_init_36 rfl rfl ?_
  refine mr_bipush (pc' := 39) (v := (8 : Int32)) dX0_init_37 rfl (by decide) ?_
  refine sr_na (pc' := 41) (n := 104) (s := 70) dX0_init_39 rfl (by decide) (by decide) (by decide) rfl (by decide) ?_
  refine sr_putR (pc' := 44) (ci := 0) (j := 4) (n := 105) (s := 69) dX0_init_41 rfl rfl rfl (by decide) rfl rfl rfl rfl ?_
  refine mr_aload_n (pc' := 45) dX0_init_44 rfl rfl ?_
  refine mr_iconst (pc' := 46) (v := (0 : Int32)) dX0_init_45 rfl (by decide) ?_
  refine sr_putI (pc' := 49) (ci := 0) (j := 5) (n := 105) (s := 69) dX0_init_46 rfl rfl rfl (by decide) rfl rfl rfl ?_
  refine mr_aload_n (pc' := 50) dX0_init_49 rfl rfl ?_
  refine mr_iconst (pc' := 51) (v := (0 : Int32)) dX0_init_50 rfl (by decide) ?_
  refine sr_putI (pc' := 54) (ci := 0) (j := 6) (n := 105) (s := 69) dX0_init_51 rfl rfl rfl (by decide) rfl rfl rfl ?_
  exact mr_return dX0_init_54 rfl
set_option maxRecDepth 100000 in
theorem ct_X2_init_105 : mr X 0 mY_X2_init 0 (lv_args 0 [.ref 105]) [] (sM 106 68) (none, sM 110 64) := by
  show mr X _ _ 0 [(0, .ref 105)] [] _ _
  refine mr_aload_n (pc' := 1) dX2_init_0 rfl rfl ?_
  refine sr_obj (pc' := 4) dX2_init_1 rfl rfl (by decide) ?_
  refine mr_aload_n (pc' := 5) dX2_init_4 rfl rfl ?_
  refine mr_bipush (pc' := 7) (v := (12 : Int32)) dX2_init_5 rfl (by decide) ?_
  refine sr_na (pc' := 9) (n := 106) (s := 68) dX2_init_7 rfl (by decide) (by decide) (by decide) rfl (by decide) ?_
  refine sr_putR (pc' := 12) (ci := 2) (j := 0) (n := 107) (s := 67) dX2_init_9 rfl rfl rfl (by decide) rfl rfl rfl rfl ?_
  refine mr_aload_n (pc' := 13) dX2_init_12 rfl rfl ?_
  refine mr_bipush (pc' := 15) (v := (12 : Int32)) dX2_init_13 rfl (by decide) ?_
  refine sr_na (pc' := 17) (n := 107) (s := 67) dX2_init_15 rfl (by decide) (by decide) (by decide) rfl (by decide) ?_
  refine sr_putR (pc' := 20) (ci := 2) (j := 1) (n := 108) (s := 66) dX2_init_17 rfl rfl rfl (by decide) rfl rfl rfl rfl ?_
  refine mr_aload_n (pc' := 21) dX2_init_20 rfl rfl ?_
  refine mr_bipush (pc' := 23) (v := (12 : Int32)) dX2_init_21 rfl (by decide) ?_
  refine sr_na (pc' := 25) (n := 108) (s := 66) dX2_init_23 rfl (by decide) (by decide) (by decide) rfl (by decide) ?_
  refine sr_putR (pc' := 28) (ci := 2) (j := 2) (n := 109) (s := 65) dX2_init_25 rfl rfl rfl (by decide) rfl rfl rfl rfl ?_
  refine mr_aload_n (pc' := 29) dX2_init_28 rfl rfl ?_
  refine mr_bipush (pc' := 31) (v := (12 : Int32)) dX2_init_29 rfl (by decide) ?_
  refine sr_na (pc' := 33) (n := 109) (s := 65) dX2_init_31 rfl (by decide) (by decide) (by decide) rfl (by decide) ?_
  refine sr_putR (pc' := 36) (ci := 2) (j := 3) (n := 110) (s := 64) dX2_init_33 rfl rfl rfl (by decide) rfl rfl rfl rfl ?_
  refine mr_aload_n (pc' := 37) dX2_init_36 rfl rfl ?_
  refine mr_iconst (pc' := 38) (v := (0 : Int32)) dX2_init_37 rfl (by decide) ?_
  refine sr_putI (pc' := 41) (ci := 2) (j := 4) (n := 110) (s := 64) dX2_init_38 rfl rfl rfl (by decide) rfl rfl rfl ?_
  exact mr_return dX2_init_41 rfl
set_option maxRecDepth 100000 in
theorem ct_X6_init_91 : mr X 1 mY_X6_init 0 (lv_args 0 [.ref 91]) [] (sM 92 81) (none, sM 110 63) := by
  show mr X _ _ 0 [(0, .ref 91)] [] _ _
  refine mr_aload_n (pc' := 1) dX6_init_0 rfl rfl ?_
  refine sr_obj (pc' := 4) dX6_init_1 rfl rfl (by decide) ?_
  refine mr_aload_n (pc' := 5) dX6_init_4 rfl rfl ?_
  refine sr_new (pc' := 8) (c := 8) (n := 92) (s := 81) dX6_init_5 rfl rfl rfl (by decide) ?_
  refine mr_dup_ref (pc' := 9) dX6_init_8 rfl ?_
  refine mr_callg (d1 := 0) (Y' := mY_X8_init) (as := [.ref 92]) (rest := [.ref 92, .ref 91]) (mm_nd_uq rfl) dX6_init_9 rfl rfl (by decide) ct_X8_init_92 ?_
  show mr X _ _ 12 _ [.ref 92, .ref 91] (sM 99 75) _
  refine sr_putR (pc' := 15) (ci := 6) (j := 0) (n := 99) (s := 74) dX6_init_12 rfl rfl rfl (by decide) rfl rfl rfl rfl ?_
  refine mr_aload_n (pc' := 16) dX6_init_15 rfl rfl ?_
  refine sr_new (pc' := 19) (c := 0) (n := 99) (s := 74) dX6_init_16 rfl rfl rfl (by decide) ?_
  refine mr_dup_ref (pc' := 20) dX6_init_19 rfl ?_
  refine mr_callg (d1 := 0) (Y' := mY_X0_init) (as := [.ref 99]) (rest := [.ref 99, .ref 91]) (mm_nd_uq rfl) dX6_init_20 rfl rfl (by decide) ct_X0_init_99 ?_
  show mr X _ _ 23 _ [.ref 99, .ref 91] (sM 105 69) _
  refine sr_putR (pc' := 26) (ci := 6) (j := 1) (n := 105) (s := 68) dX6_init_23 rfl rfl rfl (by decide) rfl rfl rfl rfl ?_
  refine mr_aload_n (pc' := 27) dX6_init_26 rfl rfl ?_
  refine sr_new (pc' := 30) (c := 2) (n := 105) (s := 68) dX6_init_27 rfl rfl rfl (by decide) ?_
  refine mr_dup_ref (pc' := 31) dX6_init_30 rfl ?_
  refine mr_callg (d1 := 0) (Y' := mY_X2_init) (as := [.ref 105]) (rest := [.ref 105, .ref 91]) (mm_nd_uq rfl) dX6_init_31 rfl rfl (by decide) ct_X2_init_105 ?_
  show mr X _ _ 34 _ [.ref 105, .ref 91] (sM 110 64) _
  refine sr_putR (pc' := 37) (ci := 6) (j := 2) (n := 110) (s := 63) dX6_init_34 rfl rfl rfl (by decide) rfl rfl rfl rfl ?_
  refine mr_aload_n (pc' := 38) dX6_init_37 rfl rfl ?_
  refine mr_iconst (pc' := 39) (v := (0 : Int32)) dX6_init_38 rfl (by decide) ?_
  refine sr_putI (pc' := 42) (ci := 6) (j := 3) (n := 110) (s := 63) dX6_init_39 rfl rfl rfl (by decide) rfl rfl rfl ?_
  refine mr_aload_n (pc' := 43) dX6_init_42 rfl rfl ?_
  refine mr_iconst (pc' := 44) (v := (0 : Int32)) dX6_init_43 rfl (by decide) ?_
  refine sr_putZ (pc' := 47) (ci := 6) (j := 4) (n := 110) (s := 63) dX6_init_44 rfl rfl rfl (by decide) rfl rfl rfl ?_
  exact mr_return dX6_init_47 rfl
set_option maxRecDepth 100000 in
theorem ct_X8_init_111 : mr X 0 mY_X8_init 0 (lv_args 0 [.ref 111]) [] (sM 112 62) (none, sM 118 56) := by
  show mr X _ _ 0 [(0, .ref 111)] [] _ _
  refine mr_aload_n (pc' := 1) dX8_init_0 rfl rfl ?_
  refine sr_obj (pc' := 4) dX8_init_1 rfl rfl (by decide) ?_
  refine mr_aload_n (pc' := 5) dX8_init_4 rfl rfl ?_
  refine mr_bipush (pc' := 7) (v := (10 : Int32)) dX8_init_5 rfl (by decide) ?_
  refine sr_na (pc' := 9) (n := 112) (s := 62) dX8_init_7 rfl (by decide) (by decide) (by decide) rfl (by decide) ?_
  refine sr_putR (pc' := 12) (ci := 8) (j := 0) (n := 113) (s := 61) dX8_init_9 rfl rfl rfl (by decide) rfl rfl rfl rfl ?_
  refine mr_aload_n (pc' := 13) dX8_init_12 rfl rfl ?_
  refine mr_bipush (pc' := 15) (v := (12 : Int32)) dX8_init_13 rfl (by decide) ?_
  refine sr_na (pc' := 17) (n := 113) (s := 61) dX8_init_15 rfl (by decide) (by decide) (by decide) rfl (by decide) ?_
  refine sr_putR (pc' := 20) (ci := 8) (j := 1) (n := 114) (s := 60) dX8_init_17 rfl rfl rfl (by decide) rfl rfl rfl rfl ?_
  refine mr_aload_n (pc' := 21) dX8_init_20 rfl rfl ?_
  refine mr_bipush (pc' := 23) (v := (12 : Int32)) dX8_init_21 rfl (by decide) ?_
  refine sr_na (pc' := 25) (n := 114) (s := 60) dX8_init_23 rfl (by decide) (by decide) (by decide) rfl (by decide) ?_
  refine sr_putR (pc' := 28) (ci := 8) (j := 2) (n := 115) (s := 59) dX8_init_25 rfl rfl rfl (by decide) rfl rfl rfl rfl ?_
  refine mr_aload_n (pc' := 29) dX8_init_28 rfl rfl ?_
  refine mr_bipush (pc' := 31) (v := (12 : Int32)) dX8_init_29 rfl (by decide) ?_
  refine sr_na (pc' := 33) (n := 115) (s := 59) dX8_init_31 rfl (by decide) (by decide) (by decide) rfl (by decide) ?_
  refine sr_putR (pc' := 36) (ci := 8) (j := 3) (n := 116) (s := 58) dX8_init_33 rfl rfl rfl (by decide) rfl rfl rfl rfl ?_
  refine mr_aload_n (pc' := 37) dX8_init_36 rfl rfl ?_
  refine mr_bipush (pc' := 39) (v := (12 : Int32)) dX8_init_37 rfl (by decide) ?_
  refine sr_na (pc' := 41) (n := 116) (s := 58) dX8_init_39 rfl (by decide) (by decide) (by decide) rfl (by decide) ?_
  refine sr_putR (pc' := 44) (ci := 8) (j := 4) (n := 117) (s := 57) dX8_init_41 rfl rfl rfl (by decide) rfl rfl rfl rfl ?_
  refine mr_aload_n (pc' := 45) dX8_init_44 rfl rfl ?_
  refine mr_bipush (pc' := 47) (v := (100 : Int32)) dX8_init_45 rfl (by decide) ?_
  refine sr_na (pc' := 49) (n := 117) (s := 57) dX8_init_47 rfl (by decide) (by decide) (by decide) rfl (by decide) ?_
  refine sr_putR (pc' := 52) (ci := 8) (j := 5) (n := 118) (s := 56) dX8_init_49 rfl rfl rfl (by decide) rfl rfl rfl rfl ?_
  refine mr_aload_n (pc' := 53) dX8_init_52 rfl rfl ?_
  refine mr_iconst (pc' := 54) (v := (0 : Int32)) dX8_init_53 rfl (by decide) ?_
  refine sr_putI (pc' := 57) (ci := 8) (j := 6) (n := 118) (s := 56) dX8_init_54 rfl rfl rfl (by decide) rfl rfl rfl ?_
  refine mr_aload_n (pc' := 58) dX8_init_57 rfl rfl ?_
  refine mr_iconst (pc' := 59) (v := (0 : Int32)) dX8_init_58 rfl (by decide) ?_
  refine sr_putI (pc' := 62) (ci := 8) (j := 7) (n := 118) (s := 56) dX8_init_59 rfl rfl rfl (by decide) rfl rfl rfl ?_
  exact mr_return dX8_init_62 rfl
set_option maxRecDepth 100000 in
theorem ct_X0_init_118 : mr X 0 mY_X0_init 0 (lv_args 0 [.ref 118]) [] (sM 119 55) (none, sM 124 50) := by
  show mr X _ _ 0 [(0, .ref 118)] [] _ _
  refine mr_aload_n (pc' := 1) dX0_init_0 rfl rfl ?_
  refine sr_obj (pc' := 4) dX0_init_1 rfl rfl (by decide) ?_
  refine mr_aload_n (pc' := 5) dX0_init_4 rfl rfl ?_
  refine mr_bipush (pc' := 7) (v := (8 : Int32)) dX0_init_5 rfl (by decide) ?_
  refine sr_na (pc' := 9) (n := 119) (s := 55) dX0_init_7 rfl (by decide) (by decide) (by decide) rfl (by decide) ?_
  refine sr_putR (pc' := 12) (ci := 0) (j := 0) (n := 120) (s := 54) dX0_init_9 rfl rfl rfl (by decide) rfl rfl rfl rfl ?_
  refine mr_aload_n (pc' := 13) dX0_init_12 rfl rfl ?_
  refine mr_bipush (pc' := 15) (v := (8 : Int32)) dX0_init_13 rfl (by decide) ?_
  refine sr_na (pc' := 17) (n := 120) (s := 54) dX0_init_15 rfl (by decide) (by decide) (by decide) rfl (by decide) ?_
  refine sr_putR (pc' := 20) (ci := 0) (j := 1) (n := 121) (s := 53) dX0_init_17 rfl rfl rfl (by decide) rfl rfl rfl rfl ?_
  refine mr_aload_n (pc' := 21) dX0_init_20 rfl rfl ?_
  refine mr_bipush (pc' := 23) (v := (8 : Int32)) dX0_init_21 rfl (by decide) ?_
  refine sr_na (pc' := 25) (n := 121) (s := 53) dX0_init_23 rfl (by decide) (by decide) (by decide) rfl (by decide) ?_
  refine sr_putR (pc' := 28) (ci := 0) (j := 2) (n := 122) (s := 52) dX0_init_25 rfl rfl rfl (by decide) rfl rfl rfl rfl ?_
  refine mr_aload_n (pc' := 29) dX0_init_28 rfl rfl ?_
  refine mr_bipush (pc' := 31) (v := (8 : Int32)) dX0_init_29 rfl (by decide) ?_
  refine sr_na (pc' := 33) (n := 122) (s := 52) dX0_init_31 rfl (by decide) (by decide) (by decide) rfl (by decide) ?_
  refine sr_putR (pc' := 36) (ci := 0) (j := 3) (n := 123) (s := 51) dX0_init_33 rfl rfl rfl (by decide) rfl rfl rfl rfl ?_
  refine mr_aload_n (pc' := 37) dX0_init_36 rfl rfl ?_
  refine mr_bipush (pc' := 39) (v := (8 : Int32)) dX0_init_37 rfl (by decide) ?_
  refine sr_na (pc' := 41) (n := 123) (s := 51) dX0_init_39 rfl (by decide) (by decide) (by decide) rfl (by decide) ?_
  refine sr_putR (pc' := 44) (ci := 0) (j := 4) (n := 124) (s := 50) dX0_init_41 rfl rfl rfl (by decide) rfl rfl rfl rfl ?_
  refine mr_aload_n (pc' := 45) dX0_init_44 rfl rfl ?_
  refine mr_iconst (pc' := 46) (v := (0 : Int32)) dX0_init_45 rfl (by decide) ?_
  refine sr_putI (pc' := 49) (ci := 0) (j := 5) (n := 124) (s := 50) dX0_init_46 rfl rfl rfl (by decide) rfl rfl rfl ?_
  refine mr_aload_n (pc' := 50) dX0_init_49 rfl rfl ?_
  refine mr_iconst (pc' := 51) (v := (0 : Int32)) dX0_init_50 rfl (by decide) ?_
  refine sr_putI (pc' := 54) (ci := 0) (j := 6) (n := 124) (s := 50) dX0_init_51 rfl rfl rfl (by decide) rfl rfl rfl ?_
  exact mr_return dX0_init_54 rfl
set_option maxRecDepth 100000 in
theorem ct_X2_init_124 : mr X 0 mY_X2_init 0 (lv_args 0 [.ref 124]) [] (sM 125 49) (none, sM 129 45) := by
  show mr X _ _ 0 [(0, .ref 124)] [] _ _
  refine mr_aload_n (pc' := 1) dX2_init_0 rfl rfl ?_
  refine sr_obj (pc' := 4) dX2_init_1 rfl rfl (by decide) ?_
  refine mr_aload_n (pc' := 5) dX2_init_4 rfl rfl ?_
  refine mr_bipush (pc' := 7) (v := (12 : Int32)) dX2_init_5 rfl (by decide) ?_
  refine sr_na (pc' := 9) (n := 125) (s := 49) dX2_init_7 rfl (by decide) (by decide) (by decide) rfl (by decide) ?_
  refine sr_putR (pc' := 12) (ci := 2) (j := 0) (n := 126) (s := 48) dX2_init_9 rfl rfl rfl (by decide) rfl rfl rfl rfl ?_
  refine mr_aload_n (pc' := 13) dX2_init_12 rfl rfl ?_
  refine mr_bipush (pc' := 15) (v := (12 : Int32)) dX2_init_13 rfl (by decide) ?_
  refine sr_na (pc' := 17) (n := 126) (s := 48) dX2_init_15 rfl (by decide) (by decide) (by decide) rfl (by decide) ?_
  refine sr_putR (pc' := 20) (ci := 2) (j := 1) (n := 127) (s := 47) dX2_init_17 rfl rfl rfl (by decide) rfl rfl rfl rfl ?_
  refine mr_aload_n (pc' := 21) dX2_init_20 rfl rfl ?_
  refine mr_bipush (pc' := 23) (v := (12 : Int32)) dX2_init_21 rfl (by decide) ?_
  refine sr_na (pc' := 25) (n := 127) (s := 47) dX2_init_23 rfl (by decide) (by decide) (by decide) rfl (by decide) ?_
  refine sr_putR (pc' := 28) (ci := 2) (j := 2) (n := 128) (s := 46) dX2_init_25 rfl rfl rfl (by decide) rfl rfl rfl rfl ?_
  refine mr_aload_n (pc' := 29) dX2_init_28 rfl rfl ?_
  refine mr_bipush (pc' := 31) (v := (12 : Int32)) dX2_init_29 rfl (by decide) ?_
  refine sr_na (pc' := 33) (n := 128) (s := 46) dX2_init_31 rfl (by decide) (by decide) (by decide) rfl (by decide) ?_
  refine sr_putR (pc' := 36) (ci := 2) (j := 3) (n := 129) (s := 45) dX2_init_33 rfl rfl rfl (by decide) rfl rfl rfl rfl ?_
  refine mr_aload_n (pc' := 37) dX2_init_36 rfl rfl ?_
  refine mr_iconst (pc' := 38) (v := (0 : Int32)) dX2_init_37 rfl (by decide) ?_
  refine sr_putI (pc' := 41) (ci := 2) (j := 4) (n := 129) (s := 45) dX2_init_38 rfl rfl rfl (by decide) rfl rfl rfl ?_
  exact mr_return dX2_init_41 rfl
set_option maxRecDepth 100000 in
theorem ct_X6_init_110 : mr X 1 mY_X6_init 0 (lv_args 0 [.ref 110]) [] (sM 111 62) (none, sM 129 44) := by
  show mr X _ _ 0 [(0, .ref 110)] [] _ _
  refine mr_aload_n (pc' := 1) dX6_init_0 rfl rfl ?_
  refine sr_obj (pc' := 4) dX6_init_1 rfl rfl (by decide) ?_
  refine mr_aload_n (pc' := 5) dX6_init_4 rfl rfl ?_
  refine sr_new (pc' := 8) (c := 8) (n := 111) (s := 62) dX6_init_5 rfl rfl rfl (by decide) ?_
  refine mr_dup_ref (pc' := 9) dX6_init_8 rfl ?_
  refine mr_callg (d1 := 0) (Y' := mY_X8_init) (as := [.ref 111]) (rest := [.ref 111, .ref 110]) (mm_nd_uq rfl) dX6_init_9 rfl rfl (by decide) ct_X8_init_111 ?_
  show mr X _ _ 12 _ [.ref 111, .ref 110] (sM 118 56) _
  refine sr_putR (pc' := 15) (ci := 6) (j := 0) (n := 118) (s := 55) dX6_init_12 rfl rfl rfl (by decide) rfl rfl rfl rfl ?_
  refine mr_aload_n (pc' := 16) dX6_init_15 rfl rfl ?_
  refine sr_new (pc' := 19) (c := 0) (n := 118) (s := 55) dX6_init_16 rfl rfl rfl (by decide) ?_
  refine mr_dup_ref (pc' := 20) dX6_init_19 rfl ?_
  refine mr_callg (d1 := 0) (Y' := mY_X0_init) (as := [.ref 118]) (rest := [.ref 118, .ref 110]) (mm_nd_uq rfl) dX6_init_20 rfl rfl (by decide) ct_X0_init_118 ?_
  show mr X _ _ 23 _ [.ref 118, .ref 110] (sM 124 50) _
  refine sr_putR (pc' := 26) (ci := 6) (j := 1) (n := 124) (s := 49) dX6_init_23 rfl rfl rfl (by decide) rfl rfl rfl rfl ?_
  refine mr_aload_n (pc' := 27) dX6_init_26 rfl rfl ?_
  refine sr_new (pc' := 30) (c := 2) (n := 124) (s := 49) dX6_init_27 rfl rfl rfl (by decide) ?_
  refine mr_dup_ref (pc' := 31) dX6_init_30 rfl ?_
  refine mr_callg (d1 := 0) (Y' := mY_X2_init) (as := [.ref 124]) (rest := [.ref 124, .ref 110]) (mm_nd_uq rfl) dX6_init_31 rfl rfl (by decide) ct_X2_init_124 ?_
  show mr X _ _ 34 _ [.ref 124, .ref 110] (sM 129 45) _
  refine sr_putR (pc' := 37) (ci := 6) (j := 2) (n := 129) (s := 44) dX6_init_34 rfl rfl rfl (by decide) rfl rfl rfl rfl ?_
  refine mr_aload_n (pc' := 38) dX6_init_37 rfl rfl ?_
  refine mr_iconst (pc' := 39) (v := (0 : Int32)) dX6_init_38 rfl (by decide) ?_
  refine sr_putI (pc' := 42) (ci := 6) (j := 3) (n := 129) (s := 44) dX6_init_39 rfl rfl rfl (by decide) rfl rfl rfl ?_
  refine mr_aload_n (pc' := 43) dX6_init_42 rfl rfl ?_
  refine mr_iconst (pc' := 44) (v := (0 : Int32)) dX6_init_43 rfl (by decide) ?_
  refine sr_putZ (pc' := 47) (ci := 6) (j := 4) (n := 129) (s := 44) dX6_init_44 rfl rfl rfl (by decide) rfl rfl rfl ?_
  exact mr_return dX6_init_47 rfl
set_option maxRecDepth 100000 in
theorem ct_X4_init_129 : mr X 0 mY_X4_init 0 (lv_args 0 [.ref 129]) [] (sM 130 43) (none, sM 132 41) := by
  show mr X _ _ 0 [(0, .ref 129)] [] _ _
  refine mr_aload_n (pc' := 1) dX4_init_0 rfl rfl ?_
  refine sr_obj (pc' := 4) dX4_init_1 rfl rfl (by decide) ?_
  refine mr_aload_n (pc' := 5) dX4_init_4 rfl rfl ?_
  refine mr_sipush (pc' := 8) (v := (400 : Int32)) dX4_init_5 rfl (by decide) ?_
  refine sr_na (pc' := 10) (n := 130) (s := 43) dX4_init_8 rfl (by decide) (by decide) (by decide) rfl (by decide) ?_
  refine sr_putR (pc' := 13) (ci := 4) (j := 0) (n := 131) (s := 42) dX4_init_10 rfl rfl rfl (by decide) rfl rfl rfl rfl ?_
  refine mr_aload_n (pc' := 14) dX4_init_13 rfl rfl ?_
  refine mr_bipush (pc' := 16) (v := (60 : Int32)) dX4_init_14 rfl (by decide) ?_
  refine sr_na (pc' := 18) (n := 131) (s := 42) dX4_init_16 rfl (by decide) (by decide) (by decide) rfl (by decide) ?_
  refine sr_putR (pc' := 21) (ci := 4) (j := 1) (n := 132) (s := 41) dX4_init_18 rfl rfl rfl (by decide) rfl rfl rfl rfl ?_
  refine mr_aload_n (pc' := 22) dX4_init_21 rfl rfl ?_
  refine mr_iconst (pc' := 23) (v := (0 : Int32)) dX4_init_22 rfl (by decide) ?_
  refine sr_putI (pc' := 26) (ci := 4) (j := 2) (n := 132) (s := 41) dX4_init_23 rfl rfl rfl (by decide) rfl rfl rfl ?_
  refine mr_aload_n (pc' := 27) dX4_init_26 rfl rfl ?_
  refine mr_iconst (pc' := 28) (v := (0 : Int32)) dX4_init_27 rfl (by decide) ?_
  refine sr_putI (pc' := 31) (ci := 4) (j := 3) (n := 132) (s := 41) dX4_init_28 rfl rfl rfl (by decide) rfl rfl rfl ?_
  exact mr_return dX4_init_31 rfl
set_option maxRecDepth 100000 in
theorem ct_X4_init_132 : mr X 0 mY_X4_init 0 (lv_args 0 [.ref 132]) [] (sM 133 40) (none, sM 135 38) := by
  show mr X _ _ 0 [(0, .ref 132)] [] _ _
  refine mr_aload_n (pc' := 1) dX4_init_0 rfl rfl ?_
  refine sr_obj (pc' := 4) dX4_init_1 rfl rfl (by decide) ?_
  refine mr_aload_n (pc' := 5) dX4_init_4 rfl rfl ?_
  refine mr_sipush (pc' := 8) (v := (400 : Int32)) dX4_init_5 rfl (by decide) ?_
  refine sr_na (pc' := 10) (n := 133) (s := 40) dX4_init_8 rfl (by decide) (by decide) (by decide) rfl (by decide) ?_
  refine sr_putR (pc' := 13) (ci := 4) (j := 0) (n := 134) (s := 39) dX4_init_10 rfl rfl rfl (by decide) rfl rfl rfl rfl ?_
  refine mr_aload_n (pc' := 14) dX4_init_13 rfl rfl ?_
  refine mr_bipush (pc' := 16) (v := (60 : Int32)) dX4_init_14 rfl (by decide) ?_
  refine sr_na (pc' := 18) (n := 134) (s := 39) dX4_init_16 rfl (by decide) (by decide) (by decide) rfl (by decide) ?_
  refine sr_putR (pc' := 21) (ci := 4) (j := 1) (n := 135) (s := 38) dX4_init_18 rfl rfl rfl (by decide) rfl rfl rfl rfl ?_
  refine mr_aload_n (pc' := 22) dX4_init_21 rfl rfl ?_
  refine mr_iconst (pc' := 23) (v := (0 : Int32)) dX4_init_22 rfl (by decide) ?_
  refine sr_putI (pc' := 26) (ci := 4) (j := 2) (n := 135) (s := 38) dX4_init_23 rfl rfl rfl (by decide) rfl rfl rfl ?_
  refine mr_aload_n (pc' := 27) dX4_init_26 rfl rfl ?_
  refine mr_iconst (pc' := 28) (v := (0 : Int32)) dX4_init_27 rfl (by decide) ?_
  refine sr_putI (pc' := 31) (ci := 4) (j := 3) (n := 135) (s := 38) dX4_init_28 rfl rfl rfl (by decide) rfl rfl rfl ?_
  exact mr_return dX4_init_31 rfl
set_option maxRecDepth 100000 in
theorem ct_X4_init_135 : mr X 0 mY_X4_init 0 (lv_args 0 [.ref 135]) [] (sM 136 37) (none, sM 138 35) := by
  show mr X _ _ 0 [(0, .ref 135)] [] _ _
  refine mr_aload_n (pc' := 1) dX4_init_0 rfl rfl ?_
  refine sr_obj (pc' := 4) dX4_init_1 rfl rfl (by decide) ?_
  refine mr_aload_n (pc' := 5) dX4_init_4 rfl rfl ?_
  refine mr_sipush (pc' := 8) (v := (400 : Int32)) dX4_init_5 rfl (by decide) ?_
  refine sr_na (pc' := 10) (n := 136) (s := 37) dX4_init_8 rfl (by decide) (by decide) (by decide) rfl (by decide) ?_
  refine sr_putR (pc' := 13) (ci := 4) (j := 0) (n := 137) (s := 36) dX4_init_10 rfl rfl rfl (by decide) rfl rfl rfl rfl ?_
  refine mr_aload_n (pc' := 14) dX4_init_13 rfl rfl ?_
  refine mr_bipush (pc' := 16) (v := (60 : Int32)) dX4_init_14 rfl (by decide) ?_
  refine sr_na (pc' := 18) (n := 137) (s := 36) dX4_init_16 rfl (by decide) (by decide) (by decide) rfl (by decide) ?_
  refine sr_putR (pc' := 21) (ci := 4) (j := 1) (n := 138) (s := 35) dX4_init_18 rfl rfl rfl (by decide) rfl rfl rfl rfl ?_
  refine mr_aload_n (pc' := 22) dX4_init_21 rfl rfl ?_
  refine mr_iconst (pc' := 23) (v := (0 : Int32)) dX4_init_22 rfl (by decide) ?_
  refine sr_putI (pc' := 26) (ci := 4) (j := 2) (n := 138) (s := 35) dX4_init_23 rfl rfl rfl (by decide) rfl rfl rfl ?_
  refine mr_aload_n (pc' := 27) dX4_init_26 rfl rfl ?_
  refine mr_iconst (pc' := 28) (v := (0 : Int32)) dX4_init_27 rfl (by decide) ?_
  refine sr_putI (pc' := 31) (ci := 4) (j := 3) (n := 138) (s := 35) dX4_init_28 rfl rfl rfl (by decide) rfl rfl rfl ?_
  exact mr_return dX4_init_31 rfl
set_option maxRecDepth 100000 in
theorem ct_X4_init_138 : mr X 0 mY_X4_init 0 (lv_args 0 [.ref 138]) [] (sM 139 34) (none, sM 141 32) := by
  show mr X _ _ 0 [(0, .ref 138)] [] _ _
  refine mr_aload_n (pc' := 1) dX4_init_0 rfl rfl ?_
  refine sr_obj (pc' := 4) dX4_init_1 rfl rfl (by decide) ?_
  refine mr_aload_n (pc' := 5) dX4_init_4 rfl rfl ?_
  refine mr_sipush (pc' := 8) (v := (400 : Int32)) dX4_init_5 rfl (by decide) ?_
  refine sr_na (pc' := 10) (n := 139) (s := 34) dX4_init_8 rfl (by decide) (by decide) (by decide) rfl (by decide) ?_
  refine sr_putR (pc' := 13) (ci := 4) (j := 0) (n := 140) (s := 33) dX4_init_10 rfl rfl rfl (by decide) rfl rfl rfl rfl ?_
  refine mr_aload_n (pc' := 14) dX4_init_13 rfl rfl ?_
  refine mr_bipush (pc' := 16) (v := (60 : Int32)) dX4_init_14 rfl (by decide) ?_
  refine sr_na (pc' := 18) (n := 140) (s := 33) dX4_init_16 rfl (by decide) (by decide) (by decide) rfl (by decide) ?_
  refine sr_putR (pc' := 21) (ci := 4) (j := 1) (n := 141) (s := 32) dX4_init_18 rfl rfl rfl (by decide) rfl rfl rfl rfl ?_
  refine mr_aload_n (pc' := 22) dX4_init_21 rfl rfl ?_
  refine mr_iconst (pc' := 23) (v := (0 : Int32)) dX4_init_22 rfl (by decide) ?_
  refine sr_putI (pc' := 26) (ci := 4) (j := 2) (n := 141) (s := 32) dX4_init_23 rfl rfl rfl (by decide) rfl rfl rfl ?_
  refine mr_aload_n (pc' := 27) dX4_init_26 rfl rfl ?_
  refine mr_iconst (pc' := 28) (v := (0 : Int32)) dX4_init_27 rfl (by decide) ?_
  refine sr_putI (pc' := 31) (ci := 4) (j := 3) (n := 141) (s := 32) dX4_init_28 rfl rfl rfl (by decide) rfl rfl rfl ?_
  exact mr_return dX4_init_31 rfl
set_option maxRecDepth 100000 in
theorem ct_X4_init_141 : mr X 0 mY_X4_init 0 (lv_args 0 [.ref 141]) [] (sM 142 31) (none, sM 144 29) := by
  show mr X _ _ 0 [(0, .ref 141)] [] _ _
  refine mr_aload_n (pc' := 1) dX4_init_0 rfl rfl ?_
  refine sr_obj (pc' := 4) dX4_init_1 rfl rfl (by decide) ?_
  refine mr_aload_n (pc' := 5) dX4_init_4 rfl rfl ?_
  refine mr_sipush (pc' := 8) (v := (400 : Int32)) dX4_init_5 rfl (by decide) ?_
  refine sr_na (pc' := 10) (n := 142) (s := 31) dX4_init_8 rfl (by decide) (by decide) (by decide) rfl (by decide) ?_
  refine sr_putR (pc' := 13) (ci := 4) (j := 0) (n := 143) (s := 30) dX4_init_10 rfl rfl rfl (by decide) rfl rfl rfl rfl ?_
  refine mr_aload_n (pc' := 14) dX4_init_13 rfl rfl ?_
  refine mr_bipush (pc' := 16) (v := (60 : Int32)) dX4_init_14 rfl (by decide) ?_
  refine sr_na (pc' := 18) (n := 143) (s := 30) dX4_init_16 rfl (by decide) (by decide) (by decide) rfl (by decide) ?_
  refine sr_putR (pc' := 21) (ci := 4) (j := 1) (n := 144) (s := 29) dX4_init_18 rfl rfl rfl (by decide) rfl rfl rfl rfl ?_
  refine mr_aload_n (pc' := 22) dX4_init_21 rfl rfl ?_
  refine mr_iconst (pc' := 23) (v := (0 : Int32)) dX4_init_22 rfl (by decide) ?_
  refine sr_putI (pc' := 26) (ci := 4) (j := 2) (n := 144) (s := 29) dX4_init_23 rfl rfl rfl (by decide) rfl rfl rfl ?_
  refine mr_aload_n (pc' := 27) dX4_init_26 rfl rfl ?_
  refine mr_iconst (pc' := 28) (v := (0 : Int32)) dX4_init_27 rfl (by decide) ?_
  refine sr_putI (pc' := 31) (ci := 4) (j := 3) (n := 144) (s := 29) dX4_init_28 rfl rfl rfl (by decide) rfl rfl rfl ?_
  exact mr_return dX4_init_31 rfl
set_option maxRecDepth 100000 in
theorem ct_X4_init_144 : mr X 0 mY_X4_init 0 (lv_args 0 [.ref 144]) [] (sM 145 28) (none, sM 147 26) := by
  show mr X _ _ 0 [(0, .ref 144)] [] _ _
  refine mr_aload_n (pc' := 1) dX4_init_0 rfl rfl ?_
  refine sr_obj (pc' := 4) dX4_init_1 rfl rfl (by decide) ?_
  refine mr_aload_n (pc' := 5) dX4_init_4 rfl rfl ?_
  refine mr_sipush (pc' := 8) (v := (400 : Int32)) dX4_init_5 rfl (by decide) ?_
  refine sr_na (pc' := 10) (n := 145) (s := 28) dX4_init_8 rfl (by decide) (by decide) (by decide) rfl (by decide) ?_
  refine sr_putR (pc' := 13) (ci := 4) (j := 0) (n := 146) (s := 27) dX4_init_10 rfl rfl rfl (by decide) rfl rfl rfl rfl ?_
  refine mr_aload_n (pc' := 14) dX4_init_13 rfl rfl ?_
  refine mr_bipush (pc' := 16) (v := (60 : Int32)) dX4_init_14 rfl (by decide) ?_
  refine sr_na (pc' := 18) (n := 146) (s := 27) dX4_init_16 rfl (by decide) (by decide) (by decide) rfl (by decide) ?_
  refine sr_putR (pc' := 21) (ci := 4) (j := 1) (n := 147) (s := 26) dX4_init_18 rfl rfl rfl (by decide) rfl rfl rfl rfl ?_
  refine mr_aload_n (pc' := 22) dX4_init_21 rfl rfl ?_
  refine mr_iconst (pc' := 23) (v := (0 : Int32)) dX4_init_22 rfl (by decide) ?_
  refine sr_putI (pc' := 26) (ci := 4) (j := 2) (n := 147) (s := 26) dX4_init_23 rfl rfl rfl (by decide) rfl rfl rfl ?_
  refine mr_aload_n (pc' := 27) dX4_init_26 rfl rfl ?_
  refine mr_iconst (pc' := 28) (v := (0 : Int32)) dX4_init_27 rfl (by decide) ?_
  refine sr_putI (pc' := 31) (ci := 4) (j := 3) (n := 147) (s := 26) dX4_init_28 rfl rfl rfl (by decide) rfl rfl rfl ?_
  exact mr_return dX4_init_31 rfl
set_option maxRecDepth 100000 in
theorem ct_X10_init_0 : mr X 2 mY_X10_init 0 (lv_args 0 [.ref 0]) [] (sM 1 175) (none, sM 147 25) := by
  show mr X _ _ 0 [(0, .ref 0)] [] _ _
  refine mr_aload_n (pc' := 1) dX10_init_0 rfl rfl ?_
  refine sr_obj (pc' := 4) dX10_init_1 rfl rfl (by decide) ?_
  refine mr_aload_n (pc' := 5) dX10_init_4 rfl rfl ?_
  refine sr_new (pc' := 8) (c := 7) (n := 1) (s := 175) dX10_init_5 rfl rfl rfl (by decide) ?_
  refine mr_dup_ref (pc' := 9) dX10_init_8 rfl ?_
  refine mr_callg (d1 := 0) (Y' := mY_X7_init) (as := [.ref 1]) (rest := [.ref 1, .ref 0]) (mm_nd_uq rfl) dX10_init_9 rfl rfl (by decide) ct_X7_init_1 ?_
  show mr X _ _ 12 _ [.ref 1, .ref 0] (sM 3 174) _
  refine sr_putR (pc' := 15) (ci := 10) (j := 0) (n := 3) (s := 173) dX10_init_12 rfl rfl rfl (by decide) rfl rfl rfl rfl ?_
  refine mr_aload_n (pc' := 16) dX10_init_15 rfl rfl ?_
  refine sr_new (pc' := 19) (c := 6) (n := 3) (s := 173) dX10_init_16 rfl rfl rfl (by decide) ?_
  refine mr_dup_ref (pc' := 20) dX10_init_19 rfl ?_
  refine mr_callg (d1 := 1) (Y' := mY_X6_init) (as := [.ref 3]) (rest := [.ref 3, .ref 0]) (mm_nd_uq rfl) dX10_init_20 rfl rfl (by decide) ct_X6_init_3 ?_
  show mr X _ _ 23 _ [.ref 3, .ref 0] (sM 22 155) _
  refine sr_putR (pc' := 26) (ci := 10) (j := 1) (n := 22) (s := 154) dX10_init_23 rfl rfl rfl (by decide) rfl rfl rfl rfl ?_
  refine mr_aload_n (pc' := 27) dX10_init_26 rfl rfl ?_
  refine mr_iconst (pc' := 28) (v := (4 : Int32)) dX10_init_27 rfl (by decide) ?_
  refine sr_nq (pc' := 31) (c := 6) (n := 22) (s := 154) dX10_init_28 rfl rfl (by decide) (by decide) (by decide) rfl (by decide) ?_
  refine sr_putR (pc' := 34) (ci := 10) (j := 2) (n := 23) (s := 153) dX10_init_31 rfl rfl rfl (by decide) rfl rfl rfl rfl ?_
  refine mr_aload_n (pc' := 35) dX10_init_34 rfl rfl ?_
  refine mr_bipush (pc' := 37) (v := (6 : Int32)) dX10_init_35 rfl (by decide) ?_
  refine sr_nq (pc' := 40) (c := 4) (n := 23) (s := 153) dX10_init_37 rfl rfl (by decide) (by decide) (by decide) rfl (by decide) ?_
  refine sr_putR (pc' := 43) (ci := 10) (j := 3) (n := 24) (s := 152) dX10_init_40 rfl rfl rfl (by decide) rfl rfl rfl rfl ?_
  refine mr_aload_n (pc' := 44) dX10_init_43 rfl rfl ?_
  refine sr_new (pc' := 47) (c := 8) (n := 24) (s := 152) dX10_init_44 rfl rfl rfl (by decide) ?_
  refine mr_dup_ref (pc' := 48) dX10_init_47 rfl ?_
  refine mr_callg (d1 := 0) (Y' := mY_X8_init) (as := [.ref 24]) (rest := [.ref 24, .ref 0]) (mm_nd_uq rfl) dX10_init_48 rfl rfl (by decide) ct_X8_init_24 ?_
  show mr X _ _ 51 _ [.ref 24, .ref 0] (sM 31 146) _
  refine sr_putR (pc' := 54) (ci := 10) (j := 4) (n := 31) (s := 145) dX10_init_51 rfl rfl rfl (by decide) rfl rfl rfl rfl ?_
  refine mr_aload_n (pc' := 55) dX10_init_54 rfl rfl ?_
  refine sr_new (pc' := 58) (c := 0) (n := 31) (s := 145) dX10_init_55 rfl rfl rfl (by decide) ?_
  refine mr_dup_ref (pc' := 59) dX10_init_58 rfl ?_
  refine mr_callg (d1 := 0) (Y' := mY_X0_init) (as := [.ref 31]) (rest := [.ref 31, .ref 0]) (mm_nd_uq rfl) dX10_init_59 rfl rfl (by decide) ct_X0_init_31 ?_
  show mr X _ _ 62 _ [.ref 31, .ref 0] (sM 37 140) _
  refine sr_putR (pc' := 65) (ci := 10) (j := 5) (n := 37) (s := 139) dX10_init_62 rfl rfl rfl (by decide) rfl rfl rfl rfl ?_
  refine mr_aload_n (pc' := 66) dX10_init_65 rfl rfl ?_
  refine sr_new (pc' := 69) (c := 9) (n := 37) (s := 139) dX10_init_66 rfl rfl rfl (by decide) ?_
  refine mr_dup_ref (pc' := 70) dX10_init_69 rfl ?_
  refine mr_aload_n (pc' := 71) dX10_init_70 rfl rfl ?_
  refine sr_getR (pc' := 74) (ci := 10) (j := 0) (n := 38) (s := 139) (b := 1) dX10_init_71 rfl rfl rfl (by decide) rfl rfl ?_
  refine mr_aload_n (pc' := 75) dX10_init_74 rfl rfl ?_
  refine sr_getR (pc' := 78) (ci := 10) (j := 4) (n := 38) (s := 139) (b := 24) dX10_init_75 rfl rfl rfl (by decide) rfl rfl ?_
  refine mr_aload_n (pc' := 79) dX10_init_78 rfl rfl ?_
  refine sr_getR (pc' := 82) (ci := 10) (j := 5) (n := 38) (s := 139) (b := 31) dX10_init_79 rfl rfl rfl (by decide) rfl rfl ?_
  refine mr_callg (d1 := 0) (Y' := mY_X9_init) (as := [.ref 37, .ref 1, .ref 24, .ref 31]) (rest := [.ref 37, .ref 0]) (mm_nd_uq rfl) dX10_init_82 rfl rfl (by decide) ct_X9_init_37 ?_
  show mr X _ _ 85 _ [.ref 37, .ref 0] (sM 38 136) _
  refine sr_putR (pc' := 88) (ci := 10) (j := 6) (n := 38) (s := 135) dX10_init_85 rfl rfl rfl (by decide) rfl rfl rfl rfl ?_
  refine mr_aload_n (pc' := 89) dX10_init_88 rfl rfl ?_
  refine sr_new (pc' := 92) (c := 5) (n := 38) (s := 135) dX10_init_89 rfl rfl rfl (by decide) ?_
  refine mr_dup_ref (pc' := 93) dX10_init_92 rfl ?_
  refine mr_aload_n (pc' := 94) dX10_init_93 rfl rfl ?_
  refine sr_getR (pc' := 97) (ci := 10) (j := 0) (n := 39) (s := 135) (b := 1) dX10_init_94 rfl rfl rfl (by decide) rfl rfl ?_
  refine mr_callg (d1 := 1) (Y' := mY_X5_init) (as := [.ref 38, .ref 1]) (rest := [.ref 38, .ref 0]) (mm_nd_uq rfl) dX10_init_97 rfl rfl (by decide) ct_X5_init_38 ?_
  show mr X _ _ 100 _ [.ref 38, .ref 0] (sM 43 130) _
  refine sr_putR (pc' := 103) (ci := 10) (j := 7) (n := 43) (s := 129) dX10_init_100 rfl rfl rfl (by decide) rfl rfl rfl rfl ?_
  refine mr_aload_n (pc' := 104) dX10_init_103 rfl rfl ?_
  refine sr_new (pc' := 107) (c := 1) (n := 43) (s := 129) dX10_init_104 rfl rfl rfl (by decide) ?_
  refine mr_dup_ref (pc' := 108) dX10_init_107 rfl ?_
  refine mr_callg (d1 := 0) (Y' := mY_X1_init) (as := [.ref 43]) (rest := [.ref 43, .ref 0]) (mm_nd_uq rfl) dX10_init_108 rfl rfl (by decide) ct_X1_init_43 ?_
  show mr X _ _ 111 _ [.ref 43, .ref 0] (sM 45 128) _
  refine sr_putR (pc' := 114) (ci := 10) (j := 8) (n := 45) (s := 127) dX10_init_111 rfl rfl rfl (by decide) rfl rfl rfl rfl ?_
  refine mr_aload_n (pc' := 115) dX10_init_114 rfl rfl ?_
  refine sr_new (pc' := 118) (c := 3) (n := 45) (s := 127) dX10_init_115 rfl rfl rfl (by decide) ?_
  refine mr_dup_ref (pc' := 119) dX10_init_118 rfl ?_
  refine mr_callg (d1 := 0) (Y' := mY_X3_init) (as := [.ref 45]) (rest := [.ref 45, .ref 0]) (mm_nd_uq rfl) dX10_init_119 rfl rfl (by decide) ct_X3_init_45 ?_
  show mr X _ _ 122 _ [.ref 45, .ref 0] (sM 53 120) _
  refine sr_putR (pc' := 125) (ci := 10) (j := 9) (n := 53) (s := 119) dX10_init_122 rfl rfl rfl (by decide) rfl rfl rfl rfl ?_
  refine mr_aload_n (pc' := 126) dX10_init_125 rfl rfl ?_
  refine mr_iconst (pc' := 127) (v := (0 : Int32)) dX10_init_126 rfl (by decide) ?_
  refine sr_putI (pc' := 130) (ci := 10) (j := 10) (n := 53) (s := 119) dX10_init_127 rfl rfl rfl (by decide) rfl rfl rfl ?_
  refine mr_iconst (pc' := 131) (v := (0 : Int32)) dX10_init_130 rfl (by decide) ?_
  refine mr_istore_n (pc' := 132) (lv' := [(1, .int (0 : Int32)), (0, .ref 0)]) dX10_init_131 rfl (by decide) rfl ?_
  refine mr_iload_n (pc' := 133) dX10_init_132 rfl rfl ?_
  refine mr_iconst (pc' := 134) (v := (4 : Int32)) dX10_init_133 rfl (by decide) ?_
  refine mr_icmp_ge_f (t := 156) (pc' := 137) dX10_init_134 (by decide) rfl (by decide) ?_
  refine mr_aload_n (pc' := 138) dX10_init_137 rfl rfl ?_
  refine sr_getR (pc' := 141) (ci := 10) (j := 2) (n := 53) (s := 119) (b := 22) dX10_init_138 rfl rfl rfl (by decide) rfl rfl ?_
  refine mr_iload_n (pc' := 142) dX10_init_141 rfl rfl ?_
  refine sr_new (pc' := 145) (c := 6) (n := 53) (s := 119) dX10_init_142 rfl rfl rfl (by decide) ?_
  refine mr_dup_ref (pc' := 146) dX10_init_145 rfl ?_
  refine mr_callg (d1 := 1) (Y' := mY_X6_init) (as := [.ref 53]) (rest := [.ref 53, .int (0 : Int32), .ref 22]) (mm_nd_uq rfl) dX10_init_146 rfl rfl (by decide) ct_X6_init_53 ?_
  show mr X _ _ 149 _ [.ref 53, .int (0 : Int32), .ref 22] (sM 72 101) _
  refine sr_aas (pc' := 150) (n := 72) (s := 100) dX10_init_149 rfl (by decide) (by decide) rfl ?_
  refine mr_iinc (pc' := 153) (x' := (1 : Int32)) (lv' := [(1, .int (1 : Int32)), (0, .ref 0)]) dX10_init_150 rfl (by decide) rfl rfl (by decide) ?_
  refine mr_goto (t := 132) dX10_init_153 (by decide) ?_
  refine mr_iload_n (pc' := 133) dX10_init_132 rfl rfl ?_
  refine mr_iconst (pc' := 134) (v := (4 : Int32)) dX10_init_133 rfl (by decide) ?_
  refine mr_icmp_ge_f (t := 156) (pc' := 137) dX10_init_134 (by decide) rfl (by decide) ?_
  refine mr_aload_n (pc' := 138) dX10_init_137 rfl rfl ?_
  refine sr_getR (pc' := 141) (ci := 10) (j := 2) (n := 72) (s := 100) (b := 22) dX10_init_138 rfl rfl rfl (by decide) rfl rfl ?_
  refine mr_iload_n (pc' := 142) dX10_init_141 rfl rfl ?_
  refine sr_new (pc' := 145) (c := 6) (n := 72) (s := 100) dX10_init_142 rfl rfl rfl (by decide) ?_
  refine mr_dup_ref (pc' := 146) dX10_init_145 rfl ?_
  refine mr_callg (d1 := 1) (Y' := mY_X6_init) (as := [.ref 72]) (rest := [.ref 72, .int (1 : Int32), .ref 22]) (mm_nd_uq rfl) dX10_init_146 rfl rfl (by decide) ct_X6_init_72 ?_
  show mr X _ _ 149 _ [.ref 72, .int (1 : Int32), .ref 22] (sM 91 82) _
  refine sr_aas (pc' := 150) (n := 91) (s := 81) dX10_init_149 rfl (by decide) (by decide) rfl ?_
  refine mr_iinc (pc' := 153) (x' := (2 : Int32)) (lv' := [(1, .int (2 : Int32)), (0, .ref 0)]) dX10_init_150 rfl (by decide) rfl rfl (by decide) ?_
  refine mr_goto (t := 132) dX10_init_153 (by decide) ?_
  refine mr_iload_n (pc' := 133) dX10_init_132 rfl rfl ?_
  refine mr_iconst (pc' := 134) (v := (4 : Int32)) dX10_init_133 rfl (by decide) ?_
  refine mr_icmp_ge_f (t := 156) (pc' := 137) dX10_init_134 (by decide) rfl (by decide) ?_
  refine mr_aload_n (pc' := 138) dX10_init_137 rfl rfl ?_
  refine sr_getR (pc' := 141) (ci := 10) (j := 2) (n := 91) (s := 81) (b := 22) dX10_init_138 rfl rfl rfl (by decide) rfl rfl ?_
  refine mr_iload_n (pc' := 142) dX10_init_141 rfl rfl ?_
  refine sr_new (pc' := 145) (c := 6) (n := 91) (s := 81) dX10_init_142 rfl rfl rfl (by decide) ?_
  refine mr_dup_ref (pc' := 146) dX10_init_145 rfl ?_
  refine mr_callg (d1 := 1) (Y' := mY_X6_init) (as := [.ref 91]) (rest := [.ref 91, .int (2 : Int32), .ref 22]) (mm_nd_uq rfl) dX10_init_146 rfl rfl (by decide) ct_X6_init_91 ?_
  show mr X _ _ 149 _ [.ref 91, .int (2 : Int32), .ref 22] (sM 110 63) _
  refine sr_aas (pc' := 150) (n := 110) (s := 62) dX10_init_149 rfl (by decide) (by decide) rfl ?_
  refine mr_iinc (pc' := 153) (x' := (3 : Int32)) (lv' := [(1, .int (3 : Int32)), (0, .ref 0)]) dX10_init_150 rfl (by decide) rfl rfl (by decide) ?_
  refine mr_goto (t := 132) dX10_init_153 (by decide) ?_
  refine mr_iload_n (pc' := 133) dX10_init_132 rfl rfl ?_
  refine mr_iconst (pc' := 134) (v := (4 : Int32)) dX10_init_133 rfl (by decide) ?_
  refine mr_icmp_ge_f (t := 156) (pc' := 137) dX10_init_134 (by decide) rfl (by decide) ?_
  refine mr_aload_n (pc' := 138) dX10_init_137 rfl rfl ?_
  refine sr_getR (pc' := 141) (ci := 10) (j := 2) (n := 110) (s := 62) (b := 22) dX10_init_138 rfl rfl rfl (by decide) rfl rfl ?_
  refine mr_iload_n (pc' := 142) dX10_init_141 rfl rfl ?_
  refine sr_new (pc' := 145) (c := 6) (n := 110) (s := 62) dX10_init_142 rfl rfl rfl (by decide) ?_
  refine mr_dup_ref (pc' := 146) dX10_init_145 rfl ?_
  refine mr_callg (d1 := 1) (Y' := mY_X6_init) (as := [.ref 110]) (rest := [.ref 110, .int (3 : Int32), .ref 22]) (mm_nd_uq rfl) dX10_init_146 rfl rfl (by decide) ct_X6_init_110 ?_
  show mr X _ _ 149 _ [.ref 110, .int (3 : Int32), .ref 22] (sM 129 44) _
  refine sr_aas (pc' := 150) (n := 129) (s := 43) dX10_init_149 rfl (by decide) (by decide) rfl ?_
  refine mr_iinc (pc' := 153) (x' := (4 : Int32)) (lv' := [(1, .int (4 : Int32)), (0, .ref 0)]) dX10_init_150 rfl (by decide) rfl rfl (by decide) ?_
  refine mr_goto (t := 132) dX10_init_153 (by decide) ?_
  refine mr_iload_n (pc' := 133) dX10_init_132 rfl rfl ?_
  refine mr_iconst (pc' := 134) (v := (4 : Int32)) dX10_init_133 rfl (by decide) ?_
  refine mr_icmp_ge_t (t := 156) dX10_init_134 (by decide) (by decide) ?_
  refine mr_iconst (pc' := 157) (v := (0 : Int32)) dX10_init_156 rfl (by decide) ?_
  refine mr_istore_n (pc' := 158) (lv' := [(1, .int (0 : Int32)), (0, .ref 0)]) dX10_init_157 rfl (by decide) rfl ?_
  refine mr_iload_n (pc' := 159) dX10_init_158 rfl rfl ?_
  refine mr_bipush (pc' := 161) (v := (6 : Int32)) dX10_init_159 rfl (by decide) ?_
  refine mr_icmp_ge_f (t := 183) (pc' := 164) dX10_init_161 (by decide) rfl (by decide) ?_
  refine mr_aload_n (pc' := 165) dX10_init_164 rfl rfl ?_
  refine sr_getR (pc' := 168) (ci := 10) (j := 3) (n := 129) (s := 43) (b := 23) dX10_init_165 rfl rfl rfl (by decide) rfl rfl ?_
  refine mr_iload_n (pc' := 169) dX10_init_168 rfl rfl ?_
  refine sr_new (pc' := 172) (c := 4) (n := 129) (s := 43) dX10_init_169 rfl rfl rfl (by decide) ?_
  refine mr_dup_ref (pc' := 173) dX10_init_172 rfl ?_
  refine mr_callg (d1 := 0) (Y' := mY_X4_init) (as := [.ref 129]) (rest := [.ref 129, .int (0 : Int32), .ref 23]) (mm_nd_uq rfl) dX10_init_173 rfl rfl (by decide) ct_X4_init_129 ?_
  show mr X _ _ 176 _ [.ref 129, .int (0 : Int32), .ref 23] (sM 132 41) _
  refine sr_aas (pc' := 177) (n := 132) (s := 40) dX10_init_176 rfl (by decide) (by decide) rfl ?_
  refine mr_iinc (pc' := 180) (x' := (1 : Int32)) (lv' := [(1, .int (1 : Int32)), (0, .ref 0)]) dX10_init_177 rfl (by decide) rfl rfl (by decide) ?_
  refine mr_goto (t := 158) dX10_init_180 (by decide) ?_
  refine mr_iload_n (pc' := 159) dX10_init_158 rfl rfl ?_
  refine mr_bipush (pc' := 161) (v := (6 : Int32)) dX10_init_159 rfl (by decide) ?_
  refine mr_icmp_ge_f (t := 183) (pc' := 164) dX10_init_161 (by decide) rfl (by decide) ?_
  refine mr_aload_n (pc' := 165) dX10_init_164 rfl rfl ?_
  refine sr_getR (pc' := 168) (ci := 10) (j := 3) (n := 132) (s := 40) (b := 23) dX10_init_165 rfl rfl rfl (by decide) rfl rfl ?_
  refine mr_iload_n (pc' := 169) dX10_init_168 rfl rfl ?_
  refine sr_new (pc' := 172) (c := 4) (n := 132) (s := 40) dX10_init_169 rfl rfl rfl (by decide) ?_
  refine mr_dup_ref (pc' := 173) dX10_init_172 rfl ?_
  refine mr_callg (d1 := 0) (Y' := mY_X4_init) (as := [.ref 132]) (rest := [.ref 132, .int (1 : Int32), .ref 23]) (mm_nd_uq rfl) dX10_init_173 rfl rfl (by decide) ct_X4_init_132 ?_
  show mr X _ _ 176 _ [.ref 132, .int (1 : Int32), .ref 23] (sM 135 38) _
  refine sr_aas (pc' := 177) (n := 135) (s := 37) dX10_init_176 rfl (by decide) (by decide) rfl ?_
  refine mr_iinc (pc' := 180) (x' := (2 : Int32)) (lv' := [(1, .int (2 : Int32)), (0, .ref 0)]) dX10_init_177 rfl (by decide) rfl rfl (by decide) ?_
  refine mr_goto (t := 158) dX10_init_180 (by decide) ?_
  refine mr_iload_n (pc' := 159) dX10_init_158 rfl rfl ?_
  refine mr_bipush (pc' := 161) (v := (6 : Int32)) dX10_init_159 rfl (by decide) ?_
  refine mr_icmp_ge_f (t := 183) (pc' := 164) dX10_init_161 (by decide) rfl (by decide) ?_
  refine mr_aload_n (pc' := 165) dX10_init_164 rfl rfl ?_
  refine sr_getR (pc' := 168) (ci := 10) (j := 3) (n := 135) (s := 37) (b := 23) dX10_init_165 rfl rfl rfl (by decide) rfl rfl ?_
  refine mr_iload_n (pc' := 169) dX10_init_168 rfl rfl ?_
  refine sr_new (pc' := 172) (c := 4) (n := 135) (s := 37) dX10_init_169 rfl rfl rfl (by decide) ?_
  refine mr_dup_ref (pc' := 173) dX10_init_172 rfl ?_
  refine mr_callg (d1 := 0) (Y' := mY_X4_init) (as := [.ref 135]) (rest := [.ref 135, .int (2 : Int32), .ref 23]) (mm_nd_uq rfl) dX10_init_173 rfl rfl (by decide) ct_X4_init_135 ?_
  show mr X _ _ 176 _ [.ref 135, .int (2 : Int32), .ref 23] (sM 138 35) _
  refine sr_aas (pc' := 177) (n := 138) (s := 34) dX10_init_176 rfl (by decide) (by decide) rfl ?_
  refine mr_iinc (pc' := 180) (x' := (3 : Int32)) (lv' := [(1, .int (3 : Int32)), (0, .ref 0)]) dX10_init_177 rfl (by decide) rfl rfl (by decide) ?_
  refine mr_goto (t := 158) dX10_init_180 (by decide) ?_
  refine mr_iload_n (pc' := 159) dX10_init_158 rfl rfl ?_
  refine mr_bipush (pc' := 161) (v := (6 : Int32)) dX10_init_159 rfl (by decide) ?_
  refine mr_icmp_ge_f (t := 183) (pc' := 164) dX10_init_161 (by decide) rfl (by decide) ?_
  refine mr_aload_n (pc' := 165) dX10_init_164 rfl rfl ?_
  refine sr_getR (pc' := 168) (ci := 10) (j := 3) (n := 138) (s := 34) (b := 23) dX10_init_165 rfl rfl rfl (by decide) rfl rfl ?_
  refine mr_iload_n (pc' := 169) dX10_init_168 rfl rfl ?_
  refine sr_new (pc' := 172) (c := 4) (n := 138) (s := 34) dX10_init_169 rfl rfl rfl (by decide) ?_
  refine mr_dup_ref (pc' := 173) dX10_init_172 rfl ?_
  refine mr_callg (d1 := 0) (Y' := mY_X4_init) (as := [.ref 138]) (rest := [.ref 138, .int (3 : Int32), .ref 23]) (mm_nd_uq rfl) dX10_init_173 rfl rfl (by decide) ct_X4_init_138 ?_
  show mr X _ _ 176 _ [.ref 138, .int (3 : Int32), .ref 23] (sM 141 32) _
  refine sr_aas (pc' := 177) (n := 141) (s := 31) dX10_init_176 rfl (by decide) (by decide) rfl ?_
  refine mr_iinc (pc' := 180) (x' := (4 : Int32)) (lv' := [(1, .int (4 : Int32)), (0, .ref 0)]) dX10_init_177 rfl (by decide) rfl rfl (by decide) ?_
  refine mr_goto (t := 158) dX10_init_180 (by decide) ?_
  refine mr_iload_n (pc' := 159) dX10_init_158 rfl rfl ?_
  refine mr_bipush (pc' := 161) (v := (6 : Int32)) dX10_init_159 rfl (by decide) ?_
  refine mr_icmp_ge_f (t := 183) (pc' := 164) dX10_init_161 (by decide) rfl (by decide) ?_
  refine mr_aload_n (pc' := 165) dX10_init_164 rfl rfl ?_
  refine sr_getR (pc' := 168) (ci := 10) (j := 3) (n := 141) (s := 31) (b := 23) dX10_init_165 rfl rfl rfl (by decide) rfl rfl ?_
  refine mr_iload_n (pc' := 169) dX10_init_168 rfl rfl ?_
  refine sr_new (pc' := 172) (c := 4) (n := 141) (s := 31) dX10_init_169 rfl rfl rfl (by decide) ?_
  refine mr_dup_ref (pc' := 173) dX10_init_172 rfl ?_
  refine mr_callg (d1 := 0) (Y' := mY_X4_init) (as := [.ref 141]) (rest := [.ref 141, .int (4 : Int32), .ref 23]) (mm_nd_uq rfl) dX10_init_173 rfl rfl (by decide) ct_X4_init_141 ?_
  show mr X _ _ 176 _ [.ref 141, .int (4 : Int32), .ref 23] (sM 144 29) _
  refine sr_aas (pc' := 177) (n := 144) (s := 28) dX10_init_176 rfl (by decide) (by decide) rfl ?_
  refine mr_iinc (pc' := 180) (x' := (5 : Int32)) (lv' := [(1, .int (5 : Int32)), (0, .ref 0)]) dX10_init_177 rfl (by decide) rfl rfl (by decide) ?_
  refine mr_goto (t := 158) dX10_init_180 (by decide) ?_
  refine mr_iload_n (pc' := 159) dX10_init_158 rfl rfl ?_
  refine mr_bipush (pc' := 161) (v := (6 : Int32)) dX10_init_159 rfl (by decide) ?_
  refine mr_icmp_ge_f (t := 183) (pc' := 164) dX10_init_161 (by decide) rfl (by decide) ?_
  refine mr_aload_n (pc' := 165) dX10_init_164 rfl rfl ?_
  refine sr_getR (pc' := 168) (ci := 10) (j := 3) (n := 144) (s := 28) (b := 23) dX10_init_165 rfl rfl rfl (by decide) rfl rfl ?_
  refine mr_iload_n (pc' := 169) dX10_init_168 rfl rfl ?_
  refine sr_new (pc' := 172) (c := 4) (n := 144) (s := 28) dX10_init_169 rfl rfl rfl (by decide) ?_
  refine mr_dup_ref (pc' := 173) dX10_init_172 rfl ?_
  refine mr_callg (d1 := 0) (Y' := mY_X4_init) (as := [.ref 144]) (rest := [.ref 144, .int (5 : Int32), .ref 23]) (mm_nd_uq rfl) dX10_init_173 rfl rfl (by decide) ct_X4_init_144 ?_
  show mr X _ _ 176 _ [.ref 144, .int (5 : Int32), .ref 23] (sM 147 26) _
  refine sr_aas (pc' := 177) (n := 147) (s := 25) dX10_init_176 rfl (by decide) (by decide) rfl ?_
  refine mr_iinc (pc' := 180) (x' := (6 : Int32)) (lv' := [(1, .int (6 : Int32)), (0, .ref 0)]) dX10_init_177 rfl (by decide) rfl rfl (by decide) ?_
  refine mr_goto (t := 158) dX10_init_180 (by decide) ?_
  refine mr_iload_n (pc' := 159) dX10_init_158 rfl rfl ?_
  refine mr_bipush (pc' := 161) (v := (6 : Int32)) dX10_init_159 rfl (by decide) ?_
  refine mr_icmp_ge_t (t := 183) dX10_init_161 (by decide) (by decide) ?_
  exact mr_return dX10_init_183 rfl
set_option maxRecDepth 100000 in
theorem ct_X11_init_147 : mr X 0 mY_X11_init 0 (lv_args 0 [.ref 147]) [] (sM 148 25) (none, sM 173 0) := by
  show mr X _ _ 0 [(0, .ref 147)] [] _ _
  refine mr_aload_n (pc' := 1) dX11_init_0 rfl rfl ?_
  refine sr_obj (pc' := 4) dX11_init_1 rfl rfl (by decide) ?_
  refine mr_aload_n (pc' := 5) dX11_init_4 rfl rfl ?_
  refine mr_sipush (pc' := 8) (v := (400 : Int32)) dX11_init_5 rfl (by decide) ?_
  refine sr_na (pc' := 10) (n := 148) (s := 25) dX11_init_8 rfl (by decide) (by decide) (by decide) rfl (by decide) ?_
  refine sr_putR (pc' := 13) (ci := 11) (j := 0) (n := 149) (s := 24) dX11_init_10 rfl rfl rfl (by decide) rfl rfl rfl rfl ?_
  refine mr_aload_n (pc' := 14) dX11_init_13 rfl rfl ?_
  refine mr_sipush (pc' := 17) (v := (2400 : Int32)) dX11_init_14 rfl (by decide) ?_
  refine sr_na (pc' := 19) (n := 149) (s := 24) dX11_init_17 rfl (by decide) (by decide) (by decide) rfl (by decide) ?_
  refine sr_putR (pc' := 22) (ci := 11) (j := 3) (n := 150) (s := 23) dX11_init_19 rfl rfl rfl (by decide) rfl rfl rfl rfl ?_
  refine mr_aload_n (pc' := 23) dX11_init_22 rfl rfl ?_
  refine mr_bipush (pc' := 25) (v := (7 : Int32)) dX11_init_23 rfl (by decide) ?_
  refine sr_na (pc' := 27) (n := 150) (s := 23) dX11_init_25 rfl (by decide) (by decide) (by decide) rfl (by decide) ?_
  refine sr_putR (pc' := 30) (ci := 11) (j := 4) (n := 151) (s := 22) dX11_init_27 rfl rfl rfl (by decide) rfl rfl rfl rfl ?_
  refine mr_aload_n (pc' := 31) dX11_init_30 rfl rfl ?_
  refine mr_sipush (pc' := 34) (v := (216 : Int32)) dX11_init_31 rfl (by decide) ?_
  refine sr_na (pc' := 36) (n := 151) (s := 22) dX11_init_34 rfl (by decide) (by decide) (by decide) rfl (by decide) ?_
  refine sr_putR (pc' := 39) (ci := 11) (j := 5) (n := 152) (s := 21) dX11_init_36 rfl rfl rfl (by decide) rfl rfl rfl rfl ?_
  refine mr_aload_n (pc' := 40) dX11_init_39 rfl rfl ?_
  refine mr_bipush (pc' := 42) (v := (6 : Int32)) dX11_init_40 rfl (by decide) ?_
  refine sr_na (pc' := 44) (n := 152) (s := 21) dX11_init_42 rfl (by decide) (by decide) (by decide) rfl (by decide) ?_
  refine sr_putR (pc' := 47) (ci := 11) (j := 6) (n := 153) (s := 20) dX11_init_44 rfl rfl rfl (by decide) rfl rfl rfl rfl ?_
  refine mr_aload_n (pc' := 48) dX11_init_47 rfl rfl ?_
  refine mr_bipush (pc' := 50) (v := (20 : Int32)) dX11_init_48 rfl (by decide) ?_
  refine sr_na (pc' := 52) (n := 153) (s := 20) dX11_init_50 rfl (by decide) (by decide) (by decide) rfl (by decide) ?_
  refine sr_putR (pc' := 55) (ci := 11) (j := 10) (n := 154) (s := 19) dX11_init_52 rfl rfl rfl (by decide) rfl rfl rfl rfl ?_
  refine mr_aload_n (pc' := 56) dX11_init_55 rfl rfl ?_
  refine mr_bipush (pc' := 58) (v := (60 : Int32)) dX11_init_56 rfl (by decide) ?_
  refine sr_na (pc' := 60) (n := 154) (s := 19) dX11_init_58 rfl (by decide) (by decide) (by decide) rfl (by decide) ?_
  refine sr_putR (pc' := 63) (ci := 11) (j := 11) (n := 155) (s := 18) dX11_init_60 rfl rfl rfl (by decide) rfl rfl rfl rfl ?_
  refine mr_aload_n (pc' := 64) dX11_init_63 rfl rfl ?_
  refine mr_bipush (pc' := 66) (v := (8 : Int32)) dX11_init_64 rfl (by decide) ?_
  refine sr_na (pc' := 68) (n := 155) (s := 18) dX11_init_66 rfl (by decide) (by decide) (by decide) rfl (by decide) ?_
  refine sr_putR (pc' := 71) (ci := 11) (j := 12) (n := 156) (s := 17) dX11_init_68 rfl rfl rfl (by decide) rfl rfl rfl rfl ?_
  refine mr_aload_n (pc' := 72) dX11_init_71 rfl rfl ?_
  refine mr_sipush (pc' := 75) (v := (400 : Int32)) dX11_init_72 rfl (by decide) ?_
  refine sr_na (pc' := 77) (n := 156) (s := 17) dX11_init_75 rfl (by decide) (by decide) (by decide) rfl (by decide) ?_
  refine sr_putR (pc' := 80) (ci := 11) (j := 20) (n := 157) (s := 16) dX11_init_77 rfl rfl rfl (by decide) rfl rfl rfl rfl ?_
  refine mr_aload_n (pc' := 81) dX11_init_80 rfl rfl ?_
  refine mr_bipush (pc' := 83) (v := (64 : Int32)) dX11_init_81 rfl (by decide) ?_
  refine sr_na (pc' := 85) (n := 157) (s := 16) dX11_init_83 rfl (by decide) (by decide) (by decide) rfl (by decide) ?_
  refine sr_putR (pc' := 88) (ci := 11) (j := 22) (n := 158) (s := 15) dX11_init_85 rfl rfl rfl (by decide) rfl rfl rfl rfl ?_
  refine mr_aload_n (pc' := 89) dX11_init_88 rfl rfl ?_
  refine mr_bipush (pc' := 91) (v := (8 : Int32)) dX11_init_89 rfl (by decide) ?_
  refine sr_na (pc' := 93) (n := 158) (s := 15) dX11_init_91 rfl (by decide) (by decide) (by decide) rfl (by decide) ?_
  refine sr_putR (pc' := 96) (ci := 11) (j := 24) (n := 159) (s := 14) dX11_init_93 rfl rfl rfl (by decide) rfl rfl rfl rfl ?_
  refine mr_aload_n (pc' := 97) dX11_init_96 rfl rfl ?_
  refine mr_sipush (pc' := 100) (v := (158 : Int32)) dX11_init_97 rfl (by decide) ?_
  refine sr_na (pc' := 102) (n := 159) (s := 14) dX11_init_100 rfl (by decide) (by decide) (by decide) rfl (by decide) ?_
  refine sr_putR (pc' := 105) (ci := 11) (j := 25) (n := 160) (s := 13) dX11_init_102 rfl rfl rfl (by decide) rfl rfl rfl rfl ?_
  refine mr_aload_n (pc' := 106) dX11_init_105 rfl rfl ?_
  refine mr_bipush (pc' := 108) (v := (8 : Int32)) dX11_init_106 rfl (by decide) ?_
  refine sr_na (pc' := 110) (n := 160) (s := 13) dX11_init_108 rfl (by decide) (by decide) (by decide) rfl (by decide) ?_
  refine sr_putR (pc' := 113) (ci := 11) (j := 26) (n := 161) (s := 12) dX11_init_110 rfl rfl rfl (by decide) rfl rfl rfl rfl ?_
  refine mr_aload_n (pc' := 114) dX11_init_113 rfl rfl ?_
  refine mr_sipush (pc' := 117) (v := (158 : Int32)) dX11_init_114 rfl (by decide) ?_
  refine sr_na (pc' := 119) (n := 161) (s := 12) dX11_init_117 rfl (by decide) (by decide) (by decide) rfl (by decide) ?_
  refine sr_putR (pc' := 122) (ci := 11) (j := 27) (n := 162) (s := 11) dX11_init_119 rfl rfl rfl (by decide) rfl rfl rfl rfl ?_
  refine mr_aload_n (pc' := 123) dX11_init_122 rfl rfl ?_
  refine mr_bipush (pc' := 125) (v := (8 : Int32)) dX11_init_123 rfl (by decide) ?_
  refine sr_na (pc' := 127) (n := 162) (s := 11) dX11_init_125 rfl (by decide) (by decide) (by decide) rfl (by decide) ?_
  refine sr_putR (pc' := 130) (ci := 11) (j := 28) (n := 163) (s := 10) dX11_init_127 rfl rfl rfl (by decide) rfl rfl rfl rfl ?_
  refine mr_aload_n (pc' := 131) dX11_init_130 rfl rfl ?_
  refine mr_bipush (pc' := 133) (v := (100 : Int32)) dX11_init_131 rfl (by decide) ?_
  refine sr_na (pc' := 135) (n := 163) (s := 10) dX11_init_133 rfl (by decide) (by decide) (by decide) rfl (by decide) ?_
  refine sr_putR (pc' := 138) (ci := 11) (j := 29) (n := 164) (s := 9) dX11_init_135 rfl rfl rfl (by decide) rfl rfl rfl rfl ?_
  refine mr_aload_n (pc' := 139) dX11_init_138 rfl rfl ?_
  refine mr_sipush (pc' := 142) (v := (1210 : Int32)) dX11_init_139 rfl (by decide) ?_
  refine sr_na (pc' := 144) (n := 164) (s := 9) dX11_init_142 rfl (by decide) (by decide) (by decide) rfl (by decide) ?_
  refine sr_putR (pc' := 147) (ci := 11) (j := 30) (n := 165) (s := 8) dX11_init_144 rfl rfl rfl (by decide) rfl rfl rfl rfl ?_
  refine mr_aload_n (pc' := 148) dX11_init_147 rfl rfl ?_
  refine mr_bipush (pc' := 150) (v := (10 : Int32)) dX11_init_148 rfl (by decide) ?_
  refine sr_na (pc' := 152) (n := 165) (s := 8) dX11_init_150 rfl (by decide) (by decide) (by decide) rfl (by decide) ?_
  refine sr_putR (pc' := 155) (ci := 11) (j := 31) (n := 166) (s := 7) dX11_init_152 rfl rfl rfl (by decide) rfl rfl rfl rfl ?_
  refine mr_aload_n (pc' := 156) dX11_init_155 rfl rfl ?_
  refine mr_sipush (pc' := 159) (v := (4001 : Int32)) dX11_init_156 rfl (by decide) ?_
  refine sr_na (pc' := 161) (n := 166) (s := 7) dX11_init_159 rfl (by decide) (by decide) (by decide) rfl (by decide) ?_
  refine sr_putR (pc' := 164) (ci := 11) (j := 32) (n := 167) (s := 6) dX11_init_161 rfl rfl rfl (by decide) rfl rfl rfl rfl ?_
  refine mr_aload_n (pc' := 165) dX11_init_164 rfl rfl ?_
  refine mr_sipush (pc' := 168) (v := (4001 : Int32)) dX11_init_165 rfl (by decide) ?_
  refine sr_na (pc' := 170) (n := 167) (s := 6) dX11_init_168 rfl (by decide) (by decide) (by decide) rfl (by decide) ?_
  refine sr_putR (pc' := 173) (ci := 11) (j := 33) (n := 168) (s := 5) dX11_init_170 rfl rfl rfl (by decide) rfl rfl rfl rfl ?_
  refine mr_aload_n (pc' := 174) dX11_init_173 rfl rfl ?_
  refine mr_sipush (pc' := 177) (v := (4001 : Int32)) dX11_init_174 rfl (by decide) ?_
  refine sr_na (pc' := 179) (n := 168) (s := 5) dX11_init_177 rfl (by decide) (by decide) (by decide) rfl (by decide) ?_
  refine sr_putR (pc' := 182) (ci := 11) (j := 34) (n := 169) (s := 4) dX11_init_179 rfl rfl rfl (by decide) rfl rfl rfl rfl ?_
  refine mr_aload_n (pc' := 183) dX11_init_182 rfl rfl ?_
  refine mr_sipush (pc' := 186) (v := (4001 : Int32)) dX11_init_183 rfl (by decide) ?_
  refine sr_na (pc' := 188) (n := 169) (s := 4) dX11_init_186 rfl (by decide) (by decide) (by decide) rfl (by decide) ?_
  refine sr_putR (pc' := 191) (ci := 11) (j := 35) (n := 170) (s := 3) dX11_init_188 rfl rfl rfl (by decide) rfl rfl rfl rfl ?_
  refine mr_aload_n (pc' := 192) dX11_init_191 rfl rfl ?_
  refine mr_sipush (pc' := 195) (v := (632 : Int32)) dX11_init_192 rfl (by decide) ?_
  refine sr_na (pc' := 197) (n := 170) (s := 3) dX11_init_195 rfl (by decide) (by decide) (by decide) rfl (by decide) ?_
  refine sr_putR (pc' := 200) (ci := 11) (j := 38) (n := 171) (s := 2) dX11_init_197 rfl rfl rfl (by decide) rfl rfl rfl rfl ?_
  refine mr_aload_n (pc' := 201) dX11_init_200 rfl rfl ?_
  refine mr_bipush (pc' := 203) (v := (32 : Int32)) dX11_init_201 rfl (by decide) ?_
  refine sr_na (pc' := 205) (n := 171) (s := 2) dX11_init_203 rfl (by decide) (by decide) (by decide) rfl (by decide) ?_
  refine sr_putR (pc' := 208) (ci := 11) (j := 39) (n := 172) (s := 1) dX11_init_205 rfl rfl rfl (by decide) rfl rfl rfl rfl ?_
  refine mr_aload_n (pc' := 209) dX11_init_208 rfl rfl ?_
  refine mr_iconst (pc' := 210) (v := (4 : Int32)) dX11_init_209 rfl (by decide) ?_
  refine sr_na (pc' := 212) (n := 172) (s := 1) dX11_init_210 rfl (by decide) (by decide) (by decide) rfl (by decide) ?_
  refine sr_putR (pc' := 215) (ci := 11) (j := 40) (n := 173) (s := 0) dX11_init_212 rfl rfl rfl (by decide) rfl rfl rfl rfl ?_
  exact mr_return dX11_init_215 rfl
def lkr : List (Nat × Nat) → Nat → Option Nat
  | [], _ => none
  | e :: W, k => if k = e.1 then some e.2 else lkr W k
def fm (W : List (Nat × Nat × Nat)) (a : Nat) : List (Nat × Nat) := W.filterMap (fun e => if e.1 = a then some e.2 else none)
theorem lk_fm : ∀ (W : List (Nat × Nat × Nat)) (a k : Nat), lk W a k = lkr (fm W a) k := by
  intro W
  induction W with
  | nil => intro a k; rfl
  | cons e W ih =>
    intro a k
    show (if a = e.1 then (if k = e.2.1 then some e.2.2 else lk W a k) else lk W a k) = lkr (List.filterMap _ (e :: W)) k
    by_cases h : a = e.1
    · rw [if_pos h, List.filterMap_cons, if_pos h.symm, ih a k]
      rfl
    · rw [if_neg h, List.filterMap_cons, if_neg (fun z => h z.symm), ih a k]
      rfl
def fr (o : Option (List (Option Nat))) (k : Nat) : Option Nat := o.bind (fun l => (l[k]?).bind id)
theorem st_rows : (List.range 173).all (fun a => (List.range 41).all (fun k => decide (lkr (fm WW a) k = fr (mm_ix RRl a) k))) = true := by decide +kernel
theorem st_R : RRok (lk WW) := by
  intro a k ha hk
  have h := List.all_eq_true.mp st_rows a (List.mem_range.mpr ha)
  have h2 := List.all_eq_true.mp h k (List.mem_range.mpr hk)
  rw [lk_fm, of_decide_eq_true h2]
  rfl
def S00 : fS := (fun _ _ => 0, fun _ _ => 0)
theorem st_M : sM 173 0 = MM (lk WW) S00 := by
  show (KK.take 173, (fun _ _ => (0 : Int32)), (fun _ _ => (0 : Int64)), lk (WW.drop 0)) = (KK, _, _, lk WW)
  rfl
theorem st_z : mm_Z = sM 0 175 := by
  show ([], (fun _ _ => (0 : Int32)), (fun _ _ => (0 : Int64)), fun _ _ => none) = (KK.take 0, (fun _ _ => (0 : Int32)), (fun _ _ => (0 : Int64)), lk (WW.drop 175))
  have e : lk (WW.drop 175) = fun _ _ => none := rfl
  rw [e]
  rfl
/-- from the law's first instruction to its loop -/
theorem st_law (hL : X.1 < 100000) {S : fS} (h : lp_L_law_18 X (fun S => some (1, S)) FU 0 S00 = some (1, S)) : mr X 13 mY_L_law 0 (lv_args 0 [.ref mm_ext]) [] mm_Z (some (.int 1), MM (lk WW) S) := by
  rw [st_z]
  show mr X _ _ 0 [(0, .ref mm_ext)] [] _ _
  refine sr_new (pc' := 3) (c := 10) (n := 0) (s := 175) dL_law_0 rfl rfl rfl (by decide) ?_
  refine mr_dup_ref (pc' := 4) dL_law_3 rfl ?_
  refine mr_callg (d1 := 2) (Y' := mY_X10_init) (as := [.ref 0]) (rest := [.ref 0]) (mm_nd_uq rfl) dL_law_4 rfl rfl (by decide) ct_X10_init_0 ?_
  show mr X _ _ 7 _ [.ref 0] (sM 147 25) _
  refine mr_astore_n (pc' := 8) (lv' := [(1, .ref 0), (0, .ref mm_ext)]) dL_law_7 rfl (by decide) rfl ?_
  refine sr_new (pc' := 11) (c := 11) (n := 147) (s := 25) dL_law_8 rfl rfl rfl (by decide) ?_
  refine mr_dup_ref (pc' := 12) dL_law_11 rfl ?_
  refine mr_callg (d1 := 0) (Y' := mY_X11_init) (as := [.ref 147]) (rest := [.ref 147]) (mm_nd_uq rfl) dL_law_12 rfl rfl (by decide) ct_X11_init_147 ?_
  show mr X _ _ 15 _ [.ref 147] (sM 173 0) _
  refine mr_astore_n (pc' := 16) (lv' := [(2, .ref 147), (1, .ref 0), (0, .ref mm_ext)]) dL_law_15 rfl (by decide) rfl ?_
  refine mr_iconst (pc' := 17) (v := 0) dL_law_16 rfl (by decide) ?_
  refine mr_istore_n (pc' := 18) (lv' := [(3, .int 0), (2, .ref 147), (1, .ref 0), (0, .ref mm_ext)]) dL_law_17 rfl (by decide) rfl ?_
  rw [st_M]
  refine mr_sub [(0, .ref mm_ext), (1, .ref 0), (2, .ref 147), (3, .int 0)] ⟨rfl, rfl, rfl, rfl, trivial⟩ rfl ?_
  refine ok_lp_L_law_18 (r := (1, S)) st_R hL (fun Sk hk => ?_) FU 0 S00 h
  have e := (Prod.mk.inj (Option.some.inj hk)).2
  subst e
  refine mr_iconst (pc' := 1635) (v := 1) dL_law_1634 rfl (by decide) ?_
  exact mr_zreturn dL_law_1635 rfl (by decide)
theorem st_len : KK.length ≤ 600000 := by decide +kernel
theorem st_sl : (KK.map (fun q => q.2)).sum ≤ 7302250 := by decide +kernel
/-- what is left: the law's loop answers 1 -/
theorem mm_law_of (hL : X.1 < 100000) {S : fS} (h : lp_L_law_18 X (fun S => some (1, S)) FU 0 S00 = some (1, S)) : mm_Law X := by
  obtain ⟨n, e⟩ := st_law hL h
  refine ⟨n, _, e, ?_, ?_⟩
  · exact st_len
  · exact st_sl
end SR
