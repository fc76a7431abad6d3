/-! the JDK's members over String constants -/
def f_J0_length_8abf5 (w : Nat) : Option Int32 := some (Int32.ofNat (mm_sb.getD w []).length)
def f_J0_charAt_5068e (w : Nat) (i : Int32) : Option Int32 := if i < 0 ∨ (mm_sb.getD w []).length ≤ i.toNatClampNeg then none else some ((mm_sb.getD w []).getD i.toNatClampNeg 0)
section JD
variable {X : mm_C} {d : Nat} {Y : mm_Y} {pc pc' : Nat} {lv lv' : mm_L} {st : List Value} {M : mm_M} {r : Option Value × mm_M}
theorem sx10 {w : Nat} (hw : w < 16) : ¬ mm_ext + 10 + w < mm_ext ∧ 10 ≤ mm_ext + 10 + w - mm_ext ∧ mm_ext + 10 + w - mm_ext < 26 := by unfold mm_ext; omega
theorem sx50 {w : Nat} (hw : w < 16) : ¬ mm_ext + 10 + w + 40 < mm_ext ∧ ¬ mm_ext + 10 + w + 40 = mm_ext ∧ 50 ≤ mm_ext + 10 + w + 40 - mm_ext ∧ mm_ext + 10 + w + 40 - mm_ext < 66 ∧ mm_ext + 10 + w + 40 - mm_ext - 50 = w := by unfold mm_ext; omega
theorem mr_getSv {cp w : Nat} (hw : w < 16) (hd : decode Y.2.2.1 pc = .ok (.getfield cp, 3)) (hp : pc + 3 = pc') (hf : mm_fx Y.1 cp = some 0) (k : mr X d Y pc' lv (.ref (mm_ext + 10 + w + 40) :: st) M r) : mr X d Y pc lv (.ref (mm_ext + 10 + w) :: st) M r := by
  subst hp
  refine mr_hpg (q := (3, .ref (mm_ext + 10 + w + 40) :: st, M)) hd rfl rfl ?_ rfl k
  show mm_gf Y cp (.ref (mm_ext + 10 + w) :: st) M = _
  unfold mm_gf
  dsimp only
  rw [if_neg (sx10 hw).1, hf]
  rw [Option.bind_some]
  rw [if_pos ⟨(sx10 hw).2.1, (sx10 hw).2.2⟩]
  rfl
theorem mr_getSc {cp w : Nat} (hw : w < 16) (hd : decode Y.2.2.1 pc = .ok (.getfield cp, 3)) (hp : pc + 3 = pc') (hf : mm_fx Y.1 cp = some 1) (k : mr X d Y pc' lv (.int 0 :: st) M r) : mr X d Y pc lv (.ref (mm_ext + 10 + w) :: st) M r := by
  subst hp
  refine mr_hpg (q := (3, .int 0 :: st, M)) hd rfl rfl ?_ rfl k
  show mm_gf Y cp (.ref (mm_ext + 10 + w) :: st) M = _
  unfold mm_gf
  dsimp only
  rw [if_neg (sx10 hw).1, hf]
  rw [Option.bind_some]
  rw [if_pos ⟨(sx10 hw).2.1, (sx10 hw).2.2⟩]
  rfl
theorem mr_slen {w : Nat} (hw : w < 16) (hd : decode Y.2.2.1 pc = .ok (.arraylength, 1)) (hp : pc + 1 = pc') (k : mr X d Y pc' lv (.int (Int32.ofNat (mm_sb.getD w []).length) :: st) M r) : mr X d Y pc lv (.ref (mm_ext + 10 + w + 40) :: st) M r := by
  subst hp
  obtain ⟨e1, e2, e3, e4, e5⟩ := sx50 hw
  refine mr_hpg (q := (1, .int (Int32.ofNat (mm_sb.getD w []).length) :: st, M)) hd rfl rfl ?_ rfl k
  show mm_alen X (.ref (mm_ext + 10 + w + 40) :: st) M = _
  unfold mm_alen
  dsimp only
  rw [if_neg e1, if_neg e2, if_pos ⟨e3, e4⟩, e5]
theorem mr_sald {w : Nat} {i : Int32} (hw : w < 16) (hi : ¬ (i < 0 ∨ (mm_sb.getD w []).length ≤ i.toNatClampNeg)) (hd : decode Y.2.2.1 pc = .ok (.baload, 1)) (hp : pc + 1 = pc') (k : mr X d Y pc' lv (.int ((mm_sb.getD w []).getD i.toNatClampNeg 0) :: st) M r) : mr X d Y pc lv (.int i :: .ref (mm_ext + 10 + w + 40) :: st) M r := by
  subst hp
  obtain ⟨e1, e2, e3, e4, e5⟩ := sx50 hw
  refine mr_hpg (q := (1, .int ((mm_sb.getD w []).getD i.toNatClampNeg 0) :: st, M)) hd rfl rfl ?_ rfl k
  show mm_bal (.int i :: .ref (mm_ext + 10 + w + 40) :: st) M = _
  unfold mm_bal
  dsimp only
  rw [if_neg e1, e5, if_pos ⟨e3, e4, hi⟩]
theorem mr_gs38 (hY : Y.1 = 14) (hd : decode Y.2.2.1 pc = .ok (.getstatic 38, 3)) (hp : pc + 3 = pc') (k : mr X d Y pc' lv (.int 1 :: st) M r) : mr X d Y pc lv st M r := by
  subst hp
  refine mr_hpg (q := (3, .int 1 :: st, M)) hd rfl rfl ?_ rfl k
  show mm_gs Y 38 st M = _
  unfold mm_gs
  rw [hY]
  rfl
theorem mr_gs1053 (hY : Y.1 = 14) (hd : decode Y.2.2.1 pc = .ok (.getstatic 1053, 3)) (hp : pc + 3 = pc') (k : mr X d Y pc' lv (.retAddr 0 :: st) M r) : mr X d Y pc lv st M r := by
  subst hp
  refine mr_hpg (q := (3, .retAddr 0 :: st, M)) hd rfl rfl ?_ rfl k
  show mm_gs Y 1053 st M = _
  unfold mm_gs
  rw [hY]
  rfl
theorem mr_xreturn {v : Int32} {ty : FieldType} (hd : decode Y.2.2.1 pc = .ok (.ireturn, 1)) (hr : Y.2.2.2.2 = some ty) (hv : narrow ty (.int v) = .int v) : mr X d Y pc lv [.int v] M (some (.int v), M) := mr_retg hd rfl rfl (by
  show mm_ri Y.2.2.2.2 [.int v] = _
  rw [hr]
  show (if ty = .int ∨ narrow ty (Value.int v) = Value.int v then some (some (Value.int v)) else none) = _
  rw [if_pos (Or.inr hv)])
theorem mr_cvS {d1 cp np w : Nat} {Y' : mm_Y} {as rest : List Value} {v : Int32} (hd : decode Y.2.2.1 pc = .ok (.invokevirtual cp, 3)) (hp : pc + 3 = pc') (hu : va_nd (lv.map (fun q => q.1)) = true) (hm : mm_ml Y.1 cp = some (0, np, Y')) (hs : st.drop np = .ref (mm_ext + 10 + w) :: rest) (ha : (st.take np).reverse = as) (hY : Y'.1 = 14) (hf : mm_fit Y' (.ref (mm_ext + 10 + w) :: as) rest = true) (hw : w < 16) (h1 : d1 ≤ d) (k1 : mr X d1 Y' 0 (lv_args 0 (.ref (mm_ext + 10 + w) :: as)) [] M (some (.int v), M)) (k : mr X (d + 1) Y pc' lv (.int v :: rest) M r) : mr X (d + 1) Y pc lv st M r := by
  subst hp
  subst ha
  refine mr_callg (mm_nd_uq hu) hd rfl ?_ h1 k1 k
  show (mm_ml Y.1 cp).bind _ = _
  rw [hm]
  show (match st.drop np with | Value.ref a :: r => if 0 = 0 ∧ mm_rc Y' M a = true ∧ mm_fit Y' (Value.ref a :: (st.take np).reverse) r = true then some (Y', Value.ref a :: (st.take np).reverse, r) else none | _ => none) = _
  have hrc : mm_rc Y' M (mm_ext + 10 + w) = true := by
    unfold mm_rc
    rw [if_neg (sx10 hw).1]
    exact decide_eq_true ⟨hY, (sx10 hw).2.1, (sx10 hw).2.2⟩
  rw [hs]
  dsimp only
  rw [if_pos ⟨rfl, hrc, hf⟩]
theorem ok_J0_coder {w : Nat} (hw : w < 16) : mr X 0 mY_J0_coder_7d493 0 (lv_args 0 [.ref (mm_ext + 10 + w)]) [] M (some (.int 0), M) := by
  show mr X _ _ 0 [(0, .ref (mm_ext + 10 + w))] [] M _
  refine mr_gs38 (pc' := 3) rfl dJ0_coder_7d493_0 rfl ?_
  refine mr_if_eq_f (t := 13) (pc' := 6) dJ0_coder_7d493_3 (by decide) rfl (by decide) ?_
  refine mr_aload_n (pc' := 7) dJ0_coder_7d493_6 rfl rfl ?_
  refine mr_getSc (pc' := 10) hw dJ0_coder_7d493_7 rfl rfl ?_
  refine mr_goto (t := 14) dJ0_coder_7d493_10 (by decide) ?_
  exact mr_xreturn dJ0_coder_7d493_14 rfl rfl
theorem ok_J0_isLatin1 {w : Nat} (hw : w < 16) : mr X 0 mY_J0_isLatin1_aae02 0 (lv_args 0 [.ref (mm_ext + 10 + w)]) [] M (some (.int 1), M) := by
  show mr X _ _ 0 [(0, .ref (mm_ext + 10 + w))] [] M _
  refine mr_gs38 (pc' := 3) rfl dJ0_isLatin1_aae02_0 rfl ?_
  refine mr_if_eq_f (t := 17) (pc' := 6) dJ0_isLatin1_aae02_3 (by decide) rfl (by decide) ?_
  refine mr_aload_n (pc' := 7) dJ0_isLatin1_aae02_6 rfl rfl ?_
  refine mr_getSc (pc' := 10) hw dJ0_isLatin1_aae02_7 rfl rfl ?_
  refine mr_if_ne_f (t := 17) (pc' := 13) dJ0_isLatin1_aae02_10 (by decide) rfl (by decide) ?_
  refine mr_iconst (pc' := 14) (v := 1) dJ0_isLatin1_aae02_13 rfl (by decide) ?_
  refine mr_goto (t := 18) dJ0_isLatin1_aae02_14 (by decide) ?_
  exact mr_xreturn dJ0_isLatin1_aae02_18 rfl rfl
theorem ok_J0_length_8abf5 {w : Nat} {r : Int32} (hw : w < 16) (h : f_J0_length_8abf5 w = some r) : mr X 1 mY_J0_length_8abf5 0 (lv_args 0 [.ref (mm_ext + 10 + w)]) [] M (some (.int r), M) := by
  cases h
  show mr X _ _ 0 [(0, .ref (mm_ext + 10 + w))] [] M _
  refine mr_aload_n (pc' := 1) dJ0_length_8abf5_0 rfl rfl ?_
  refine mr_getSv (pc' := 4) hw dJ0_length_8abf5_1 rfl rfl ?_
  refine mr_slen (pc' := 5) hw dJ0_length_8abf5_4 rfl ?_
  refine mr_aload_n (pc' := 6) dJ0_length_8abf5_5 rfl rfl ?_
  refine mr_cvS (pc' := 9) (w := w) (d1 := 0) dJ0_length_8abf5_6 rfl rfl rfl rfl rfl rfl rfl hw (by decide) (ok_J0_coder hw) ?_
  refine mr_ishr (pc' := 10) dJ0_length_8abf5_9 rfl ?_
  rw [sb_shr0]
  exact mr_ireturn dJ0_length_8abf5_10 rfl
theorem ok_J3_checkIndex {i n : Int32} (h0 : ¬ i < 0) (h1 : i < n) : mr X 0 mY_J3_checkIndex_8e157 0 (lv_args 0 [.int i, .int n, .retAddr 0]) [] M (some (.int i), M) := by
  show mr X _ _ 0 [(0, .int i), (1, .int n), (2, .retAddr 0)] [] M _
  refine mr_iload_n (pc' := 1) dJ3_checkIndex_8e157_0 rfl rfl ?_
  refine mr_if_lt_f (t := 9) (pc' := 4) dJ3_checkIndex_8e157_1 (by decide) rfl h0 ?_
  refine mr_iload_n (pc' := 5) dJ3_checkIndex_8e157_4 rfl rfl ?_
  refine mr_iload_n (pc' := 6) dJ3_checkIndex_8e157_5 rfl rfl ?_
  refine mr_icmp_lt_t (t := 16) dJ3_checkIndex_8e157_6 (by decide) h1 ?_
  refine mr_iload_n (pc' := 17) dJ3_checkIndex_8e157_16 rfl rfl ?_
  exact mr_ireturn dJ3_checkIndex_8e157_17 rfl
theorem ok_J0_checkIndex {i n : Int32} (h0 : ¬ i < 0) (h1 : i < n) : mr X 1 mY_J0_checkIndex_df160 0 (lv_args 0 [.int i, .int n]) [] M (none, M) := by
  show mr X _ _ 0 [(0, .int i), (1, .int n)] [] M _
  refine mr_iload_n (pc' := 1) dJ0_checkIndex_df160_0 rfl rfl ?_
  refine mr_iload_n (pc' := 2) dJ0_checkIndex_df160_1 rfl rfl ?_
  refine mr_gs1053 (pc' := 5) rfl dJ0_checkIndex_df160_2 rfl ?_
  refine mr_cs (pc' := 8) (d1 := 0) dJ0_checkIndex_df160_5 rfl rfl rfl rfl (by decide) (Nat.le_of_ble_eq_true rfl) rfl rfl rfl (by decide) (ok_J3_checkIndex h0 h1) ?_
  refine mr_pop_int (pc' := 9) dJ0_checkIndex_df160_8 rfl ?_
  exact mr_return dJ0_checkIndex_df160_9 rfl
theorem sb_small : ∀ w, w < 16 → ∀ j, j < (mm_sb.getD w []).length → ((((mm_sb.getD w []).getD j 0) &&& 255).toUInt32 % 65536).toInt32 = (mm_sb.getD w []).getD j 0 ∧ narrow .char (.int ((mm_sb.getD w []).getD j 0)) = .int ((mm_sb.getD w []).getD j 0) := by decide +kernel
theorem sb_len31 : ∀ w, w < 16 → (mm_sb.getD w []).length < 2 ^ 31 := by decide
theorem ok_J1_charAt {w : Nat} {i : Int32} (hw : w < 16) (hi : ¬ (i < 0 ∨ (mm_sb.getD w []).length ≤ i.toNatClampNeg)) : mr X 2 mY_J1_charAt_3b067 0 (lv_args 0 [.ref (mm_ext + 10 + w + 40), .int i]) [] M (some (.int ((mm_sb.getD w []).getD i.toNatClampNeg 0)), M) := by
  have h0 : ¬ i < 0 := fun z => hi (Or.inl z)
  have hlt : i.toNatClampNeg < (mm_sb.getD w []).length := Nat.not_le.mp fun z => hi (Or.inr z)
  obtain ⟨j, hj, e⟩ := nI_of h0
  have h1 : i < Int32.ofNat (mm_sb.getD w []).length := by
    rw [e] at hlt ⊢
    rw [nI_clamp hj] at hlt
    exact nI_lt hlt (sb_len31 w hw)
  obtain ⟨g1, g2⟩ := sb_small w hw _ hlt
  show mr X _ _ 0 [(0, .ref (mm_ext + 10 + w + 40)), (1, .int i)] [] M _
  refine mr_iload_n (pc' := 1) dJ1_charAt_3b067_0 rfl rfl ?_
  refine mr_aload_n (pc' := 2) dJ1_charAt_3b067_1 rfl rfl ?_
  refine mr_slen (pc' := 3) hw dJ1_charAt_3b067_2 rfl ?_
  refine mr_cs (pc' := 6) (d1 := 1) dJ1_charAt_3b067_3 rfl rfl rfl rfl (by decide) (Nat.le_of_ble_eq_true rfl) rfl rfl rfl (by decide) (ok_J0_checkIndex h0 h1) ?_
  refine mr_aload_n (pc' := 7) dJ1_charAt_3b067_6 rfl rfl ?_
  refine mr_iload_n (pc' := 8) dJ1_charAt_3b067_7 rfl rfl ?_
  refine mr_sald (pc' := 9) hw hi dJ1_charAt_3b067_8 rfl ?_
  refine mr_sipush (pc' := 12) (v := 255) dJ1_charAt_3b067_9 rfl (by decide) ?_
  refine mr_iand (pc' := 13) dJ1_charAt_3b067_12 rfl ?_
  refine mr_i2c (pc' := 14) dJ1_charAt_3b067_13 rfl ?_
  rw [g1]
  exact mr_xreturn dJ1_charAt_3b067_14 rfl g2
theorem ok_J0_charAt_5068e {w : Nat} {i r : Int32} (hw : w < 16) (h : f_J0_charAt_5068e w i = some r) : mr X 3 mY_J0_charAt_5068e 0 (lv_args 0 [.ref (mm_ext + 10 + w), .int i]) [] M (some (.int r), M) := by
  obtain ⟨hi, e⟩ := ifn_some h
  cases e
  have hlt : i.toNatClampNeg < (mm_sb.getD w []).length := Nat.not_le.mp fun z => hi (Or.inr z)
  show mr X _ _ 0 [(0, .ref (mm_ext + 10 + w)), (1, .int i)] [] M _
  refine mr_aload_n (pc' := 1) dJ0_charAt_5068e_0 rfl rfl ?_
  refine mr_cvS (pc' := 4) (w := w) (d1 := 0) dJ0_charAt_5068e_1 rfl rfl rfl rfl rfl rfl rfl hw (by decide) (ok_J0_isLatin1 hw) ?_
  refine mr_if_eq_f (t := 16) (pc' := 7) dJ0_charAt_5068e_4 (by decide) rfl (by decide) ?_
  refine mr_aload_n (pc' := 8) dJ0_charAt_5068e_7 rfl rfl ?_
  refine mr_getSv (pc' := 11) hw dJ0_charAt_5068e_8 rfl rfl ?_
  refine mr_iload_n (pc' := 12) dJ0_charAt_5068e_11 rfl rfl ?_
  refine mr_cs (pc' := 15) (d1 := 2) dJ0_charAt_5068e_12 rfl rfl rfl rfl (by decide) (Nat.le_of_ble_eq_true rfl) rfl rfl rfl (by decide) (ok_J1_charAt hw hi) ?_
  exact mr_xreturn dJ0_charAt_5068e_15 rfl (sb_small w hw _ hlt).2
end JD
