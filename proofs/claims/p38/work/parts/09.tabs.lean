def mm_gt : List Cond := lw_tbl.filter goodWord
theorem mm_in {w : Cond} (h : w ∈ lw_tbl) (hg : goodWord w = true) : w ∈ mm_gt := List.mem_filter.mpr ⟨h, hg⟩
theorem mm_vw {ci : Nat} (h : ci < 12) : vwCl[ci]? = some (mm_R ci, mm_T ci, mm_nf ci) := by
  match ci, h with
  | 0, _ => rfl
  | 1, _ => rfl
  | 2, _ => rfl
  | 3, _ => rfl
  | 4, _ => rfl
  | 5, _ => rfl
  | 6, _ => rfl
  | 7, _ => rfl
  | 8, _ => rfl
  | 9, _ => rfl
  | 10, _ => rfl
  | 11, _ => rfl
theorem mm_nm {ci : Nat} (h : ci < 12) : ∀ a, a < mm_nf ci → ∀ b, b < mm_nf ci → a ≠ b → (mm_T ci a).2.1 ≠ (mm_T ci b).2.1 := by
  match ci, h with
  | 0, _ => exact nmX0
  | 1, _ => exact nmX1
  | 2, _ => exact nmX2
  | 3, _ => exact nmX3
  | 4, _ => exact nmX4
  | 5, _ => exact nmX5
  | 6, _ => exact nmX6
  | 7, _ => exact nmX7
  | 8, _ => exact nmX8
  | 9, _ => exact nmX9
  | 10, _ => exact nmX10
  | 11, _ => exact nmX11
theorem mm_ty {ci : Nat} (h : ci < 12) : ∀ k, k < mm_nf ci → parseFieldDescriptor (mm_T ci k).2.2.1 = some (mm_ft ci k) := by
  match ci, h with
  | 0, _ => exact tyX0_ok
  | 1, _ => exact tyX1_ok
  | 2, _ => exact tyX2_ok
  | 3, _ => exact tyX3_ok
  | 4, _ => exact tyX4_ok
  | 5, _ => exact tyX5_ok
  | 6, _ => exact tyX6_ok
  | 7, _ => exact tyX7_ok
  | 8, _ => exact tyX8_ok
  | 9, _ => exact tyX9_ok
  | 10, _ => exact tyX10_ok
  | 11, _ => exact tyX11_ok
def mm_fLay (R : String) (w : Cond) : Option (String × String × String × Bool) := match w with
  | .lays C d n t => if C = R then some (d, n, t, false) else none
  | .laysFinal C d n t => if C = R then some (d, n, t, true) else none
  | _ => none
def mm_lo0 : List Nat := [0, 1, 2, 3, 4, 5, 6]
set_option maxRecDepth 100000 in
theorem mm_lay0 : lw_tbl.filterMap (mm_fLay RX0) = mm_lo0.map TX0 := by decide +kernel
theorem mm_loa0 : ∀ k, k < 7 → k ∈ mm_lo0 := by decide
def mm_lo1 : List Nat := [0]
set_option maxRecDepth 100000 in
theorem mm_lay1 : lw_tbl.filterMap (mm_fLay RX1) = mm_lo1.map TX1 := by decide +kernel
theorem mm_loa1 : ∀ k, k < 1 → k ∈ mm_lo1 := by decide
def mm_lo2 : List Nat := [0, 1, 2, 3, 4]
set_option maxRecDepth 100000 in
theorem mm_lay2 : lw_tbl.filterMap (mm_fLay RX2) = mm_lo2.map TX2 := by decide +kernel
theorem mm_loa2 : ∀ k, k < 5 → k ∈ mm_lo2 := by decide
def mm_lo3 : List Nat := [0, 1, 2, 3, 4, 5, 6]
set_option maxRecDepth 100000 in
theorem mm_lay3 : lw_tbl.filterMap (mm_fLay RX3) = mm_lo3.map TX3 := by decide +kernel
theorem mm_loa3 : ∀ k, k < 7 → k ∈ mm_lo3 := by decide
def mm_lo4 : List Nat := [0, 1, 2, 3]
set_option maxRecDepth 100000 in
theorem mm_lay4 : lw_tbl.filterMap (mm_fLay RX4) = mm_lo4.map TX4 := by decide +kernel
theorem mm_loa4 : ∀ k, k < 4 → k ∈ mm_lo4 := by decide
def mm_lo5 : List Nat := [0, 1, 2, 3, 4, 5, 6]
set_option maxRecDepth 100000 in
theorem mm_lay5 : lw_tbl.filterMap (mm_fLay RX5) = mm_lo5.map TX5 := by decide +kernel
theorem mm_loa5 : ∀ k, k < 7 → k ∈ mm_lo5 := by decide
def mm_lo6 : List Nat := [0, 1, 2, 3, 4]
set_option maxRecDepth 100000 in
theorem mm_lay6 : lw_tbl.filterMap (mm_fLay RX6) = mm_lo6.map TX6 := by decide +kernel
theorem mm_loa6 : ∀ k, k < 5 → k ∈ mm_lo6 := by decide
def mm_lo7 : List Nat := [0, 1, 2, 3, 4]
set_option maxRecDepth 100000 in
theorem mm_lay7 : lw_tbl.filterMap (mm_fLay RX7) = mm_lo7.map TX7 := by decide +kernel
theorem mm_loa7 : ∀ k, k < 5 → k ∈ mm_lo7 := by decide
def mm_lo8 : List Nat := [0, 1, 2, 3, 4, 5, 6, 7]
set_option maxRecDepth 100000 in
theorem mm_lay8 : lw_tbl.filterMap (mm_fLay RX8) = mm_lo8.map TX8 := by decide +kernel
theorem mm_loa8 : ∀ k, k < 8 → k ∈ mm_lo8 := by decide
def mm_lo9 : List Nat := [0, 1, 2]
set_option maxRecDepth 100000 in
theorem mm_lay9 : lw_tbl.filterMap (mm_fLay RX9) = mm_lo9.map TX9 := by decide +kernel
theorem mm_loa9 : ∀ k, k < 3 → k ∈ mm_lo9 := by decide
def mm_lo10 : List Nat := [0, 1, 2, 3, 4, 5, 6, 7, 8, 9, 10]
set_option maxRecDepth 100000 in
theorem mm_lay10 : lw_tbl.filterMap (mm_fLay RX10) = mm_lo10.map TX10 := by decide +kernel
theorem mm_loa10 : ∀ k, k < 11 → k ∈ mm_lo10 := by decide
def mm_lo11 : List Nat := [0, 1, 2, 3, 4, 5, 6, 7, 8, 9, 10, 11, 12, 13, 14, 15, 16, 17, 18, 19, 20, 21, 22, 23, 24, 25, 26, 27, 28, 29, 30, 31, 32, 33, 34, 35, 36, 37, 38, 39, 40]
set_option maxRecDepth 100000 in
theorem mm_lay11 : lw_tbl.filterMap (mm_fLay RX11) = mm_lo11.map TX11 := by decide +kernel
theorem mm_loa11 : ∀ k, k < 41 → k ∈ mm_lo11 := by decide
theorem mm_layg {C : String} {T : u_T} {N : Nat} : ∀ w ∈ u_ws C T N, goodWord w = true := by
  intro w hw
  obtain ⟨k, -, rfl⟩ := List.mem_map.mp hw
  unfold u_lay
  split <;> rfl
theorem mm_layT {R : String} {T : u_T} {N : Nat} {lo : List Nat} (h : lw_tbl.filterMap (mm_fLay R) = lo.map T) (hl : ∀ k, k < N → k ∈ lo) : ∀ w ∈ u_ws R T N, w ∈ lw_tbl := by
  intro w hw
  obtain ⟨k, hk, rfl⟩ := List.mem_map.mp hw
  have h1 : T k ∈ lw_tbl.filterMap (mm_fLay R) := by rw [h]; exact List.mem_map.mpr ⟨k, hl k (List.mem_range.mp hk), rfl⟩
  obtain ⟨w, h2, h3⟩ := List.mem_filterMap.mp h1
  unfold mm_fLay at h3
  split at h3
  · rename_i C d n t
    by_cases hC : C = R
    · rw [if_pos hC] at h3
      have e := Option.some.inj h3
      unfold u_lay
      rw [← e, ← hC]
      rw [if_neg (fun h => by cases h)]
      exact h2
    · rw [if_neg hC] at h3
      exact mm_no h3
  · rename_i C d n t
    by_cases hC : C = R
    · rw [if_pos hC] at h3
      have e := Option.some.inj h3
      unfold u_lay
      rw [← e, ← hC]
      rw [if_pos rfl]
      exact h2
    · rw [if_neg hC] at h3
      exact mm_no h3
  · exact mm_no h3
theorem mm_lay {ci : Nat} (h : ci < 12) : ∀ w ∈ u_ws (mm_R ci) (mm_T ci) (mm_nf ci), w ∈ mm_gt := by
  intro w hw
  refine mm_in ?_ (mm_layg w hw)
  match ci, h with
  | 0, _ => exact mm_layT mm_lay0 mm_loa0 w hw
  | 1, _ => exact mm_layT mm_lay1 mm_loa1 w hw
  | 2, _ => exact mm_layT mm_lay2 mm_loa2 w hw
  | 3, _ => exact mm_layT mm_lay3 mm_loa3 w hw
  | 4, _ => exact mm_layT mm_lay4 mm_loa4 w hw
  | 5, _ => exact mm_layT mm_lay5 mm_loa5 w hw
  | 6, _ => exact mm_layT mm_lay6 mm_loa6 w hw
  | 7, _ => exact mm_layT mm_lay7 mm_loa7 w hw
  | 8, _ => exact mm_layT mm_lay8 mm_loa8 w hw
  | 9, _ => exact mm_layT mm_lay9 mm_loa9 w hw
  | 10, _ => exact mm_layT mm_lay10 mm_loa10 w hw
  | 11, _ => exact mm_layT mm_lay11 mm_loa11 w hw
theorem mm_inst {ci : Nat} (h : ci < 12) : Cond.instantiable (mm_R ci) (mm_nf ci) ∈ mm_gt ∧ Cond.initialized (mm_R ci) ∈ mm_gt := by
  match ci, h with
  | 0, _ => exact ⟨mm_in (by decide +kernel) rfl, mm_in (by decide +kernel) rfl⟩
  | 1, _ => exact ⟨mm_in (by decide +kernel) rfl, mm_in (by decide +kernel) rfl⟩
  | 2, _ => exact ⟨mm_in (by decide +kernel) rfl, mm_in (by decide +kernel) rfl⟩
  | 3, _ => exact ⟨mm_in (by decide +kernel) rfl, mm_in (by decide +kernel) rfl⟩
  | 4, _ => exact ⟨mm_in (by decide +kernel) rfl, mm_in (by decide +kernel) rfl⟩
  | 5, _ => exact ⟨mm_in (by decide +kernel) rfl, mm_in (by decide +kernel) rfl⟩
  | 6, _ => exact ⟨mm_in (by decide +kernel) rfl, mm_in (by decide +kernel) rfl⟩
  | 7, _ => exact ⟨mm_in (by decide +kernel) rfl, mm_in (by decide +kernel) rfl⟩
  | 8, _ => exact ⟨mm_in (by decide +kernel) rfl, mm_in (by decide +kernel) rfl⟩
  | 9, _ => exact ⟨mm_in (by decide +kernel) rfl, mm_in (by decide +kernel) rfl⟩
  | 10, _ => exact ⟨mm_in (by decide +kernel) rfl, mm_in (by decide +kernel) rfl⟩
  | 11, _ => exact ⟨mm_in (by decide +kernel) rfl, mm_in (by decide +kernel) rfl⟩
theorem mm_arrc : Cond.arrayClass .int ∈ mm_gt ∧ Cond.arrayClass .long ∈ mm_gt ∧ Cond.arrayClass .byte ∈ mm_gt ∧ Cond.arrayClass .boolean ∈ mm_gt := ⟨mm_in (by decide +kernel) rfl, mm_in (by decide +kernel) rfl, mm_in (by decide +kernel) rfl, mm_in (by decide +kernel) rfl⟩
theorem mm_ini {c : Nat} (h : c < 19) : Cond.initialized (mm_R c) ∈ lw_tbl := by
  match c, h with
  | 0, _ => decide +kernel
  | 1, _ => decide +kernel
  | 2, _ => decide +kernel
  | 3, _ => decide +kernel
  | 4, _ => decide +kernel
  | 5, _ => decide +kernel
  | 6, _ => decide +kernel
  | 7, _ => decide +kernel
  | 8, _ => decide +kernel
  | 9, _ => decide +kernel
  | 10, _ => decide +kernel
  | 11, _ => decide +kernel
  | 12, _ => decide +kernel
  | 13, _ => decide +kernel
  | 14, _ => decide +kernel
  | 15, _ => decide +kernel
  | 16, _ => decide +kernel
  | 17, _ => decide +kernel
  | 18, _ => decide +kernel
  | n + 19, h => omega
def mm_fF (R : String) (w : Cond) : Option (Nat × String × String × String) := match w with
  | .fieldLink C k r n d => if C = R then some (k, r, n, d) else none
  | _ => none
theorem mm_fF_in {R : String} {q : Nat × String × String × String} (h : q ∈ lw_tbl.filterMap (mm_fF R)) : Cond.fieldLink R q.1 q.2.1 q.2.2.1 q.2.2.2 ∈ lw_tbl := by
  obtain ⟨w, h2, h3⟩ := List.mem_filterMap.mp h
  unfold mm_fF at h3
  split at h3
  · rename_i C k r n d
    by_cases hC : C = R
    · rw [if_pos hC] at h3
      rw [← Option.some.inj h3, ← hC]
      exact h2
    · rw [if_neg hC] at h3
      exact mm_no h3
  · exact mm_no h3
abbrev mm_flP (c : Nat) (e : Nat × (Nat × Nat)) : Prop := e.2.1 < 12 ∧ Cond.fieldLink (mm_R c) e.1 (mm_T e.2.1 e.2.2).1 (mm_T e.2.1 e.2.2).2.1 (mm_T e.2.1 e.2.2).2.2.1 ∈ lw_tbl
theorem mm_flA {c : Nat} {tb : List (Nat × (Nat × Nat))} (h : lw_tbl.filterMap (mm_fF (mm_R c)) = tb.map (fun e => (e.1, (mm_T e.2.1 e.2.2).1, (mm_T e.2.1 e.2.2).2.1, (mm_T e.2.1 e.2.2).2.2.1))) (h2 : ∀ e ∈ tb, e.2.1 < 12) : ∀ e ∈ tb, mm_flP c e := fun e he => ⟨h2 e he, mm_fF_in (q := (e.1, (mm_T e.2.1 e.2.2).1, (mm_T e.2.1 e.2.2).2.1, (mm_T e.2.1 e.2.2).2.2.1)) (by rw [h]; exact List.mem_map.mpr ⟨e, he, rfl⟩)⟩
set_option maxRecDepth 100000 in
theorem mm_fl0_ok : ∀ e ∈ mm_fl0, mm_flP 0 e := mm_flA (by decide +kernel) (by decide +kernel)
set_option maxRecDepth 100000 in
theorem mm_fl1_ok : ∀ e ∈ mm_fl1, mm_flP 1 e := mm_flA (by decide +kernel) (by decide +kernel)
set_option maxRecDepth 100000 in
theorem mm_fl2_ok : ∀ e ∈ mm_fl2, mm_flP 2 e := mm_flA (by decide +kernel) (by decide +kernel)
set_option maxRecDepth 100000 in
theorem mm_fl3_ok : ∀ e ∈ mm_fl3, mm_flP 3 e := mm_flA (by decide +kernel) (by decide +kernel)
set_option maxRecDepth 100000 in
theorem mm_fl4_ok : ∀ e ∈ mm_fl4, mm_flP 4 e := mm_flA (by decide +kernel) (by decide +kernel)
set_option maxRecDepth 100000 in
theorem mm_fl5_ok : ∀ e ∈ mm_fl5, mm_flP 5 e := mm_flA (by decide +kernel) (by decide +kernel)
set_option maxRecDepth 100000 in
theorem mm_fl6_ok : ∀ e ∈ mm_fl6, mm_flP 6 e := mm_flA (by decide +kernel) (by decide +kernel)
set_option maxRecDepth 100000 in
theorem mm_fl7_ok : ∀ e ∈ mm_fl7, mm_flP 7 e := mm_flA (by decide +kernel) (by decide +kernel)
set_option maxRecDepth 100000 in
theorem mm_fl8_ok : ∀ e ∈ mm_fl8, mm_flP 8 e := mm_flA (by decide +kernel) (by decide +kernel)
set_option maxRecDepth 100000 in
theorem mm_fl9_ok : ∀ e ∈ mm_fl9, mm_flP 9 e := mm_flA (by decide +kernel) (by decide +kernel)
set_option maxRecDepth 100000 in
theorem mm_fl10_ok : ∀ e ∈ mm_fl10, mm_flP 10 e := mm_flA (by decide +kernel) (by decide +kernel)
set_option maxRecDepth 100000 in
theorem mm_fl11_ok : ∀ e ∈ mm_fl11, mm_flP 11 e := mm_flA (by decide +kernel) (by decide +kernel)
theorem mm_fl_ok {c k : Nat} {v : Nat × Nat} (h : mm_fl c k = some v) : mm_flP c (k, v) := by
  have h1 := mm_ix_mem (show mm_ix (mm_flT c) k = some v from h)
  unfold mm_flT at h1
  split at h1
  · exact mm_fl0_ok _ h1
  · exact mm_fl1_ok _ h1
  · exact mm_fl2_ok _ h1
  · exact mm_fl3_ok _ h1
  · exact mm_fl4_ok _ h1
  · exact mm_fl5_ok _ h1
  · exact mm_fl6_ok _ h1
  · exact mm_fl7_ok _ h1
  · exact mm_fl8_ok _ h1
  · exact mm_fl9_ok _ h1
  · exact mm_fl10_ok _ h1
  · exact mm_fl11_ok _ h1
  · exact absurd h1 List.not_mem_nil
abbrev mm_fxP (c : Nat) (e : Nat × Nat) : Prop := (e.2 = 0 ∧ Cond.fieldLink (mm_R c) e.1 "java/lang/String" "value" "[B" ∈ lw_tbl) ∨ (e.2 = 1 ∧ Cond.fieldLink (mm_R c) e.1 "java/lang/String" "coder" "B" ∈ lw_tbl)
set_option maxRecDepth 100000 in
theorem mm_fx14_ok : ∀ e ∈ mm_fx14, mm_fxP 14 e := by decide +kernel
theorem mm_fx_ok {c k : Nat} {v : Nat} (h : mm_fx c k = some v) : mm_fxP c (k, v) := by
  have h1 := mm_ix_mem (show mm_ix (mm_fxT c) k = some v from h)
  unfold mm_fxT at h1
  split at h1
  · exact mm_fx14_ok _ h1
  · exact absurd h1 List.not_mem_nil
abbrev mm_clP (c : Nat) (e : Nat × Nat) : Prop := e.2 < 12 ∧ Cond.classLink (mm_R c) e.1 (mm_R e.2) ∈ lw_tbl
set_option maxRecDepth 100000 in
theorem mm_cl5_ok : ∀ e ∈ mm_cl5, mm_clP 5 e := by decide +kernel
set_option maxRecDepth 100000 in
theorem mm_cl6_ok : ∀ e ∈ mm_cl6, mm_clP 6 e := by decide +kernel
set_option maxRecDepth 100000 in
theorem mm_cl10_ok : ∀ e ∈ mm_cl10, mm_clP 10 e := by decide +kernel
set_option maxRecDepth 100000 in
theorem mm_cl12_ok : ∀ e ∈ mm_cl12, mm_clP 12 e := by decide +kernel
theorem mm_cl_ok {c k : Nat} {v : Nat} (h : mm_cl c k = some v) : mm_clP c (k, v) := by
  have h1 := mm_ix_mem (show mm_ix (mm_clT c) k = some v from h)
  unfold mm_clT at h1
  split at h1
  · exact mm_cl5_ok _ h1
  · exact mm_cl6_ok _ h1
  · exact mm_cl10_ok _ h1
  · exact mm_cl12_ok _ h1
  · exact absurd h1 List.not_mem_nil
abbrev mm_kiP (c : Nat) (e : Nat × Int32) : Prop := Cond.constant (mm_R c) e.1 e.2 ∈ lw_tbl
set_option maxRecDepth 100000 in
theorem mm_ki3_ok : ∀ e ∈ mm_ki3, mm_kiP 3 e := by decide +kernel
set_option maxRecDepth 100000 in
theorem mm_ki5_ok : ∀ e ∈ mm_ki5, mm_kiP 5 e := by decide +kernel
set_option maxRecDepth 100000 in
theorem mm_ki6_ok : ∀ e ∈ mm_ki6, mm_kiP 6 e := by decide +kernel
set_option maxRecDepth 100000 in
theorem mm_ki11_ok : ∀ e ∈ mm_ki11, mm_kiP 11 e := by decide +kernel
theorem mm_ki_ok {c k : Nat} {v : Int32} (h : mm_ki c k = some v) : mm_kiP c (k, v) := by
  have h1 := mm_ix_mem (show mm_ix (mm_kiT c) k = some v from h)
  unfold mm_kiT at h1
  split at h1
  · exact mm_ki3_ok _ h1
  · exact mm_ki5_ok _ h1
  · exact mm_ki6_ok _ h1
  · exact mm_ki11_ok _ h1
  · exact absurd h1 List.not_mem_nil
def mm_fK (R : String) (w : Cond) : Option (Nat × Int64) := match w with
  | .constantLong C k v => if C = R then some (k, v) else none
  | _ => none
theorem mm_fK_in {R : String} {q : Nat × Int64} (h : q ∈ lw_tbl.filterMap (mm_fK R)) : Cond.constantLong R q.1 q.2 ∈ lw_tbl := by
  obtain ⟨w, h2, h3⟩ := List.mem_filterMap.mp h
  unfold mm_fK at h3
  split at h3
  · rename_i C k v
    by_cases hC : C = R
    · rw [if_pos hC] at h3
      rw [← Option.some.inj h3, ← hC]
      exact h2
    · rw [if_neg hC] at h3
      exact mm_no h3
  · exact mm_no h3
abbrev mm_klP (c : Nat) (e : Nat × Int64) : Prop := Cond.constantLong (mm_R c) e.1 e.2 ∈ lw_tbl
set_option maxRecDepth 100000 in
theorem mm_kl0_ok : ∀ e ∈ mm_kl0, mm_klP 0 e := fun e he => mm_fK_in (by rw [show lw_tbl.filterMap (mm_fK (mm_R 0)) = mm_kl0 by decide +kernel]; exact he)
set_option maxRecDepth 100000 in
theorem mm_kl1_ok : ∀ e ∈ mm_kl1, mm_klP 1 e := fun e he => mm_fK_in (by rw [show lw_tbl.filterMap (mm_fK (mm_R 1)) = mm_kl1 by decide +kernel]; exact he)
set_option maxRecDepth 100000 in
theorem mm_kl3_ok : ∀ e ∈ mm_kl3, mm_klP 3 e := fun e he => mm_fK_in (by rw [show lw_tbl.filterMap (mm_fK (mm_R 3)) = mm_kl3 by decide +kernel]; exact he)
set_option maxRecDepth 100000 in
theorem mm_kl6_ok : ∀ e ∈ mm_kl6, mm_klP 6 e := fun e he => mm_fK_in (by rw [show lw_tbl.filterMap (mm_fK (mm_R 6)) = mm_kl6 by decide +kernel]; exact he)
set_option maxRecDepth 100000 in
theorem mm_kl9_ok : ∀ e ∈ mm_kl9, mm_klP 9 e := fun e he => mm_fK_in (by rw [show lw_tbl.filterMap (mm_fK (mm_R 9)) = mm_kl9 by decide +kernel]; exact he)
set_option maxRecDepth 100000 in
theorem mm_kl10_ok : ∀ e ∈ mm_kl10, mm_klP 10 e := fun e he => mm_fK_in (by rw [show lw_tbl.filterMap (mm_fK (mm_R 10)) = mm_kl10 by decide +kernel]; exact he)
set_option maxRecDepth 100000 in
theorem mm_kl11_ok : ∀ e ∈ mm_kl11, mm_klP 11 e := fun e he => mm_fK_in (by rw [show lw_tbl.filterMap (mm_fK (mm_R 11)) = mm_kl11 by decide +kernel]; exact he)
theorem mm_kl_ok {c k : Nat} {v : Int64} (h : mm_kl c k = some v) : mm_klP c (k, v) := by
  have h1 := mm_ix_mem (show mm_ix (mm_klT c) k = some v from h)
  unfold mm_klT at h1
  split at h1
  · exact mm_kl0_ok _ h1
  · exact mm_kl1_ok _ h1
  · exact mm_kl3_ok _ h1
  · exact mm_kl6_ok _ h1
  · exact mm_kl9_ok _ h1
  · exact mm_kl10_ok _ h1
  · exact mm_kl11_ok _ h1
  · exact absurd h1 List.not_mem_nil
def mm_st : List (String × Nat × String) := [(RX9, 67, "floor"), (RX9, 73, "stair"), (RX9, 75, "thing"), (RX5, 66, "to"), (RX5, 79, "if"), (RX5, 123, "not"), (RX5, 148, "now"), (RX5, 150, "thing"), (RX5, 152, "floor"), (RX5, 154, "age"), (RX5, 156, "here"), (RX5, 158, "rate"), (RX5, 160, "oldest"), (RX5, 162, "youngest"), (RX5, 130, "and"), (RX5, 132, "or")]
abbrev mm_ksP (c : Nat) (e : Nat × Nat) : Prop := e.2 < 16 ∧ (mm_st.getD e.2 ("", 0, "")).1 = mm_R c ∧ (mm_st.getD e.2 ("", 0, "")).2.1 = e.1
set_option maxRecDepth 100000 in
theorem mm_ks5_ok : ∀ e ∈ mm_ks5, mm_ksP 5 e := by decide +kernel
set_option maxRecDepth 100000 in
theorem mm_ks9_ok : ∀ e ∈ mm_ks9, mm_ksP 9 e := by decide +kernel
theorem mm_ks_ok {c k : Nat} {v : Nat} (h : mm_ks c k = some v) : mm_ksP c (k, v) := by
  have h1 := mm_ix_mem (show mm_ix (mm_ksT c) k = some v from h)
  unfold mm_ksT at h1
  split at h1
  · exact mm_ks5_ok _ h1
  · exact mm_ks9_ok _ h1
  · exact absurd h1 List.not_mem_nil
abbrev mm_biP (c : Nat) (e : Nat × Nat) : Prop := (e.2 = 0 ∧ Cond.methodLink (mm_R c) e.1 objectInit ∈ lw_tbl) ∨ (e.2 = 1 ∧ Cond.methodLink (mm_R c) e.1 arraycopyName ∈ lw_tbl)
set_option maxRecDepth 100000 in
theorem mm_bi0_ok : ∀ e ∈ mm_bi0, mm_biP 0 e := by decide +kernel
set_option maxRecDepth 100000 in
theorem mm_bi1_ok : ∀ e ∈ mm_bi1, mm_biP 1 e := by decide +kernel
set_option maxRecDepth 100000 in
theorem mm_bi2_ok : ∀ e ∈ mm_bi2, mm_biP 2 e := by decide +kernel
set_option maxRecDepth 100000 in
theorem mm_bi3_ok : ∀ e ∈ mm_bi3, mm_biP 3 e := by decide +kernel
set_option maxRecDepth 100000 in
theorem mm_bi4_ok : ∀ e ∈ mm_bi4, mm_biP 4 e := by decide +kernel
set_option maxRecDepth 100000 in
theorem mm_bi5_ok : ∀ e ∈ mm_bi5, mm_biP 5 e := by decide +kernel
set_option maxRecDepth 100000 in
theorem mm_bi6_ok : ∀ e ∈ mm_bi6, mm_biP 6 e := by decide +kernel
set_option maxRecDepth 100000 in
theorem mm_bi7_ok : ∀ e ∈ mm_bi7, mm_biP 7 e := by decide +kernel
set_option maxRecDepth 100000 in
theorem mm_bi8_ok : ∀ e ∈ mm_bi8, mm_biP 8 e := by decide +kernel
set_option maxRecDepth 100000 in
theorem mm_bi9_ok : ∀ e ∈ mm_bi9, mm_biP 9 e := by decide +kernel
set_option maxRecDepth 100000 in
theorem mm_bi10_ok : ∀ e ∈ mm_bi10, mm_biP 10 e := by decide +kernel
set_option maxRecDepth 100000 in
theorem mm_bi11_ok : ∀ e ∈ mm_bi11, mm_biP 11 e := by decide +kernel
theorem mm_bi_ok {c k : Nat} {v : Nat} (h : mm_bi c k = some v) : mm_biP c (k, v) := by
  have h1 := mm_ix_mem (show mm_ix (mm_biT c) k = some v from h)
  unfold mm_biT at h1
  split at h1
  · exact mm_bi0_ok _ h1
  · exact mm_bi1_ok _ h1
  · exact mm_bi2_ok _ h1
  · exact mm_bi3_ok _ h1
  · exact mm_bi4_ok _ h1
  · exact mm_bi5_ok _ h1
  · exact mm_bi6_ok _ h1
  · exact mm_bi7_ok _ h1
  · exact mm_bi8_ok _ h1
  · exact mm_bi9_ok _ h1
  · exact mm_bi10_ok _ h1
  · exact mm_bi11_ok _ h1
  · exact absurd h1 List.not_mem_nil
