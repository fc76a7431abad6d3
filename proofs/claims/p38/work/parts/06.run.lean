def mm_sb : List (List Int32) := [[102, 108, 111, 111, 114], [115, 116, 97, 105, 114], [116, 104, 105, 110, 103], [116, 111], [105, 102], [110, 111, 116], [110, 111, 119], [116, 104, 105, 110, 103], [102, 108, 111, 111, 114], [97, 103, 101], [104, 101, 114, 101], [114, 97, 116, 101], [111, 108, 100, 101, 115, 116], [121, 111, 117, 110, 103, 101, 115, 116], [97, 110, 100], [111, 114]]
def mm_bd : List Int32 := [0, 0, 0, 0, 3, 2, 1, 5, 5, 6, 6, 4, 4, 4, 4, 4, 0]
/-- the script: how long, what it holds -/
abbrev mm_C : Type := Nat × (Nat → Int32)
def mm_gf (Y : mm_Y) (cp : Nat) (st : List Value) (M : mm_M) : Option (Nat × List Value × mm_M) := match st with
  | .ref a :: r =>
    if a < mm_ext then (mm_fl Y.1 cp).bind (fun q => if mm_tag M a = q.1 ∧ q.2 < mm_nf q.1 then some (3, mm_fa M a q.2 (mm_tk (mm_ft q.1 q.2)) :: r, M) else none)
    else (mm_fx Y.1 cp).bind (fun f => if 10 ≤ a - mm_ext ∧ a - mm_ext < 26 then some (3, (if f = 0 then .ref (a + 40) else .int 0) :: r, M) else none)
  | _ => none
def mm_wr (M : mm_M) (a k : Nat) (ty : FieldType) (v : Value) : Option mm_M := match v with
  | .int x => if ty = .int ∨ (ty = .boolean ∧ (x = 0 ∨ x = 1)) then some (M.1, mm_up M.2.1 a k x, M.2.2.1, M.2.2.2) else none
  | .long x => if ty = .long then some (M.1, M.2.1, mm_up M.2.2.1 a k x, M.2.2.2) else none
  | .ref b => if mm_tk ty = 2 then some (M.1, M.2.1, M.2.2.1, mm_up M.2.2.2 a k (some b)) else none
  | .null => if mm_tk ty = 2 then some (M.1, M.2.1, M.2.2.1, mm_up M.2.2.2 a k none) else none
  | _ => none
def mm_pf (Y : mm_Y) (cp : Nat) (st : List Value) (M : mm_M) : Option (Nat × List Value × mm_M) := match st with
  | v :: .ref a :: r => (mm_fl Y.1 cp).bind (fun q => if a < mm_ext ∧ mm_tag M a = q.1 ∧ q.2 < mm_nf q.1 ∧ ((mm_T q.1 q.2).2.2.2 = false ∨ (Y.2.1.name = "<init>" ∧ q.1 = Y.1)) then (mm_wr M a q.2 (mm_ft q.1 q.2) v).map (fun M' => (3, r, M')) else none)
  | _ => none
def mm_ial (X : mm_C) (st : List Value) (M : mm_M) : Option (Nat × List Value × mm_M) := match st with
  | .int i :: .ref a :: r =>
    if a < mm_ext then (if mm_tag M a = 100 ∧ ¬ (i < 0 ∨ mm_len M a ≤ i.toNatClampNeg) then some (1, .int (M.2.1 a i.toNatClampNeg) :: r, M) else none)
    else if a = mm_ext then (if X.1 < 100000 ∧ ¬ (i < 0 ∨ X.1 ≤ i.toNatClampNeg) then some (1, .int (X.2 i.toNatClampNeg) :: r, M) else none)
    else if a = mm_ext + 1 ∧ ¬ (i < 0 ∨ 17 ≤ i.toNatClampNeg) then some (1, .int (mm_bd.getD i.toNatClampNeg 0) :: r, M) else none
  | _ => none
def mm_lal (st : List Value) (M : mm_M) : Option (Nat × List Value × mm_M) := match st with
  | .int i :: .ref a :: r => if a < mm_ext ∧ mm_tag M a = 101 ∧ ¬ (i < 0 ∨ mm_len M a ≤ i.toNatClampNeg) then some (1, .long (M.2.2.1 a i.toNatClampNeg) :: r, M) else none
  | _ => none
def mm_bal (st : List Value) (M : mm_M) : Option (Nat × List Value × mm_M) := match st with
  | .int i :: .ref a :: r =>
    if a < mm_ext then (if (mm_tag M a = 102 ∨ mm_tag M a = 103) ∧ ¬ (i < 0 ∨ mm_len M a ≤ i.toNatClampNeg) then some (1, .int (M.2.1 a i.toNatClampNeg) :: r, M) else none)
    else if 50 ≤ a - mm_ext ∧ a - mm_ext < 66 ∧ ¬ (i < 0 ∨ (mm_sb.getD (a - mm_ext - 50) []).length ≤ i.toNatClampNeg) then some (1, .int ((mm_sb.getD (a - mm_ext - 50) []).getD i.toNatClampNeg 0) :: r, M) else none
  | _ => none
def mm_aal (st : List Value) (M : mm_M) : Option (Nat × List Value × mm_M) := match st with
  | .int i :: .ref a :: r => if a < mm_ext ∧ (mm_tag M a = 114 ∨ mm_tag M a = 116) ∧ ¬ (i < 0 ∨ mm_len M a ≤ i.toNatClampNeg) then some (1, mm_rv (M.2.2.2 a i.toNatClampNeg) :: r, M) else none
  | _ => none
def mm_ias (st : List Value) (M : mm_M) : Option (Nat × List Value × mm_M) := match st with
  | .int x :: .int i :: .ref a :: r => if a < mm_ext ∧ mm_tag M a = 100 ∧ ¬ (i < 0 ∨ mm_len M a ≤ i.toNatClampNeg) then some (1, r, (M.1, mm_up M.2.1 a i.toNatClampNeg x, M.2.2.1, M.2.2.2)) else none
  | _ => none
def mm_las (st : List Value) (M : mm_M) : Option (Nat × List Value × mm_M) := match st with
  | .long x :: .int i :: .ref a :: r => if a < mm_ext ∧ mm_tag M a = 101 ∧ ¬ (i < 0 ∨ mm_len M a ≤ i.toNatClampNeg) then some (1, r, (M.1, M.2.1, mm_up M.2.2.1 a i.toNatClampNeg x, M.2.2.2)) else none
  | _ => none
def mm_bas (st : List Value) (M : mm_M) : Option (Nat × List Value × mm_M) := match st with
  | .int x :: .int i :: .ref a :: r => if a < mm_ext ∧ ¬ (i < 0 ∨ mm_len M a ≤ i.toNatClampNeg) then
      (if mm_tag M a = 102 then some (1, r, (M.1, mm_up M.2.1 a i.toNatClampNeg x.toInt8.toInt32, M.2.2.1, M.2.2.2))
       else if mm_tag M a = 103 then some (1, r, (M.1, mm_up M.2.1 a i.toNatClampNeg (vp_nar .boolean x), M.2.2.1, M.2.2.2)) else none) else none
  | _ => none
def mm_aas (st : List Value) (M : mm_M) : Option (Nat × List Value × mm_M) := match st with
  | .ref v :: .int i :: .ref a :: r => if a < mm_ext ∧ v < mm_ext ∧ (mm_tag M a = 114 ∨ mm_tag M a = 116) ∧ mm_tag M a = 110 + mm_tag M v ∧ ¬ (i < 0 ∨ mm_len M a ≤ i.toNatClampNeg) then some (1, r, (M.1, M.2.1, M.2.2.1, mm_up M.2.2.2 a i.toNatClampNeg (some v))) else none
  | _ => none
def mm_alen (X : mm_C) (st : List Value) (M : mm_M) : Option (Nat × List Value × mm_M) := match st with
  | .ref a :: r =>
    if a < mm_ext then (if 100 ≤ mm_tag M a ∧ mm_tag M a ≤ 103 then some (1, .int (Int32.ofNat (mm_len M a)) :: r, M) else none)
    else if a = mm_ext then (if X.1 < 100000 then some (1, .int (Int32.ofNat X.1) :: r, M) else none)
    else if 50 ≤ a - mm_ext ∧ a - mm_ext < 66 then some (1, .int (Int32.ofNat (mm_sb.getD (a - mm_ext - 50) []).length) :: r, M) else none
  | _ => none
def mm_nw (M : mm_M) (kd : Nat × Nat) : mm_M := (M.1 ++ [kd], mm_row M.2.1 M.1.length (fun _ => 0), mm_row M.2.2.1 M.1.length (fun _ => 0), mm_row M.2.2.2 M.1.length (fun _ => none))
def mm_new (Y : mm_Y) (cp : Nat) (st : List Value) (M : mm_M) : Option (Nat × List Value × mm_M) := (mm_cl Y.1 cp).bind (fun c => if M.1.length < mm_ext then some (3, .ref M.1.length :: st, mm_nw M (c, mm_nf c)) else none)
def mm_at : ArrayType → Nat
  | .int => 100
  | .long => 101
  | .byte => 102
  | .boolean => 103
  | _ => 99
def mm_nwa (t : ArrayType) (st : List Value) (M : mm_M) : Option (Nat × List Value × mm_M) := match st with
  | .int n :: r => if M.1.length < mm_ext ∧ ¬ n < 0 ∧ n.toNatClampNeg ≤ 10000 ∧ 100 ≤ mm_at t then some (2, .ref M.1.length :: r, mm_nw M (mm_at t, n.toNatClampNeg)) else none
  | _ => none
def mm_nwq (Y : mm_Y) (cp : Nat) (st : List Value) (M : mm_M) : Option (Nat × List Value × mm_M) := match st with
  | .int n :: r => (mm_cl Y.1 cp).bind (fun c => if M.1.length < mm_ext ∧ ¬ n < 0 ∧ n.toNatClampNeg ≤ 10000 ∧ (c = 4 ∨ c = 6) then some (3, .ref M.1.length :: r, mm_nw M (110 + c, n.toNatClampNeg)) else none)
  | _ => none
def mm_gs (Y : mm_Y) (cp : Nat) (st : List Value) (M : mm_M) : Option (Nat × List Value × mm_M) :=
  if Y.1 = 5 ∧ cp = 113 then some (3, .ref (mm_ext + 1) :: st, M)
  else if Y.1 = 14 ∧ cp = 38 then some (3, .int 1 :: st, M)
  else if Y.1 = 14 ∧ cp = 1053 then some (3, .retAddr 0 :: st, M) else none
def mm_ldc (Y : mm_Y) (cp : Nat) (st : List Value) (M : mm_M) : Option (Nat × List Value × mm_M) := match mm_ki Y.1 cp with
  | some v => some (2, .int v :: st, M)
  | none => (mm_ks Y.1 cp).map (fun i => (2, .ref (mm_ext + 10 + i) :: st, M))
def mm_ldl (Y : mm_Y) (cp : Nat) (st : List Value) (M : mm_M) : Option (Nat × List Value × mm_M) := (mm_kl Y.1 cp).map (fun v => (3, .long v :: st, M))
def mm_obi (Y : mm_Y) (cp : Nat) (st : List Value) (M : mm_M) : Option (Nat × List Value × mm_M) := match st with
  | .ref _ :: r => if mm_bi Y.1 cp = some 0 ∧ (r.map fun v => v.category).sum ≤ 8 then some (3, r, M) else none
  | _ => none
def mm_cpy (Y : mm_Y) (cp : Nat) (st : List Value) (M : mm_M) : Option (Nat × List Value × mm_M) := match st with
  | .int n :: .int dp :: .ref b :: .int sp :: .ref a :: r =>
    if mm_bi Y.1 cp = some 1 ∧ (r.map fun v => v.category).sum ≤ 8 ∧ a < mm_ext ∧ b < mm_ext ∧ ¬ sp < 0 ∧ ¬ dp < 0 ∧ ¬ n < 0 ∧ sp.toNatClampNeg + n.toNatClampNeg ≤ mm_len M a ∧ dp.toNatClampNeg + n.toNatClampNeg ≤ mm_len M b then
      (if mm_tag M a = 100 ∧ mm_tag M b = 100 then some (3, r, (M.1, mm_row M.2.1 b (va_cpy (M.2.1 a) (M.2.1 b) sp.toNatClampNeg dp.toNatClampNeg n.toNatClampNeg), M.2.2.1, M.2.2.2))
       else if mm_tag M a = 101 ∧ mm_tag M b = 101 then some (3, r, (M.1, M.2.1, mm_row M.2.2.1 b (va_cpy (M.2.2.1 a) (M.2.2.1 b) sp.toNatClampNeg dp.toNatClampNeg n.toNatClampNeg), M.2.2.2)) else none) else none
  | _ => none
/-- instructions over the heap and the tables -/
def mm_hp (X : mm_C) (Y : mm_Y) (i : Instr) (st : List Value) (M : mm_M) : Option (Nat × List Value × mm_M) := match i with
  | .getfield cp => mm_gf Y cp st M
  | .putfield cp => mm_pf Y cp st M
  | .iaload => mm_ial X st M
  | .laload => mm_lal st M
  | .baload => mm_bal st M
  | .aaload => mm_aal st M
  | .iastore => mm_ias st M
  | .lastore => mm_las st M
  | .bastore => mm_bas st M
  | .aastore => mm_aas st M
  | .arraylength => mm_alen X st M
  | .new cp => mm_new Y cp st M
  | .newarray t => mm_nwa t st M
  | .anewarray cp => mm_nwq Y cp st M
  | .getstatic cp => mm_gs Y cp st M
  | .ldc cp => mm_ldc Y cp st M
  | .ldc2_w cp => mm_ldl Y cp st M
  | .invokespecial cp => mm_obi Y cp st M
  | .invokestatic cp => mm_cpy Y cp st M
  | _ => none
def mm_sw? (i : Instr) : Bool := match i with
  | .tableswitch _ _ _ _ => true
  | _ => false
def mm_next (X : mm_C) (Y : mm_Y) (i : Instr) (len pc : Nat) (lv : mm_L) (st : List Value) (M : mm_M) : Option mm_O :=
  match mm_ar i st with
  | some st' => if len = 1 then some (pc + 1, lv, st', M) else none
  | none => match mm_ld i lv with
    | some q => if len = q.1 then some (pc + q.1, lv, q.2 :: st, M) else none
    | none => match mm_sv i Y.2.2.2.1 lv st with
      | some q => if len = q.1 then some (pc + q.1, q.2.1, q.2.2, M) else none
      | none => match mm_br i pc st with
        | some q => if len = 3 ∨ mm_sw? i = true then some (q.1, lv, q.2, M) else none
        | none => match mm_hp X Y i st M with
          | some q => if len = q.1 then some (pc + q.1, lv, q.2.1, q.2.2) else none
          | none => none
/-- a call: whom, with what, what stays on the stack -/
def mm_fit (Y' : mm_Y) (as rest : List Value) : Bool := decide ((lg_sl as).length ≤ Y'.2.2.2.1) && decide (Y'.2.2.2.1 ≤ 20) && decide ((rest.map fun v => v.category).sum ≤ 8)
def mm_rc (Y' : mm_Y) (M : mm_M) (a : Nat) : Bool := if a < mm_ext then decide (mm_tag M a = Y'.1 ∧ Y'.1 < 12) else decide (Y'.1 = 14 ∧ 10 ≤ a - mm_ext ∧ a - mm_ext < 26)
def mm_cv (Y : mm_Y) (cp : Nat) (st : List Value) (M : mm_M) : Option (mm_Y × List Value × List Value) := (mm_ml Y.1 cp).bind (fun q =>
  match st.drop q.2.1 with
  | .ref a :: r => if q.1 = 0 ∧ mm_rc q.2.2 M a = true ∧ mm_fit q.2.2 (.ref a :: (st.take q.2.1).reverse) r = true then some (q.2.2, .ref a :: (st.take q.2.1).reverse, r) else none
  | _ => none)
def mm_cs (Y : mm_Y) (cp : Nat) (st : List Value) : Option (mm_Y × List Value × List Value) := (mm_ml Y.1 cp).bind (fun q =>
  if (q.1 = 1 ∨ q.1 = 3) ∧ q.2.1 ≤ st.length ∧ mm_fit q.2.2 (st.take q.2.1).reverse (st.drop q.2.1) = true then some (q.2.2, (st.take q.2.1).reverse, st.drop q.2.1) else none)
def mm_ci (Y : mm_Y) (cp : Nat) (st : List Value) : Option (mm_Y × List Value × List Value) := (mm_ml Y.1 cp).bind (fun q =>
  match st.drop q.2.1 with
  | .ref a :: r => if (q.1 = 2 ∨ q.1 = 4) ∧ mm_fit q.2.2 (.ref a :: (st.take q.2.1).reverse) r = true then some (q.2.2, .ref a :: (st.take q.2.1).reverse, r) else none
  | _ => none)
def mm_call (Y : mm_Y) (i : Instr) (st : List Value) (M : mm_M) : Option (mm_Y × List Value × List Value) := match i with
  | .invokevirtual cp => mm_cv Y cp st M
  | .invokestatic cp => mm_cs Y cp st
  | .invokespecial cp => mm_ci Y cp st
  | _ => none
def mm_ri (ret : Option FieldType) (st : List Value) : Option (Option Value) := match st with
  | [.int v] => match ret with
    | some ty => if ty = .int ∨ narrow ty (.int v) = .int v then some (some (.int v)) else none
    | none => none
  | _ => none
def mm_rl (ret : Option FieldType) (st : List Value) : Option (Option Value) := match st with
  | [.long v] => if ret = some .long then some (some (.long v)) else none
  | _ => none
def mm_ra (ret : Option FieldType) (st : List Value) : Option (Option Value) := match st with
  | [.ref v] => match ret with
    | some (.object _) => some (some (.ref v))
    | _ => none
  | [.null] => match ret with
    | some (.object _) => some (some .null)
    | _ => none
  | _ => none
def mm_rn (ret : Option FieldType) (st : List Value) : Option (Option Value) := match st with
  | [] => if ret = none then some none else none
  | _ => none
def mm_ret (ret : Option FieldType) (i : Instr) (st : List Value) : Option (Option Value) := match i with
  | .ireturn => mm_ri ret st
  | .lreturn => mm_rl ret st
  | .areturn => mm_ra ret st
  | .return_ => mm_rn ret st
  | _ => none
/-- THE MACHINE: n steps at most in a chain, d calls deep -/
def mm_run (X : mm_C) : Nat → Nat → mm_Y → Nat → mm_L → List Value → mm_M → Option (Option Value × mm_M)
  | 0, _, _, _, _, _, _ => none
  | n + 1, d, Y, pc, lv, st, M => match decode Y.2.2.1 pc with
    | .error _ => none
    | .ok q => match mm_next X Y q.1 q.2 pc lv st M with
      | some o => mm_run X n d Y o.1 o.2.1 o.2.2.1 o.2.2.2
      | none => match mm_call Y q.1 st M with
        | some g => match d with
          | 0 => none
          | d' + 1 => if q.2 = 3 then (match mm_run X n d' g.1 0 (lv_args 0 g.2.1) [] M with
            | some r => mm_run X n (d' + 1) Y (pc + 3) lv (r.1.toList ++ g.2.2) r.2
            | none => none) else none
        | none => match mm_ret Y.2.2.2.2 q.1 st with
          | some r => if q.2 = 1 then some (r, M) else none
          | none => none
