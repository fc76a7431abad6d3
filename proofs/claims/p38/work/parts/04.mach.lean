/-! AN ABSTRACT MACHINE over a flat memory: kinds of cells, ints, longs, references, by address and place -/
abbrev mm_M : Type := List (Nat × Nat) × (Nat → Nat → Int32) × (Nat → Nat → Int64) × (Nat → Nat → Option Nat)
/-- a method: its class's number, name, code, locals, answer -/
abbrev mm_Y : Type := Nat × MethodName × ByteArray × Nat × Option FieldType
abbrev mm_L : Type := List (Nat × Value)
abbrev mm_O : Type := Nat × mm_L × List Value × mm_M
def mm_ix {α : Type} : List (Nat × α) → Nat → Option α
  | [], _ => none
  | (a, b) :: l, k => bif Nat.beq a k then some b else mm_ix l k
/-- kinds of cells: below 12 an object of that class; 100 int[], 101 long[], 102 byte[], 103 boolean[], 110 + c an array of objects of class c -/
def mm_tag (M : mm_M) (a : Nat) : Nat := (M.1.getD a (99, 0)).1
def mm_len (M : mm_M) (a : Nat) : Nat := (M.1.getD a (99, 0)).2
/-- how a field's type is held: 0 an int, 1 a long, 2 a reference -/
def mm_tk : FieldType → Nat
  | .long => 1
  | .object _ => 2
  | .array _ => 2
  | _ => 0
def mm_up {α : Type} (f : Nat → Nat → α) (a k : Nat) (x : α) : Nat → Nat → α := fun b => if b = a then (fun j => if j = k then x else f a j) else f b
def mm_row {α : Type} (f : Nat → Nat → α) (a : Nat) (r : Nat → α) : Nat → Nat → α := fun b => if b = a then r else f b
/-- the external cells: from 4096 on: 0 the script, 1 the table, 10 + i a String constant, 50 + i its bytes -/
def mm_ext : Nat := 4096
def mm_rv : Option Nat → Value
  | none => .null
  | some a => .ref a
def mm_fa (M : mm_M) (a k t : Nat) : Value := match t with
  | 0 => .int (M.2.1 a k)
  | 1 => .long (M.2.2.1 a k)
  | _ => mm_rv (M.2.2.2 a k)
def mm_ii (st : List Value) (f : Int32 → Int32 → Option Value) : Option (List Value) := match st with
  | .int y :: .int x :: r => (f x y).map (· :: r)
  | _ => none
def mm_jj (st : List Value) (f : Int64 → Int64 → Option Value) : Option (List Value) := match st with
  | .long y :: .long x :: r => (f x y).map (· :: r)
  | _ => none
def mm_ji (st : List Value) (f : Int64 → Int32 → Value) : Option (List Value) := match st with
  | .int y :: .long x :: r => some (f x y :: r)
  | _ => none
def mm_i1 (st : List Value) (f : Int32 → Value) : Option (List Value) := match st with
  | .int x :: r => some (f x :: r)
  | _ => none
def mm_j1 (st : List Value) (f : Int64 → Value) : Option (List Value) := match st with
  | .long x :: r => some (f x :: r)
  | _ => none
def mm_dup (st : List Value) : Option (List Value) := match st with
  | v :: r => if v.category = 1 then some (v :: v :: r) else none
  | _ => none
def mm_pop (st : List Value) : Option (List Value) := match st with
  | v :: r => if v.category = 1 then some r else none
  | _ => none
def mm_pop2 (st : List Value) : Option (List Value) := match st with
  | v :: r => if v.category = 2 then some r else none
  | _ => none
def mm_dup2 (st : List Value) : Option (List Value) := match st with
  | v :: w :: r => if v.category = 1 ∧ w.category = 1 then some (v :: w :: v :: w :: r) else none
  | _ => none
/-- instructions of one byte over the stack alone -/
def mm_ar (i : Instr) (st : List Value) : Option (List Value) := match i with
  | .iadd => mm_ii st (fun x y => some (.int (x + y)))
  | .isub => mm_ii st (fun x y => some (.int (x - y)))
  | .imul => mm_ii st (fun x y => some (.int (x * y)))
  | .iand => mm_ii st (fun x y => some (.int (x &&& y)))
  | .ior => mm_ii st (fun x y => some (.int (x ||| y)))
  | .idiv => mm_ii st (fun x y => if y = 0 then none else some (.int (x / y)))
  | .irem => mm_ii st (fun x y => if y = 0 then none else some (.int (x - x / y * y)))
  | .ishl => mm_ii st (fun x y => some (.int (x <<< (y &&& 31))))
  | .ishr => mm_ii st (fun x y => some (.int (x >>> (y &&& 31))))
  | .ladd => mm_jj st (fun x y => some (.long (x + y)))
  | .lsub => mm_jj st (fun x y => some (.long (x - y)))
  | .lmul => mm_jj st (fun x y => some (.long (x * y)))
  | .land => mm_jj st (fun x y => some (.long (x &&& y)))
  | .lor => mm_jj st (fun x y => some (.long (x ||| y)))
  | .ldiv => mm_jj st (fun x y => if y = 0 then none else some (.long (x / y)))
  | .lrem => mm_jj st (fun x y => if y = 0 then none else some (.long (x - x / y * y)))
  | .lcmp => mm_jj st (fun x y => some (.int (lg_cmp x y)))
  | .lshl => mm_ji st (fun x y => .long (x <<< (y.toInt64 &&& 63)))
  | .lshr => mm_ji st (fun x y => .long (x >>> (y.toInt64 &&& 63)))
  | .lneg => mm_j1 st (fun x => .long (-x))
  | .l2i => mm_j1 st (fun x => .int x.toInt32)
  | .i2l => mm_i1 st (fun x => .long x.toInt64)
  | .i2b => mm_i1 st (fun x => .int x.toInt8.toInt32)
  | .i2c => mm_i1 st (fun x => .int (x.toUInt32 % 65536).toInt32)
  | .iconst n => some (.int (Int32.ofInt n) :: st)
  | .lconst n => some (.long (Int64.ofNat (n : Nat)) :: st)
  | .aconst_null => some (.null :: st)
  | .dup => mm_dup st
  | .pop => mm_pop st
  | .pop2 => mm_pop2 st
  | .dup2 => mm_dup2 st
  | _ => none
def mm_geti (lv : mm_L) (k : Nat) : Option Value := match mm_ix lv k with
  | some (.int x) => some (.int x)
  | _ => none
def mm_getl (lv : mm_L) (k : Nat) : Option Value := match mm_ix lv k with
  | some (.long x) => some (.long x)
  | _ => none
def mm_geta (lv : mm_L) (k : Nat) : Option Value := match mm_ix lv k with
  | some (.ref x) => some (.ref x)
  | some .null => some .null
  | _ => none
/-- a local onto the stack, and how long the instruction is -/
def mm_ld (i : Instr) (lv : mm_L) : Option (Nat × Value) := match i with
  | .iload_n k => (mm_geti lv k).map (1, ·)
  | .iload k => (mm_geti lv k).map (2, ·)
  | .lload_n k => (mm_getl lv k).map (1, ·)
  | .lload k => (mm_getl lv k).map (2, ·)
  | .aload_n k => (mm_geta lv k).map (1, ·)
  | .aload k => (mm_geta lv k).map (2, ·)
  | .bipush n => some (2, .int (Int8.ofInt n).toInt32)
  | .sipush n => some (3, .int (Int16.ofInt n).toInt32)
  | _ => none
def mm_set1 (lv : mm_L) (i : Nat) (v : Value) : mm_L := (i, v) :: lv.filter (fun q => !(q.1 == i) && !(q.1 + 1 == i && q.2.category == 2))
def mm_set2 (lv : mm_L) (i : Nat) (v : Value) : mm_L := (i, v) :: lv.filter (fun q => !(q.1 == i) && (!(q.1 == i + 1) && !(q.1 + 1 == i && q.2.category == 2)))
def mm_sti (nL : Nat) (lv : mm_L) (k : Nat) (st : List Value) : Option (mm_L × List Value) := match st with
  | .int x :: r => if k < nL then some (mm_set1 lv k (.int x), r) else none
  | _ => none
def mm_stl (nL : Nat) (lv : mm_L) (k : Nat) (st : List Value) : Option (mm_L × List Value) := match st with
  | .long x :: r => if k + 1 < nL then some (mm_set2 lv k (.long x), r) else none
  | _ => none
def mm_sta (nL : Nat) (lv : mm_L) (k : Nat) (st : List Value) : Option (mm_L × List Value) := match st with
  | .ref x :: r => if k < nL then some (mm_set1 lv k (.ref x), r) else none
  | .null :: r => if k < nL then some (mm_set1 lv k .null, r) else none
  | _ => none
def mm_inc (nL : Nat) (lv : mm_L) (k : Nat) (n : Int) (st : List Value) : Option (mm_L × List Value) := match mm_ix lv k with
  | some (.int x) => if k < nL then some (mm_set1 lv k (.int (x + Int32.ofInt n)), st) else none
  | _ => none
/-- the stack into a local -/
def mm_sv (i : Instr) (nL : Nat) (lv : mm_L) (st : List Value) : Option (Nat × mm_L × List Value) := match i with
  | .istore_n k => (mm_sti nL lv k st).map (1, ·)
  | .istore k => (mm_sti nL lv k st).map (2, ·)
  | .lstore_n k => (mm_stl nL lv k st).map (1, ·)
  | .lstore k => (mm_stl nL lv k st).map (2, ·)
  | .astore_n k => (mm_sta nL lv k st).map (1, ·)
  | .astore k => (mm_sta nL lv k st).map (2, ·)
  | .iinc k n => (mm_inc nL lv k n st).map (3, ·)
  | _ => none
def mm_tg (pc : Nat) (off : Int) : Option Nat := if 0 ≤ (pc : Int) + off then some ((pc : Int) + off).toNat else none
def mm_cc (c : ClassFile.Cond) (x y : Int32) : Bool := match c with
  | .eq => decide (x = y)
  | .ne => !decide (x = y)
  | .lt => decide (x < y)
  | .ge => decide (y ≤ x)
  | .gt => decide (y < x)
  | .le => decide (x ≤ y)
/-- a branch: the place where it goes on, the stack -/
def mm_if0 (c : ClassFile.Cond) (pc : Nat) (off : Int) (st : List Value) : Option (Nat × List Value) := match st with
  | .int x :: r => (mm_tg pc off).map (fun t => (bif mm_cc c x 0 then t else pc + 3, r))
  | _ => none
def mm_if2 (c : ClassFile.Cond) (pc : Nat) (off : Int) (st : List Value) : Option (Nat × List Value) := match st with
  | .int y :: .int x :: r => (mm_tg pc off).map (fun t => (bif mm_cc c x y then t else pc + 3, r))
  | _ => none
def mm_ifn (pc : Nat) (off : Int) (st : List Value) : Option (Nat × List Value) := match st with
  | .null :: r => (mm_tg pc off).map (·, r)
  | .ref _ :: r => some (pc + 3, r)
  | _ => none
def mm_sw (pc : Nat) (d lo hi : Int) (offs : Array Int) (st : List Value) : Option (Nat × List Value) := match st with
  | .int x :: r => if x.toInt < lo ∨ hi < x.toInt then (mm_tg pc d).map (·, r) else (offs[(x.toInt - lo).toNat]?).bind (fun o => (mm_tg pc o).map (·, r))
  | _ => none
def mm_br (i : Instr) (pc : Nat) (st : List Value) : Option (Nat × List Value) := match i with
  | .ifCond c off => mm_if0 c pc off st
  | .if_icmp c off => mm_if2 c pc off st
  | .goto off => (mm_tg pc off).map (·, st)
  | .ifnull off => mm_ifn pc off st
  | .tableswitch d lo hi offs => mm_sw pc d lo hi offs st
  | _ => none
