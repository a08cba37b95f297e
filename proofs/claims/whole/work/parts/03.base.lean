/-! THE SMALL MACHINE: its memory, its rows of code, what an instruction does. Addresses here are small numbers: 0 is null, from 1 on the cells in the order in which they were made, from 1000000 on the tables that nobody writes (and the script, and the text). -/
abbrev mm_M : Type := Nat × (Nat → Nat × Nat) × (Nat → Nat → Nat) × (Nat → Nat → Int32)
abbrev mm_Lo : Type := List (Option Value)
/-- a row of code: kind, place, instruction, length, three numbers -/
abbrev mm_e : Type := Nat × Nat × Instr × Nat × Nat × Nat × Nat
/-- a method: name, code, locals, answer, rows, numbers (kind, args, class, frames, locals, cells, slots, words) -/
abbrev mm_m : Type := MethodName × ByteArray × Nat × Option FieldType × List mm_e × List Nat
def mm_nu (m : mm_m) (i : Nat) : Nat := m.2.2.2.2.2.getD i 0
/-- how many fields a class has -/
def mm_N (c : Nat) : Nat := [4, 5, 9, 7, 7, 4, 4, 3, 3, 11, 34].getD c 0
/-- the kind of a field: 0 int, 1 boolean, 2 a reference -/
def mm_fk (c k : Nat) : Nat := (([[2, 2, 0, 0], [2, 2, 0, 2, 0], [0, 1, 0, 0, 2, 2, 2, 2, 2], [2, 2, 2, 2, 2, 2, 0], [0, 0, 2, 2, 2, 2, 1], [1, 0, 0, 2], [0, 2, 2, 2], [2, 0, 0], [2, 2, 2], [2, 2, 2, 2, 2, 2, 2, 2, 2, 0, 0], [2, 2, 2, 2, 0, 2, 2, 2, 2, 2, 2, 1, 0, 0, 2, 2, 2, 2, 2, 2, 2, 2, 2, 0, 0, 0, 0, 2, 2, 2, 2, 2, 2, 2]] : List (List Nat)).getD c []).getD k 9
def mm_up2 {α : Type} (f : Nat → Nat → α) (a k : Nat) (v : α) : Nat → Nat → α := fun q j => if q = a then (if j = k then v else f q j) else f q j
def mm_up1 {α : Type} (f : Nat → α) (a : Nat) (v : α) : Nat → α := fun q => if q = a then v else f q
/-- a whole row -/
def mm_row {α : Type} (f : Nat → Nat → α) (a : Nat) (g : Nat → α) : Nat → Nat → α := fun q j => if q = a then g j else f q j
def mm_t0 : List Nat := [4088, 4088, 4088, 2032, 32767, 32767, 32767, 0, 32767, 32767, 32767, 32752, 32760, 32760, 32760]
def mm_t1 : List Nat := [28679, 20485, 28679, 0, 0, 0, 0, 21845, 0, 0, 0, 0, 7, 5, 7]
def mm_t2 : List Nat := [1, 2, 4, 8, 3, 6, 12, 11, 5, 10, 7, 14, 15, 13, 9, 1, 2, 4, 8, 3, 6, 12, 11, 5, 10, 7, 14, 15, 13, 9]
def mm_t3 : List Nat := [0, 0, 1, 4, 2, 8, 5, 10, 3, 14, 9, 7, 6, 13, 11, 12]
/-- the tables: how long, what they hold -/
def mm_S (X : Nat × (Nat → Int32)) (i : Nat) : Nat × (Nat → Int32) :=
  match i with
  | 0 => (15, fun j => nI (mm_t0.getD j 0))
  | 1 => (15, fun j => nI (mm_t1.getD j 0))
  | 2 => (30, fun j => nI (mm_t2.getD j 0))
  | 3 => (16, fun j => nI (mm_t3.getD j 0))
  | _ => X
def mm_tx : List Nat := [108, 111, 119, 109, 105, 100, 116, 111, 112]
def mm_lg : Option (Option Value) → Bool
  | some (some (.long _)) => true
  | some (some (.double _)) => true
  | _ => false
/-- may a place of the locals be written: the one ahead of it holds no long -/
def mm_ok1 (L : mm_Lo) (k : Nat) : Bool := decide (k < L.length) && (match k with | 0 => true | q + 1 => !(mm_lg L[q]?))
/-- constants, locals -/
def mm_p1 (ins : Instr) (y : Nat) (L : mm_Lo) (st : List Value) : Option (mm_Lo × List Value) :=
  match ins with
  | .iconst _ | .bipush _ | .sipush _ | .ldc _ | .ldc_w _ => some (L, .int (nI y) :: st)
  | .lconst _ | .ldc2_w _ => some (L, .long (lN y) :: st)
  | .iload_n k => match L[k.val]? with
    | some (some (.int x)) => some (L, .int x :: st)
    | _ => none
  | .iload k => match L[k]? with
    | some (some (.int x)) => some (L, .int x :: st)
    | _ => none
  | .lload_n k => match L[k.val]? with
    | some (some (.long x)) => some (L, .long x :: st)
    | _ => none
  | .lload k => match L[k]? with
    | some (some (.long x)) => some (L, .long x :: st)
    | _ => none
  | .aload_n k => match L[k.val]? with
    | some (some (.ref x)) => some (L, .ref x :: st)
    | _ => none
  | .aload k => match L[k]? with
    | some (some (.ref x)) => some (L, .ref x :: st)
    | _ => none
  | .iinc k _ => match L[k]? with
    | some (some (.int x)) => match mm_ok1 L k with
      | true => some (L.set k (some (.int (x + nI y))), st)
      | false => none
    | _ => none
  | _ => none
def mm_st1 (L : mm_Lo) (k : Nat) (v : Value) (st : List Value) : Option (mm_Lo × List Value) :=
  match mm_ok1 L k with
  | true => some (L.set k (some v), st)
  | false => none
def mm_st2 (L : mm_Lo) (k : Nat) (v : Value) (st : List Value) : Option (mm_Lo × List Value) :=
  match mm_ok1 L k && decide (k + 1 < L.length) with
  | true => some ((L.set k (some v)).set (k + 1) none, st)
  | false => none
/-- stores into locals, the stack -/
def mm_p2 (ins : Instr) (L : mm_Lo) (st : List Value) : Option (mm_Lo × List Value) :=
  match ins with
  | .istore_n k => match st with
    | .int x :: st => mm_st1 L k.val (.int x) st
    | _ => none
  | .istore k => match st with
    | .int x :: st => mm_st1 L k (.int x) st
    | _ => none
  | .astore_n k => match st with
    | .ref x :: st => mm_st1 L k.val (.ref x) st
    | _ => none
  | .astore k => match st with
    | .ref x :: st => mm_st1 L k (.ref x) st
    | _ => none
  | .lstore_n k => match st with
    | .long x :: st => mm_st2 L k.val (.long x) st
    | _ => none
  | .lstore k => match st with
    | .long x :: st => mm_st2 L k (.long x) st
    | _ => none
  | .dup => match st with
    | .int x :: st => some (L, .int x :: .int x :: st)
    | .ref x :: st => some (L, .ref x :: .ref x :: st)
    | _ => none
  | .dup2 => match st with
    | .int x :: .ref a :: st => some (L, .int x :: .ref a :: .int x :: .ref a :: st)
    | _ => none
  | .pop => match st with
    | .int _ :: st => some (L, st)
    | _ => none
  | _ => none
/-- numbers -/
def mm_p3 (ins : Instr) (st : List Value) : Option (List Value) :=
  match ins with
  | .iadd => match st with
    | .int y :: .int x :: st => some (.int (x + y) :: st)
    | _ => none
  | .isub => match st with
    | .int y :: .int x :: st => some (.int (x - y) :: st)
    | _ => none
  | .imul => match st with
    | .int y :: .int x :: st => some (.int (x * y) :: st)
    | _ => none
  | .idiv => match st with
    | .int y :: .int x :: st => match decide (y = 0) with
      | true => none
      | false => some (.int (x / y) :: st)
    | _ => none
  | .irem => match st with
    | .int y :: .int x :: st => match decide (y = 0) with
      | true => none
      | false => some (.int (x - x / y * y) :: st)
    | _ => none
  | .ineg => match st with
    | .int x :: st => some (.int (-x) :: st)
    | _ => none
  | .iand => match st with
    | .int y :: .int x :: st => some (.int (x &&& y) :: st)
    | _ => none
  | .ior => match st with
    | .int y :: .int x :: st => some (.int (x ||| y) :: st)
    | _ => none
  | .ixor => match st with
    | .int y :: .int x :: st => some (.int (x ^^^ y) :: st)
    | _ => none
  | .ishl => match st with
    | .int y :: .int x :: st => some (.int (x <<< (y &&& 31)) :: st)
    | _ => none
  | .ishr => match st with
    | .int y :: .int x :: st => some (.int (x >>> (y &&& 31)) :: st)
    | _ => none
  | .iushr => match st with
    | .int y :: .int x :: st => some (.int ((x.toUInt32 >>> (y.toUInt32 &&& Int32.toUInt32 31)).toInt32) :: st)
    | _ => none
  | .ladd => match st with
    | .long y :: .long x :: st => some (.long (x + y) :: st)
    | _ => none
  | .lmul => match st with
    | .long y :: .long x :: st => some (.long (x * y) :: st)
    | _ => none
  | .lcmp => match st with
    | .long y :: .long x :: st => some (.int (lg_cmp x y) :: st)
    | _ => none
  | .i2l => match st with
    | .int x :: st => some (.long x.toInt64 :: st)
    | _ => none
  | .i2b => match st with
    | .int x :: st => some (.int x.toInt8.toInt32 :: st)
    | _ => none
  | .i2s => match st with
    | .int x :: st => some (.int x.toInt16.toInt32 :: st)
    | _ => none
  | _ => none
