/-! WHAT A RUN OF THE SMALL MACHINE IS -/
def mm_me (j : Nat) : mm_m := mm_ms.getD j (⟨"", "", ""⟩, ByteArray.empty, 0, none, [], [])
def mm_tb (j : Nat) : List mm_e := (mm_me j).2.2.2.2.1
def mm_en (j i : Nat) : Option mm_e := (mm_tb j)[i]?
def mm_kd (μ : mm_M) (a : Nat) : Nat × Nat := if 1 ≤ a ∧ a < μ.1 ∧ a < 1000000 then μ.2.1 a else (0, 0)
def mm_pure (ins : Instr) (y : Nat) (L : mm_Lo) (st : List Value) : Option (mm_Lo × List Value) :=
  match mm_p1 ins y L st with
  | some r => some r
  | none => match mm_p2 ins L st with
    | some r => some r
    | none => match mm_p3 ins st with
      | some s => some (L, s)
      | none => none
def mm_cmp (c : ClassFile.Cond) (x y : Int32) : Bool :=
  match c with
  | .eq => decide (x = y)
  | .ne => !decide (x = y)
  | .lt => decide (x < y)
  | .ge => decide (y ≤ x)
  | .gt => decide (y < x)
  | .le => decide (x ≤ y)
def mm_br (ins : Instr) (st : List Value) : Option (Bool × List Value) :=
  match ins with
  | .ifCond c _ => match st with
    | .int x :: st => some (mm_cmp c x 0, st)
    | _ => none
  | .if_icmp c _ => match st with
    | .int y :: .int x :: st => some (mm_cmp c x y, st)
    | _ => none
  | _ => none
/-- memory that is read -/
def mm_m1 (X : Nat × (Nat → Int32)) (ins : Instr) (x y : Nat) (st : List Value) (μ : mm_M) : Option (List Value) :=
  match ins with
  | .getfield _ => match st with
    | .ref a :: st => if (mm_kd μ a).1 = 10 + x ∧ y < mm_N x then (match mm_fk x y with
      | 2 => some (.ref (μ.2.2.1 a y) :: st)
      | _ => some (.int (μ.2.2.2 a y) :: st)) else none
    | _ => none
  | .iaload => match st with
    | .int i :: .ref a :: st => if a < 1000000 then (if (mm_kd μ a).1 = 1 then (if i < 0 ∨ (mm_kd μ a).2 ≤ i.toNatClampNeg then none else some (.int (μ.2.2.2 a i.toNatClampNeg) :: st)) else none) else (if a < 1000005 then (if i < 0 ∨ (mm_S X (a - 1000000)).1 ≤ i.toNatClampNeg then none else some (.int ((mm_S X (a - 1000000)).2 i.toNatClampNeg) :: st)) else none)
    | _ => none
  | .aaload => match st with
    | .int i :: .ref a :: st => if 2 ≤ (mm_kd μ a).1 ∧ (mm_kd μ a).1 ≤ 4 then (if i < 0 ∨ (mm_kd μ a).2 ≤ i.toNatClampNeg then none else some (.ref (μ.2.2.1 a i.toNatClampNeg) :: st)) else none
    | _ => none
  | .arraylength => match st with
    | .ref a :: st => if a < 1000000 then (if 1 ≤ (mm_kd μ a).1 ∧ (mm_kd μ a).1 ≤ 4 then some (.int (nI (mm_kd μ a).2) :: st) else none) else (if a < 1000005 then some (.int (nI (mm_S X (a - 1000000)).1) :: st) else none)
    | _ => none
  | .getstatic _ => if x < 4 then some (.ref (1000000 + x) :: st) else none
  | .ldc _ => some (.ref 1000005 :: st)
  | .invokespecial _ => match st with
    | .ref a :: st => if 1 ≤ a ∧ a < 1000000 ∧ (st.map fun v => v.category).sum ≤ 8 then some st else none
    | _ => none
  | .invokevirtual _ => match st with
    | .int i :: .ref a :: st => if a = 1000005 ∧ (st.map fun v => v.category).sum ≤ 8 then (if i < 0 ∨ 9 ≤ i.toNatClampNeg then none else some (.int (nI (mm_tx.getD i.toNatClampNeg 0)) :: st)) else none
    | _ => none
  | _ => none
/-- memory that is written -/
def mm_m2 (ins : Instr) (x y : Nat) (st : List Value) (μ : mm_M) : Option (List Value × mm_M) :=
  match ins with
  | .putfield _ => match st with
    | .int v :: .ref a :: st => if (mm_kd μ a).1 = 10 + x ∧ y < mm_N x then (match mm_fk x y with
      | 0 => some (st, (μ.1, μ.2.1, μ.2.2.1, mm_up2 μ.2.2.2 a y v))
      | 1 => if v = 0 ∨ v = 1 then some (st, (μ.1, μ.2.1, μ.2.2.1, mm_up2 μ.2.2.2 a y v)) else none
      | _ => none) else none
    | .ref q :: .ref a :: st => if (mm_kd μ a).1 = 10 + x ∧ y < mm_N x ∧ mm_fk x y = 2 then some (st, (μ.1, μ.2.1, mm_up2 μ.2.2.1 a y q, μ.2.2.2)) else none
    | _ => none
  | .iastore => match st with
    | .int v :: .int i :: .ref a :: st => if (mm_kd μ a).1 = 1 then (if i < 0 ∨ (mm_kd μ a).2 ≤ i.toNatClampNeg then none else some (st, (μ.1, μ.2.1, μ.2.2.1, mm_up2 μ.2.2.2 a i.toNatClampNeg v))) else none
    | _ => none
  | .aastore => match st with
    | .ref q :: .int i :: .ref a :: st => if ((mm_kd μ a).1 = 2 ∧ (mm_kd μ q).1 = 15) ∨ ((mm_kd μ a).1 = 3 ∧ (mm_kd μ q).1 = 10) then (if i < 0 ∨ (mm_kd μ a).2 ≤ i.toNatClampNeg then none else some (st, (μ.1, μ.2.1, mm_up2 μ.2.2.1 a i.toNatClampNeg q, μ.2.2.2))) else none
    | _ => none
  | .invokestatic _ => match st with
    | .int n :: .int dp :: .ref a :: .int sp :: .ref a0 :: st => if (mm_kd μ a).1 = 1 ∧ (mm_kd μ a0).1 = 1 ∧ ¬ sp < 0 ∧ ¬ dp < 0 ∧ ¬ n < 0 ∧ sp.toNatClampNeg + n.toNatClampNeg ≤ (mm_kd μ a0).2 ∧ dp.toNatClampNeg + n.toNatClampNeg ≤ (mm_kd μ a).2 ∧ (st.map fun v => v.category).sum ≤ 8 then some (st, (μ.1, μ.2.1, μ.2.2.1, mm_row μ.2.2.2 a (va_cpy (μ.2.2.2 a0) (μ.2.2.2 a) sp.toNatClampNeg dp.toNatClampNeg n.toNatClampNeg))) else none
    | _ => none
  | _ => none
/-- memory that is made: an object of class x, an int row, a row of references, int rows in a row -/
def mm_m3 (ins : Instr) (x : Nat) (cap : Nat × Nat) (st : List Value) (B : Nat × Nat) (μ : mm_M) : Option (List Value × (Nat × Nat) × mm_M) :=
  match ins with
  | .new _ => if B.1 + 1 ≤ cap.1 ∧ B.2 + mm_N x ≤ cap.2 ∧ μ.1 + 1 < 1000000 ∧ x < 11 then some (.ref μ.1 :: st, (B.1 + 1, B.2 + mm_N x), (μ.1 + 1, mm_up1 μ.2.1 μ.1 (10 + x, 0), mm_row μ.2.2.1 μ.1 (fun _ => 0), mm_row μ.2.2.2 μ.1 (fun _ => 0))) else none
  | .newarray .int => match st with
    | .int n :: st => if ¬ n < 0 ∧ n.toNatClampNeg ≤ 65536 ∧ B.1 + 1 ≤ cap.1 ∧ B.2 + n.toNatClampNeg ≤ cap.2 ∧ μ.1 + 1 < 1000000 then some (.ref μ.1 :: st, (B.1 + 1, B.2 + n.toNatClampNeg), (μ.1 + 1, mm_up1 μ.2.1 μ.1 (1, n.toNatClampNeg), mm_row μ.2.2.1 μ.1 (fun _ => 0), mm_row μ.2.2.2 μ.1 (fun _ => 0))) else none
    | _ => none
  | .anewarray _ => match st with
    | .int n :: st => if (x = 2 ∨ x = 3) ∧ ¬ n < 0 ∧ n.toNatClampNeg ≤ 65536 ∧ B.1 + 1 ≤ cap.1 ∧ B.2 + n.toNatClampNeg ≤ cap.2 ∧ μ.1 + 1 < 1000000 then some (.ref μ.1 :: st, (B.1 + 1, B.2 + n.toNatClampNeg), (μ.1 + 1, mm_up1 μ.2.1 μ.1 (x, n.toNatClampNeg), mm_row μ.2.2.1 μ.1 (fun _ => 0), mm_row μ.2.2.2 μ.1 (fun _ => 0))) else none
    | _ => none
  | .multianewarray _ 2 => match st with
    | .int k :: .int n :: st => if ¬ n < 0 ∧ ¬ k < 0 ∧ n.toNatClampNeg ≤ 1000 ∧ k.toNatClampNeg ≤ 1000 ∧ B.1 + (1 + n.toNatClampNeg) ≤ cap.1 ∧ B.2 + (n.toNatClampNeg + n.toNatClampNeg * k.toNatClampNeg) ≤ cap.2 ∧ μ.1 + 1 + n.toNatClampNeg < 1000000 then
        some (.ref μ.1 :: st, (B.1 + 1 + n.toNatClampNeg, B.2 + n.toNatClampNeg + n.toNatClampNeg * k.toNatClampNeg), (μ.1 + 1 + n.toNatClampNeg, (fun q => if q = μ.1 then (4, n.toNatClampNeg) else if μ.1 < q ∧ q < μ.1 + 1 + n.toNatClampNeg then (1, k.toNatClampNeg) else μ.2.1 q), (fun q i => if q = μ.1 then (if i < n.toNatClampNeg then μ.1 + 1 + i else 0) else if μ.1 < q ∧ q < μ.1 + 1 + n.toNatClampNeg then 0 else μ.2.2.1 q i), (fun q i => if μ.1 ≤ q ∧ q < μ.1 + 1 + n.toNatClampNeg then 0 else μ.2.2.2 q i))) else none
    | _ => none
  | _ => none
def mm_mem (X : Nat × (Nat → Int32)) (j : Nat) (ins : Instr) (x y : Nat) (st : List Value) (B : Nat × Nat) (μ : mm_M) : Option (List Value × (Nat × Nat) × mm_M) :=
  match mm_m1 X ins x y st μ with
  | some st => some (st, B, μ)
  | none => match mm_m2 ins x y st μ with
    | some (st, μ) => some (st, B, μ)
    | none => mm_m3 ins x (mm_nu (mm_me j) 5, mm_nu (mm_me j) 6) st B μ
/-- the locals that a call begins with -/
def mm_ent : List Value → mm_Lo
  | [] => []
  | .long v :: vs => some (.long v) :: none :: mm_ent vs
  | .double v :: vs => some (.double v) :: none :: mm_ent vs
  | v :: vs => some v :: mm_ent vs
def mm_ini (vs : List Value) (n : Nat) : mm_Lo := mm_ent vs ++ List.replicate (n - (mm_ent vs).length) none
/-- the receiver of a call of kind k (0: none) of a method of class c -/
def mm_rcv (k c : Nat) (as : List Value) (μ : mm_M) : Bool :=
  match k with
  | 0 => true
  | 1 => match as with
    | .ref a :: _ => decide ((mm_kd μ a).1 = 10 + c)
    | _ => false
  | _ => match as with
    | .ref a :: _ => decide (1 ≤ a ∧ a < 1000000)
    | _ => false
/-- a call: its arguments, the rest of the stack, the budget behind it -/
def mm_cl (j x : Nat) (st : List Value) (B : Nat × Nat) (μ : mm_M) : Option (List Value × List Value × (Nat × Nat)) :=
  let m := mm_me x
  let na := mm_nu m 1
  let as := (st.take na).reverse
  let rest := st.drop na
  if na ≤ st.length ∧ (rest.map fun v => v.category).sum ≤ 8 ∧ mm_rcv (mm_nu m 0) (mm_nu m 2) as μ = true ∧ (mm_ent as).length ≤ m.2.2.1 ∧ B.1 + mm_nu m 5 ≤ mm_nu (mm_me j) 5 ∧ B.2 + mm_nu m 6 ≤ mm_nu (mm_me j) 6 then some (as, rest, (B.1 + mm_nu m 5, B.2 + mm_nu m 6)) else none
/-- a method's end -/
def mm_rt (j : Nat) (ins : Instr) (st : List Value) (μ : mm_M) : Option (Option Value × mm_M) :=
  match ins with
  | .return_ => match st with
    | [] => if (mm_me j).2.2.2.1 = none then some (none, μ) else none
    | _ => none
  | .ireturn => match st with
    | [.int v] => if (mm_me j).2.2.2.1 = some .int ∨ ((mm_me j).2.2.2.1 = some .boolean ∧ (v = 0 ∨ v = 1)) then some (some (.int v), μ) else none
    | _ => none
  | .lreturn => match st with
    | [.long v] => if (mm_me j).2.2.2.1 = some .long then some (some (.long v), μ) else none
    | _ => none
  | .areturn => match st with
    | [.ref a] => if (mm_me j).2.2.2.1 = some (.object "DotSquares$Typed") ∧ 1 ≤ a then some (some (.ref a), μ) else none
    | _ => none
  | _ => none
/-- where a switch goes -/
def mm_off (ins : Instr) (x : Int32) : Option Int :=
  match ins with
  | .tableswitch dflt lo hi offs => if x.toInt < lo ∨ hi < x.toInt then some dflt else offs[(x.toInt - lo).toNat]?
  | _ => none
def mm_sw (j pc : Nat) (ins : Instr) (st : List Value) : Option (Nat × List Value) :=
  match st with
  | .int x :: st => match mm_off ins x with
    | some o => match (mm_tb j).findIdx? (fun e => decide ((e.2.1 : Int) = (pc : Int) + o)) with
      | some i => some (i, st)
      | none => none
    | none => none
  | _ => none
def mm_x (X : Nat × (Nat → Int32)) : Nat → Nat → Nat → mm_Lo → List Value → Nat × Nat → mm_M → Option (Option Value × mm_M)
  | 0, _, _, _, _, _, _ => none
  | f + 1, j, i, L, st, B, μ =>
    match mm_en j i with
    | none => none
    | some (tag, pc, ins, _, x, y, _) =>
      match tag with
      | 0 => match mm_pure ins y L st with
        | some (L', st') => mm_x X f j (i + 1) L' st' B μ
        | none => none
      | 1 => match mm_br ins st with
        | some (true, st') => mm_x X f j x L st' B μ
        | some (false, st') => mm_x X f j (i + 1) L st' B μ
        | none => none
      | 2 => mm_x X f j x L st B μ
      | 3 => match mm_mem X j ins x y st B μ with
        | some (st', B', μ') => mm_x X f j (i + 1) L st' B' μ'
        | none => none
      | 4 => match mm_cl j x st B μ with
        | some (as, rest, B') => match mm_x X f x 0 (mm_ini as (mm_me x).2.2.1) [] (0, 0) μ with
          | some (r, μ') => mm_x X f j (i + 1) L (r.toList ++ rest) B' μ'
          | none => none
        | none => none
      | 5 => mm_rt j ins st μ
      | _ => match mm_sw j pc ins st with
        | some (i', st') => mm_x X f j i' L st' B μ
        | none => none
