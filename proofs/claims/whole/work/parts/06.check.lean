/-! WHAT IS CHECKED OF THE ROWS, BY PROGRAM -/
def mm_own (j : Nat) : String := (mm_me j).1.cls
def mm_pc (j i : Nat) : Nat := match mm_en j i with
  | some e => e.2.1
  | none => 0
def mm_cls (c : Nat) : vw_C := vwCl.getD c ("", fun _ => ("", "", "", false), 0)
def mm_sf (x : Nat) : String × String := match x with
  | 0 => ("DotSquares", "FREE")
  | 1 => ("DotSquares", "EYES_AND_CLOCK")
  | 2 => ("DotSquares$Field", "POWERS")
  | _ => ("DotSquares$Field", "LOGS")
def mm_k0 (own : String) (ins : Instr) (len y z : Nat) : Bool :=
  match ins with
  | .iconst n => len == 1 && decide (Int32.ofInt n = nI y)
  | .bipush n => len == 2 && decide ((Int8.ofInt n).toInt32 = nI y)
  | .sipush n => len == 3 && decide ((Int16.ofInt n).toInt32 = nI y)
  | .ldc q => len == 2 && decide (lw_tbl[z]? = some (.constant own q (nI y)))
  | .ldc_w q => len == 3 && decide (lw_tbl[z]? = some (.constant own q (nI y)))
  | .lconst n => len == 1 && decide (Int64.ofNat n.val = lN y)
  | .ldc2_w q => len == 3 && decide (lw_tbl[z]? = some (.constantLong own q (lN y)))
  | .iinc _ n => len == 3 && decide (Int32.ofInt n = nI y)
  | .iload _ | .lload _ | .aload _ | .istore _ | .lstore _ | .astore _ => len == 2
  | _ => len == 1
def mm_k3 (j : Nat) (ins : Instr) (len x y z : Nat) : Bool :=
  match ins with
  | .getfield q => len == 3 && decide (x < 11) && decide (y < mm_N x) && decide (lw_tbl[z]? = some (.fieldLink (mm_own j) q ((mm_cls x).2.1 y).1 ((mm_cls x).2.1 y).2.1 ((mm_cls x).2.1 y).2.2.1))
  | .putfield q => len == 3 && decide (x < 11) && decide (y < mm_N x) && decide (lw_tbl[z]? = some (.fieldLink (mm_own j) q ((mm_cls x).2.1 y).1 ((mm_cls x).2.1 y).2.1 ((mm_cls x).2.1 y).2.2.1)) && (decide (((mm_cls x).2.1 y).2.2.2 = false) || (mm_nu (mm_me j) 0 == 2 && decide (((mm_cls x).2.1 y).1 = mm_own j)))
  | .getstatic q => len == 3 && (if y = 0 then decide (lw_tbl[z]? = some (.fieldLink (mm_own j) q (mm_sf x).1 (mm_sf x).2 "[I")) else decide (z < mm_nest.length) && decide (lw_tbl[mm_nest.getD z 0]? = some (.fieldLinkNest (mm_own j) q (mm_sf x).1 (mm_sf x).2 "[I" "DotSquares")))
  | .ldc q => len == 2 && decide (mm_own j = "DotSquares$Typed") && q == 35
  | .invokespecial q => len == 3 && decide (lw_tbl[z]? = some (.methodLink (mm_own j) q objectInit)) && decide (1 ≤ mm_nu (mm_me j) 3) && decide (20 ≤ mm_nu (mm_me j) 4)
  | .invokevirtual q => len == 3 && decide (lw_tbl[z]? = some (.methodLink (mm_own j) q yJ0_charAt_5068e)) && decide (4 ≤ mm_nu (mm_me j) 3) && decide (85 ≤ mm_nu (mm_me j) 4)
  | .invokestatic q => len == 3 && decide (lw_tbl[z]? = some (.methodLink (mm_own j) q arraycopyName)) && decide (1 ≤ mm_nu (mm_me j) 3) && decide (68 ≤ mm_nu (mm_me j) 4)
  | .new q => len == 3 && decide (x < 11) && decide (lw_tbl[z]? = some (.classLink (mm_own j) q (mm_cls x).1))
  | .newarray .int => len == 2
  | .anewarray q => len == 3 && decide (lw_tbl[z]? = some (.classLink (mm_own j) q (if x = 2 then RX6 else RX0)))
  | .multianewarray q 2 => len == 4 && decide (lw_tbl[z]? = some (.classLink (mm_own j) q "[[I"))
  | .iaload | .iastore | .aaload | .aastore | .arraylength => len == 1
  | _ => false
def mm_k4 (j : Nat) (ins : Instr) (x y z : Nat) : Bool :=
  decide (x < 225) && decide (mm_nu (mm_me x) 3 + 1 ≤ mm_nu (mm_me j) 3) && decide (8 + ((mm_me x).2.2.1 + 11) + mm_nu (mm_me x) 4 ≤ mm_nu (mm_me j) 4) &&
  (match ins with
  | .invokestatic q => mm_nu (mm_me x) 0 == 0 && (if z = 0 then decide (lw_tbl[y]? = some (.methodLink (mm_own j) q (mm_me x).1)) else decide (y < mm_nest.length) && decide (lw_tbl[mm_nest.getD y 0]? = some (.methodLinkNest (mm_own j) q (mm_me x).1 "DotSquares")))
  | .invokevirtual q => mm_nu (mm_me x) 0 == 1 && (if z = 0 then decide (lw_tbl[y]? = some (.methodLink (mm_own j) q (mm_me x).1)) else decide (y < mm_nest.length) && decide (lw_tbl[mm_nest.getD y 0]? = some (.methodLinkNest (mm_own j) q (mm_me x).1 "DotSquares")))
  | .invokespecial q => mm_nu (mm_me x) 0 == 2 && (if z = 0 then decide (lw_tbl[y]? = some (.methodLink (mm_own j) q (mm_me x).1)) else decide (y < mm_nest.length) && decide (lw_tbl[mm_nest.getD y 0]? = some (.methodLinkNest (mm_own j) q (mm_me x).1 "DotSquares")))
  | _ => false)
def mm_kb (ins : Instr) (pc tgt : Nat) : Bool :=
  match ins with
  | .ifCond _ o => decide ((pc : Int) + o = (tgt : Nat))
  | .if_icmp _ o => decide ((pc : Int) + o = (tgt : Nat))
  | _ => false
def mm_kg (ins : Instr) (pc tgt : Nat) : Bool :=
  match ins with
  | .goto o => decide ((pc : Int) + o = (tgt : Nat))
  | _ => false
/-- a row -/
def mm_ck (j i : Nat) : Bool := match mm_en j i with
  | none => false
  | some (tag, pc, ins, len, x, y, z) => decide (decode (mm_me j).2.1 pc = .ok (ins, len)) && (match tag with
    | 0 => mm_k0 (mm_own j) ins len y z && mm_pc j (i + 1) == pc + len
    | 1 => mm_kb ins pc (mm_pc j x) && len == 3 && mm_pc j (i + 1) == pc + 3
    | 2 => mm_kg ins pc (mm_pc j x) && len == 3
    | 3 => mm_k3 j ins len x y z && mm_pc j (i + 1) == pc + len
    | 4 => mm_k4 j ins x y z && len == 3 && mm_pc j (i + 1) == pc + 3
    | 5 => len == 1
    | _ => true)
/-- a method's head -/
def mm_hd (j : Nat) : Bool :=
  let m := mm_me j
  decide (lw_tbl[mm_nu m 7]? = some (.code m.1 m.2.1 m.2.2.1 m.2.2.2.1)) && decide (lw_tbl[mm_nu m 8]? = some (.initialized m.1.cls)) && plainFor m.1 && decide (m.1.cls ≠ "java/lang/invoke/MethodHandle") && decide (m.1.cls ≠ "java/lang/invoke/VarHandle") && mm_pc j 0 == 0 &&
  (match mm_nu m 0 with
  | 0 => decide (lw_tbl[mm_nu m 9]? = some (.static m.1)) && decide ((parseMethodDescriptor m.1.desc).map (fun d => d.parameters.length) = some (mm_nu m 1))
  | 1 => decide (lw_tbl[mm_nu m 9]? = some (.instanceMethod m.1)) && decide (lw_tbl[mm_nu m 10]? = some (.selects m.1.cls m.1 m.1)) && decide ((mm_cls (mm_nu m 2)).1 = m.1.cls) && decide (mm_nu m 2 < 11) && decide ((parseMethodDescriptor m.1.desc).map (fun d => d.parameters.length + 1) = some (mm_nu m 1))
  | 2 => decide (lw_tbl[mm_nu m 9]? = some (.instanceMethod m.1)) && decide (m.1.name = "<init>") && decide (m.2.2.2.1 = none) && decide ((parseMethodDescriptor m.1.desc).map (fun d => d.parameters.length + 1) = some (mm_nu m 1))
  | _ => false)
def mm_ckm (j : Nat) : Bool := (List.range (mm_tb j).length).all (fun i => mm_ck j i)
