-- words of an instruction, and what is checked of each once and for all
def xword (k : Nat) (en : xE) : List Cond :=
  match en with
  | (_, ins, a, b, d, v) => match ins with
    | .ldc idx => [.constant (xy k).cls idx v]
    | .getfield idx => match xcl[a]? with
      | some r => [.fieldLink (xy k).cls idx (r.2.1 b).1 (r.2.1 b).2.1 (r.2.1 b).2.2.1]
      | none => []
    | .putfield idx => match xcl[a]? with
      | some r => [.fieldLink (xy k).cls idx (r.2.1 b).1 (r.2.1 b).2.1 (r.2.1 b).2.2.1]
      | none => []
    | .invokevirtual idx => [.methodLink (xy k).cls idx (xy a), .instanceMethod (xy a), .selects (xy a).cls (xy a) (xy a), .initialized (xy a).cls]
    | .invokestatic idx => match d with
      | 0 => [.methodLink (xy k).cls idx (xy a), .static (xy a), .initialized (xy a).cls]
      | 1 => []
      | 2 => [.methodLink (xy k).cls idx Lib.Math.max.name, .static Lib.Math.max.name, .initialized "java/lang/Math", .code Lib.Math.max.name Lib.Math.max.code 2 (some .int)]
      | _ => [.methodLink (xy k).cls idx arraycopyName, .native arraycopyName, .static arraycopyName, .initialized "java/lang/System"]
    | .invokespecial idx => match d with
      | 0 => [.methodLink (xy k).cls idx (xy a), .instanceMethod (xy a), .initialized (xy a).cls]
      | 1 => [.instanceMethod (xy a), .initialized (xy a).cls]
      | _ => [.methodLink (xy k).cls idx objectInit, .instanceMethod objectInit, .code objectInit ⟨#[0xb1]⟩ 1 none]
    | .new idx => match xcl[a]? with
      | some r => [.classLink (xy k).cls idx r.1, .instantiable r.1 r.2.2, .initialized r.1]
      | none => []
    | .newarray _ => [.arrayClass .int]
    | _ => []
def xlays : List Cond := xcl.flatMap (fun r => u_ws r.1 r.2.1 r.2.2)
def xcodes : List Cond := (List.range xM).map (fun k => Cond.code (xy k) (xby k) (xnl k) (xrt k))
def xinsw : List Cond := (List.range xN).flatMap (fun k => (xcd k).flatMap (xword k))
def xall : List Cond := xlays ++ (xcodes ++ xinsw)
def xws (k : Nat) : List Cond := Cond.code (xy k) (xby k) (xnl k) (xrt k) :: xall
def xilen : Instr → Nat → Nat
  | .bipush _, _ => 2
  | .sipush _, _ => 3
  | .ldc _, _ => 2
  | .iload _, _ => 2
  | .aload _, _ => 2
  | .istore _, _ => 2
  | .iinc _ _, _ => 3
  | .goto _, _ => 3
  | .ifCond _ _, _ => 3
  | .if_icmp _ _, _ => 3
  | .getfield _, _ => 3
  | .putfield _, _ => 3
  | .new _, _ => 3
  | .newarray _, _ => 2
  | .invokevirtual _, _ => 3
  | .invokestatic _, _ => 3
  | .invokespecial _, _ => 3
  | .tableswitch _ _ _ _, d => d
  | _, _ => 1
def xjmp : Instr → Bool
  | .goto _ => true
  | .return_ => true
  | .ireturn => true
  | .tableswitch _ _ _ _ => true
  | _ => false
def xfk : Nat → FieldType → Bool
  | 0, .int => true
  | 1, .boolean => true
  | 2, .array _ => true
  | 2, .object _ => true
  | _, _ => false
def xfits : Nat → Value → Bool
  | 0, .int _ => true
  | 1, .int x => xbl x
  | 2, .ref _ => true
  | _, _ => false
def xroomB (a k : Nat) : Bool := Nat.blt a xM && (Nat.ble ((xrm a).frames + 1) (xrm k).frames && Nat.ble (8 + (xnl a + 11) + (xrm a).locals) (xrm k).locals)
def xwf2 (k pc : Nat) (ins : Instr) (a b d : Nat) (v : Int32) : Bool := match ins with
  | .iconst n => decide (Int32.ofInt n = v)
  | .bipush n => decide ((Int8.ofInt n).toInt32 = v)
  | .sipush n => decide ((Int16.ofInt n).toInt32 = v)
  | .istore_n n => Nat.blt n.val (xnl k)
  | .istore n => Nat.blt n (xnl k)
  | .astore_n n => Nat.blt n.val (xnl k)
  | .iinc n z => Nat.blt n (xnl k) && decide (Int32.ofInt z = v)
  | .goto off => decide ((pc : Int) + off = (xpc (xcd k) a : Int))
  | .ifCond _ off => decide ((pc : Int) + off = (xpc (xcd k) a : Int))
  | .if_icmp _ off => decide ((pc : Int) + off = (xpc (xcd k) a : Int))
  | .getfield _ => match xcl[a]? with
    | some r => Nat.blt b r.2.2
    | none => false
  | .putfield _ => match xcl[a]? with
    | some r => Nat.blt b r.2.2 && (xfk d (xty a b) && (!(r.2.1 b).2.2.2 || (decide ((xy k).name = "<init>") && decide ((r.2.1 b).1 = (xy k).cls))))
    | none => false
  | .invokevirtual _ => xroomB a k && (match xcl[b]? with
    | some r => decide (r.1 = (xy a).cls)
    | none => false)
  | .invokestatic _ => match d with
    | 0 => xroomB a k
    | _ => Nat.ble 1 (xrm k).frames && Nat.ble 40 (xrm k).locals
  | .invokespecial idx => match d with
    | 0 => xroomB a k && (decide (xrt a = none) && decide ((xy a).name = "<init>"))
    | 1 => xroomB a k && (decide (xrt a = none) && (decide ((xy a).name = "<init>") && decide (((xy k).cls, idx, xy a, xhost) ∈ xnw)))
    | _ => Nat.ble 1 (xrm k).frames && Nat.ble 40 (xrm k).locals
  | .new _ => match xcl[a]? with
    | some r => Nat.beq r.2.2 b
    | none => false
  | .return_ => decide (xrt k = none)
  | .ireturn => match xrt k with
    | some .int => true
    | some .boolean => true
    | _ => false
  | _ => true
def xwf1 (k i : Nat) (en : xE) : Bool := match en with
  | (pc, ins, a, b, d, v) => decide (decode (xby k) pc = .ok (ins, xilen ins d)) && ((xjmp ins || decide (xpc (xcd k) (i + 1) = pc + xilen ins d)) && xwf2 k pc ins a b d v)
def xrb (k : Nat) (x : Int32) : Bool := match xrt k with
  | some .boolean => xbl x
  | _ => true
