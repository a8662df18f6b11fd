section
abbrev xE : Type := Nat × Instr × Nat × Nat × Nat × Int32
def xnth {α : Type} : List α → Nat → Option α
  | [], _ => none
  | a :: _, 0 => some a
  | _ :: l, n + 1 => xnth l n
def xF0 : u_T := fun k => match k with
  | 0 => ("BrownoutCore", "power", "LBrownoutCore$Power;", true)
  | 1 => ("BrownoutCore", "lasting", "LBrownoutCore$Lasting;", true)
  | 2 => ("BrownoutCore", "samples", "LBrownoutCore$Samples;", true)
  | 3 => ("BrownoutCore", "current", "LBrownoutCore$Section;", true)
  | 4 => ("BrownoutCore", "bus", "LBrownoutCore$Bus;", true)
  | 5 => ("BrownoutCore", "processor", "LBrownoutCore$Processor;", true)
  | 6 => ("BrownoutCore", "keeper", "LBrownoutCore$Keeper;", true)
  | _ => ("BrownoutCore", "phase", "I", false)
def xF1 : u_T := fun k => match k with
  | 0 => ("BrownoutCore$Power", "present", "Z", false)
  | 1 => ("BrownoutCore$Power", "writesDone", "I", false)
  | _ => ("BrownoutCore$Power", "told", "[I", true)
def xF2 : u_T := fun k => match k with
  | 0 => ("BrownoutCore$Lasting", "framWords", "[I", true)
  | 1 => ("BrownoutCore$Lasting", "log", "[I", true)
  | 2 => ("BrownoutCore$Lasting", "sent", "[I", true)
  | 3 => ("BrownoutCore$Lasting", "logLength", "I", false)
  | _ => ("BrownoutCore$Lasting", "sentCount", "I", false)
def xF3 : u_T := fun k => match k with
  | 0 => ("BrownoutCore$Samples", "ring", "[I", true)
  | 1 => ("BrownoutCore$Samples", "first", "I", false)
  | _ => ("BrownoutCore$Samples", "count", "I", false)
def xF4 : u_T := fun k => match k with
  | 0 => ("BrownoutCore$Held", "words", "[I", true)
  | 1 => ("BrownoutCore$Held", "values", "[I", true)
  | 2 => ("BrownoutCore$Held", "records", "[I", true)
  | 3 => ("BrownoutCore$Held", "wordCount", "I", false)
  | _ => ("BrownoutCore$Held", "recordCount", "I", false)
def xF5 : u_T := fun k => match k with
  | 0 => ("BrownoutCore$Section", "marks", "[I", true)
  | 1 => ("BrownoutCore$Section", "held", "LBrownoutCore$Held;", true)
  | 2 => ("BrownoutCore$Section", "tracked", "I", false)
  | 3 => ("BrownoutCore$Section", "sensorLoads", "I", false)
  | _ => ("BrownoutCore$Section", "instructions", "I", false)
def xF6 : u_T := fun k => match k with
  | 0 => ("BrownoutCore$Bus", "sram", "[I", true)
  | 1 => ("BrownoutCore$Bus", "power", "LBrownoutCore$Power;", true)
  | 2 => ("BrownoutCore$Bus", "lasting", "LBrownoutCore$Lasting;", true)
  | 3 => ("BrownoutCore$Bus", "samples", "LBrownoutCore$Samples;", true)
  | 4 => ("BrownoutCore$Bus", "section", "LBrownoutCore$Section;", true)
  | _ => ("BrownoutCore$Bus", "halting", "Z", false)
def xF7 : u_T := fun k => match k with
  | 0 => ("BrownoutCore$Processor", "registers", "[I", true)
  | 1 => ("BrownoutCore$Processor", "bus", "LBrownoutCore$Bus;", true)
  | 2 => ("BrownoutCore$Processor", "bytes", "Z", false)
  | 3 => ("BrownoutCore$Processor", "kind", "I", false)
  | 4 => ("BrownoutCore$Processor", "place", "I", false)
  | 5 => ("BrownoutCore$Processor", "flags", "I", false)
  | _ => ("BrownoutCore$Processor", "flagsAsked", "Z", false)
def xF8 : u_T := fun k => match k with
  | 0 => ("BrownoutCore$Kept", "registers", "[I", true)
  | 1 => ("BrownoutCore$Kept", "sram", "[I", true)
  | 2 => ("BrownoutCore$Kept", "held", "LBrownoutCore$Held;", true)
  | 3 => ("BrownoutCore$Kept", "instructions", "I", false)
  | 4 => ("BrownoutCore$Kept", "recordsSent", "I", false)
  | 5 => ("BrownoutCore$Kept", "halted", "Z", false)
  | _ => ("BrownoutCore$Kept", "finished", "Z", false)
def xF9 : u_T := fun k => match k with
  | 0 => ("BrownoutCore$Keeper", "kept", "LBrownoutCore$Kept;", true)
  | 1 => ("BrownoutCore$Keeper", "flipsDone", "I", false)
  | 2 => ("BrownoutCore$Keeper", "power", "LBrownoutCore$Power;", true)
  | 3 => ("BrownoutCore$Keeper", "lasting", "LBrownoutCore$Lasting;", true)
  | 4 => ("BrownoutCore$Keeper", "section", "LBrownoutCore$Section;", true)
  | 5 => ("BrownoutCore$Keeper", "registers", "[I", true)
  | _ => ("BrownoutCore$Keeper", "sram", "[I", true)
def xF10 : u_T := fun k => match k with
  | 0 => ("BrownoutCoreModel", "register", "[I", false)
  | 1 => ("BrownoutCoreModel", "sram", "[I", false)
  | 2 => ("BrownoutCoreModel", "fram", "[I", false)
  | 3 => ("BrownoutCoreModel", "track", "[I", false)
  | 4 => ("BrownoutCoreModel", "line", "[I", false)
  | 5 => ("BrownoutCoreModel", "held", "[I", false)
  | 6 => ("BrownoutCoreModel", "buffered", "I", false)
  | 7 => ("BrownoutCoreModel", "queue", "[I", false)
  | 8 => ("BrownoutCoreModel", "queued", "I", false)
  | 9 => ("BrownoutCoreModel", "loads", "I", false)
  | 10 => ("BrownoutCoreModel", "since", "I", false)
  | 11 => ("BrownoutCoreModel", "halts", "Z", false)
  | 12 => ("BrownoutCoreModel", "keptRegister", "[I", false)
  | 13 => ("BrownoutCoreModel", "keptSram", "[I", false)
  | 14 => ("BrownoutCoreModel", "keptWord", "[I", false)
  | 15 => ("BrownoutCoreModel", "keptValue", "[I", false)
  | 16 => ("BrownoutCoreModel", "keptWords", "I", false)
  | 17 => ("BrownoutCoreModel", "keptRecord", "[I", false)
  | 18 => ("BrownoutCoreModel", "keptRecords", "I", false)
  | 19 => ("BrownoutCoreModel", "keptSent", "I", false)
  | 20 => ("BrownoutCoreModel", "keptHalts", "Z", false)
  | 21 => ("BrownoutCoreModel", "unfinished", "Z", false)
  | 22 => ("BrownoutCoreModel", "base", "I", false)
  | 23 => ("BrownoutCoreModel", "log", "[I", false)
  | 24 => ("BrownoutCoreModel", "logged", "I", false)
  | 25 => ("BrownoutCoreModel", "waits", "[I", false)
  | 26 => ("BrownoutCoreModel", "waiting", "I", false)
  | 27 => ("BrownoutCoreModel", "sent", "[I", false)
  | 28 => ("BrownoutCoreModel", "sentCount", "I", false)
  | 29 => ("BrownoutCoreModel", "state", "I", false)
  | 30 => ("BrownoutCoreModel", "power", "Z", false)
  | 31 => ("BrownoutCoreModel", "writeIn", "I", false)
  | 32 => ("BrownoutCoreModel", "stepIn", "I", false)
  | 33 => ("BrownoutCoreModel", "writes", "I", false)
  | 34 => ("BrownoutCoreModel", "flips", "I", false)
  | 35 => ("BrownoutCoreModel", "kind", "I", false)
  | _ => ("BrownoutCoreModel", "place", "I", false)
def xcl : List vw_C := [("BrownoutCore", xF0, 8), ("BrownoutCore$Power", xF1, 3), ("BrownoutCore$Lasting", xF2, 5), ("BrownoutCore$Samples", xF3, 3), ("BrownoutCore$Held", xF4, 5), ("BrownoutCore$Section", xF5, 5), ("BrownoutCore$Bus", xF6, 6), ("BrownoutCore$Processor", xF7, 7), ("BrownoutCore$Kept", xF8, 7), ("BrownoutCore$Keeper", xF9, 7), ("BrownoutCoreModel", xF10, 37)]
def xtyL : List (List FieldType) := [[.object "BrownoutCore$Power", .object "BrownoutCore$Lasting", .object "BrownoutCore$Samples", .object "BrownoutCore$Section", .object "BrownoutCore$Bus", .object "BrownoutCore$Processor", .object "BrownoutCore$Keeper", .int], [.boolean, .int, .array .int], [.array .int, .array .int, .array .int, .int, .int], [.array .int, .int, .int], [.array .int, .array .int, .array .int, .int, .int], [.array .int, .object "BrownoutCore$Held", .int, .int, .int], [.array .int, .object "BrownoutCore$Power", .object "BrownoutCore$Lasting", .object "BrownoutCore$Samples", .object "BrownoutCore$Section", .boolean], [.array .int, .object "BrownoutCore$Bus", .boolean, .int, .int, .int, .boolean], [.array .int, .array .int, .object "BrownoutCore$Held", .int, .int, .boolean, .boolean], [.object "BrownoutCore$Kept", .int, .object "BrownoutCore$Power", .object "BrownoutCore$Lasting", .object "BrownoutCore$Section", .array .int, .array .int], [.array .int, .array .int, .array .int, .array .int, .array .int, .array .int, .int, .array .int, .int, .int, .int, .boolean, .array .int, .array .int, .array .int, .array .int, .int, .array .int, .int, .int, .boolean, .boolean, .int, .array .int, .int, .array .int, .int, .array .int, .int, .int, .boolean, .int, .int, .int, .int, .int, .int]]
def xty (ci k : Nat) : FieldType := ((xnth ((xnth xtyL ci).getD []) k).getD .int)
def xdfL : List (List Value) := [[.null, .null, .null, .null, .null, .null, .null, .int 0], [.int 0, .int 0, .null], [.null, .null, .null, .int 0, .int 0], [.null, .int 0, .int 0], [.null, .null, .null, .int 0, .int 0], [.null, .null, .int 0, .int 0, .int 0], [.null, .null, .null, .null, .null, .int 0], [.null, .null, .int 0, .int 0, .int 0, .int 0, .int 0], [.null, .null, .null, .int 0, .int 0, .int 0, .int 0], [.null, .int 0, .null, .null, .null, .null, .null], [.null, .null, .null, .null, .null, .null, .int 0, .null, .int 0, .int 0, .int 0, .int 0, .null, .null, .null, .null, .int 0, .null, .int 0, .int 0, .int 0, .int 0, .int 0, .null, .int 0, .null, .int 0, .null, .int 0, .int 0, .int 0, .int 0, .int 0, .int 0, .int 0, .int 0, .int 0]]
def xdf (ci : Nat) : List Value := (xnth xdfL ci).getD []
def xN : Nat := 149
def xM : Nat := 148
def xhost : String := "BrownoutCore"
def xyL : List MethodName := [⟨"BrownoutCore", "<init>", "()V"⟩,
  ⟨"BrownoutCore", "load", "(II)Z"⟩,
  ⟨"BrownoutCore", "start", "(I)Z"⟩,
  ⟨"BrownoutCore", "sample", "(I)Z"⟩,
  ⟨"BrownoutCore", "failWrite", "(I)Z"⟩,
  ⟨"BrownoutCore", "failStep", "(I)Z"⟩,
  ⟨"BrownoutCore", "run", "(I)I"⟩,
  ⟨"BrownoutCore", "boot", "()Z"⟩,
  ⟨"BrownoutCore", "state", "()I"⟩,
  ⟨"BrownoutCore", "register", "(I)I"⟩,
  ⟨"BrownoutCore", "memory", "(I)I"⟩,
  ⟨"BrownoutCore", "fram", "(I)I"⟩,
  ⟨"BrownoutCore", "radio", "(I)I"⟩,
  ⟨"BrownoutCore", "waiting", "()I"⟩,
  ⟨"BrownoutCore", "writes", "()I"⟩,
  ⟨"BrownoutCore", "flips", "()I"⟩,
  ⟨"BrownoutCore", "retired", "()I"⟩,
  ⟨"BrownoutCore", "section", "()I"⟩,
  ⟨"BrownoutCore", "isFramWord", "(I)Z"⟩,
  ⟨"BrownoutCore", "beginStep", "()Z"⟩,
  ⟨"BrownoutCore", "endStep", "()Z"⟩,
  ⟨"BrownoutCore", "forget", "()V"⟩,
  ⟨"BrownoutCore$Power", "<init>", "()V"⟩,
  ⟨"BrownoutCore$Power", "tell", "(II)Z"⟩,
  ⟨"BrownoutCore$Power", "allows", "(I)Z"⟩,
  ⟨"BrownoutCore$Lasting", "<init>", "()V"⟩,
  ⟨"BrownoutCore$Lasting", "hasRoomFor", "(I)Z"⟩,
  ⟨"BrownoutCore$Lasting", "placeLogged", "(I)V"⟩,
  ⟨"BrownoutCore$Lasting", "lengthenLog", "()V"⟩,
  ⟨"BrownoutCore$Lasting", "placeRecord", "(I)V"⟩,
  ⟨"BrownoutCore$Lasting", "countRecord", "()V"⟩,
  ⟨"BrownoutCore$Samples", "<init>", "()V"⟩,
  ⟨"BrownoutCore$Samples", "append", "(I)Z"⟩,
  ⟨"BrownoutCore$Samples", "take", "()I"⟩,
  ⟨"BrownoutCore$Held", "<init>", "()V"⟩,
  ⟨"BrownoutCore$Held", "clear", "()V"⟩,
  ⟨"BrownoutCore$Held", "copyFrom", "(LBrownoutCore$Held;)V"⟩,
  ⟨"BrownoutCore$Held", "valueOf", "(II)I"⟩,
  ⟨"BrownoutCore$Held", "holdWord", "(II)V"⟩,
  ⟨"BrownoutCore$Held", "holdRecord", "(I)V"⟩,
  ⟨"BrownoutCore$Section", "<init>", "()V"⟩,
  ⟨"BrownoutCore$Section", "begin", "()V"⟩,
  ⟨"BrownoutCore$Section", "isFull", "()Z"⟩,
  ⟨"BrownoutCore$Section", "noteLoad", "(I)V"⟩,
  ⟨"BrownoutCore$Section", "noteStore", "(I)Z"⟩,
  ⟨"BrownoutCore$Bus", "<init>", "(LBrownoutCore$Power;LBrownoutCore$Lasting;LBrownoutCore$Samples;LBrownoutCore$Section;)V"⟩,
  ⟨"BrownoutCore$Bus", "takeHalt", "()Z"⟩,
  ⟨"BrownoutCore$Bus", "fetchWord", "(I)I"⟩,
  ⟨"BrownoutCore$Bus", "read", "(IZ)I"⟩,
  ⟨"BrownoutCore$Bus", "write", "(IIZ)V"⟩,
  ⟨"BrownoutCore$Bus", "peek", "(I)I"⟩,
  ⟨"BrownoutCore$Bus", "loadSensor", "()I"⟩,
  ⟨"BrownoutCore$Bus", "storeFram", "(II)V"⟩,
  ⟨"BrownoutCore$Bus", "storeDevice", "(II)V"⟩,
  ⟨"BrownoutCore$Bus", "withByte", "(III)I"⟩,
  ⟨"BrownoutCore$Bus", "inSram", "(I)Z"⟩,
  ⟨"BrownoutCore$Bus", "inFram", "(I)Z"⟩,
  ⟨"BrownoutCore$Bus", "sramWord", "(I)I"⟩,
  ⟨"BrownoutCore$Bus", "framWord", "(I)I"⟩,
  ⟨"BrownoutCore$Processor", "<init>", "(LBrownoutCore$Bus;)V"⟩,
  ⟨"BrownoutCore$Processor", "execute", "()V"⟩,
  ⟨"BrownoutCore$Processor", "twoOperands", "(I)V"⟩,
  ⟨"BrownoutCore$Processor", "oneOperand", "(I)V"⟩,
  ⟨"BrownoutCore$Processor", "jump", "(I)V"⟩,
  ⟨"BrownoutCore$Processor", "holds", "(I)Z"⟩,
  ⟨"BrownoutCore$Processor", "combined", "(III)I"⟩,
  ⟨"BrownoutCore$Processor", "changed", "(II)I"⟩,
  ⟨"BrownoutCore$Processor", "sum", "(III)I"⟩,
  ⟨"BrownoutCore$Processor", "decimalSum", "(II)I"⟩,
  ⟨"BrownoutCore$Processor", "logical", "(IZ)I"⟩,
  ⟨"BrownoutCore$Processor", "askFlags", "(IZZ)I"⟩,
  ⟨"BrownoutCore$Processor", "setFlags", "()V"⟩,
  ⟨"BrownoutCore$Processor", "deliver", "(I)V"⟩,
  ⟨"BrownoutCore$Processor", "findSource", "(II)V"⟩,
  ⟨"BrownoutCore$Processor", "findDestination", "(II)V"⟩,
  ⟨"BrownoutCore$Processor", "find", "(II)V"⟩,
  ⟨"BrownoutCore$Processor", "base", "(I)I"⟩,
  ⟨"BrownoutCore$Processor", "operand", "()I"⟩,
  ⟨"BrownoutCore$Processor", "nextWord", "()I"⟩,
  ⟨"BrownoutCore$Processor", "push", "(I)V"⟩,
  ⟨"BrownoutCore$Processor", "pop", "()I"⟩,
  ⟨"BrownoutCore$Processor", "setRegister", "(II)V"⟩,
  ⟨"BrownoutCore$Processor", "isSet", "(I)Z"⟩,
  ⟨"BrownoutCore$Processor", "carry", "()I"⟩,
  ⟨"BrownoutCore$Processor", "mask", "()I"⟩,
  ⟨"BrownoutCore$Processor", "highest", "()I"⟩,
  ⟨"BrownoutCore$Processor", "signed", "(I)I"⟩,
  ⟨"BrownoutCore$Kept", "<init>", "()V"⟩,
  ⟨"BrownoutCore$Keeper", "<init>", "(LBrownoutCore$Power;LBrownoutCore$Lasting;LBrownoutCore$Section;[I[I)V"⟩,
  ⟨"BrownoutCore$Keeper", "keepVolatile", "()V"⟩,
  ⟨"BrownoutCore$Keeper", "checkpoint", "(Z)Z"⟩,
  ⟨"BrownoutCore$Keeper", "recover", "()Z"⟩,
  ⟨"BrownoutCore$Keeper", "flip", "(Z)V"⟩,
  ⟨"BrownoutCore$Keeper", "finish", "()Z"⟩,
  ⟨"BrownoutCore$Keeper", "writeHeldWords", "()Z"⟩,
  ⟨"BrownoutCore$Keeper", "sendHeldRecords", "()Z"⟩,
  ⟨"BrownoutCore$Keeper", "close", "()Z"⟩,
  ⟨"BrownoutCoreModel", "<init>", "()V"⟩,
  ⟨"BrownoutCoreModel", "off", "()V"⟩,
  ⟨"BrownoutCoreModel", "fresh", "()V"⟩,
  ⟨"BrownoutCoreModel", "write", "()Z"⟩,
  ⟨"BrownoutCoreModel", "checkpoint", "()V"⟩,
  ⟨"BrownoutCoreModel", "finish", "()V"⟩,
  ⟨"BrownoutCoreModel", "inSram", "(I)Z"⟩,
  ⟨"BrownoutCoreModel", "inFram", "(I)Z"⟩,
  ⟨"BrownoutCoreModel", "framNow", "(I)I"⟩,
  ⟨"BrownoutCoreModel", "plain", "(I)I"⟩,
  ⟨"BrownoutCoreModel", "sense", "()I"⟩,
  ⟨"BrownoutCoreModel", "loaded", "(IZ)I"⟩,
  ⟨"BrownoutCoreModel", "merged", "(IIIZ)I"⟩,
  ⟨"BrownoutCoreModel", "store", "(IIZ)V"⟩,
  ⟨"BrownoutCoreModel", "keep", "(II)V"⟩,
  ⟨"BrownoutCoreModel", "fetch", "()I"⟩,
  ⟨"BrownoutCoreModel", "put", "(II)V"⟩,
  ⟨"BrownoutCoreModel", "flag", "(I)I"⟩,
  ⟨"BrownoutCoreModel", "indexed", "(I)I"⟩,
  ⟨"BrownoutCoreModel", "operand", "(IIZ)I"⟩,
  ⟨"BrownoutCoreModel", "back", "(IZ)V"⟩,
  ⟨"BrownoutCoreModel", "flags", "(IIIZ)V"⟩,
  ⟨"BrownoutCoreModel", "signed", "(II)I"⟩,
  ⟨"BrownoutCoreModel", "instruction", "()V"⟩,
  ⟨"BrownoutCoreModel", "jump", "(I)V"⟩,
  ⟨"BrownoutCoreModel", "two", "(II)V"⟩,
  ⟨"BrownoutCoreModel", "silent", "(Z)Z"⟩,
  ⟨"BrownoutCoreModel", "sum", "(IIIZ)I"⟩,
  ⟨"BrownoutCoreModel", "decimal", "(IIZ)I"⟩,
  ⟨"BrownoutCoreModel", "bits", "(IIIZ)I"⟩,
  ⟨"BrownoutCoreModel", "one", "(II)V"⟩,
  ⟨"BrownoutCoreModel", "tracked", "()I"⟩,
  ⟨"BrownoutCoreModel", "step", "()Z"⟩,
  ⟨"BrownoutCoreModel", "run", "(I)I"⟩,
  ⟨"BrownoutCoreModel", "boot", "()Z"⟩,
  ⟨"BrownoutCoreModel", "load", "(II)Z"⟩,
  ⟨"BrownoutCoreModel", "start", "(I)Z"⟩,
  ⟨"BrownoutCoreModel", "sample", "(I)Z"⟩,
  ⟨"BrownoutCoreModel", "failWrite", "(I)Z"⟩,
  ⟨"BrownoutCoreModel", "failStep", "(I)Z"⟩,
  ⟨"BrownoutCoreModel", "state", "()I"⟩,
  ⟨"BrownoutCoreModel", "register", "(I)I"⟩,
  ⟨"BrownoutCoreModel", "memory", "(I)I"⟩,
  ⟨"BrownoutCoreModel", "fram", "(I)I"⟩,
  ⟨"BrownoutCoreModel", "radio", "(I)I"⟩,
  ⟨"BrownoutCoreModel", "waiting", "()I"⟩,
  ⟨"BrownoutCoreModel", "writes", "()I"⟩,
  ⟨"BrownoutCoreModel", "flips", "()I"⟩,
  ⟨"BrownoutCoreModel", "retired", "()I"⟩,
  ⟨"BrownoutCoreModel", "section", "()I"⟩,
  ⟨"java/util/Arrays", "fill", "([II)V"⟩,
  ⟨"BrownoutCoreLaw", "law", "([I)Z"⟩]
def xy (k : Nat) : MethodName := (xnth xyL k).getD ⟨"", "", ""⟩
def xbyL : List ByteArray := [prog_1_method_1_code, prog_1_method_2_code, prog_1_method_3_code, prog_1_method_4_code, prog_1_method_5_code, prog_1_method_6_code, prog_1_method_7_code, prog_1_method_8_code, prog_1_method_9_code, prog_1_method_10_code, prog_1_method_11_code, prog_1_method_12_code, prog_1_method_13_code, prog_1_method_14_code, prog_1_method_15_code, prog_1_method_16_code, prog_1_method_17_code, prog_1_method_18_code, prog_1_method_19_code, prog_1_method_20_code, prog_1_method_21_code, prog_1_method_22_code, prog_7_method_1_code, prog_7_method_2_code, prog_7_method_3_code, prog_6_method_1_code, prog_6_method_2_code, prog_6_method_3_code, prog_6_method_4_code, prog_6_method_5_code, prog_6_method_6_code, prog_9_method_1_code, prog_9_method_2_code, prog_9_method_3_code, prog_3_method_1_code, prog_3_method_2_code, prog_3_method_3_code, prog_3_method_4_code, prog_3_method_5_code, prog_3_method_6_code, prog_10_method_1_code, prog_10_method_2_code, prog_10_method_3_code, prog_10_method_4_code, prog_10_method_5_code, prog_2_method_1_code, prog_2_method_2_code, prog_2_method_3_code, prog_2_method_4_code, prog_2_method_5_code, prog_2_method_6_code, prog_2_method_7_code, prog_2_method_8_code, prog_2_method_9_code, prog_2_method_10_code, prog_2_method_11_code, prog_2_method_12_code, prog_2_method_13_code, prog_2_method_14_code, prog_8_method_1_code, prog_8_method_2_code, prog_8_method_3_code, prog_8_method_4_code, prog_8_method_5_code, prog_8_method_6_code, prog_8_method_7_code, prog_8_method_8_code, prog_8_method_9_code, prog_8_method_10_code, prog_8_method_11_code, prog_8_method_12_code, prog_8_method_13_code, prog_8_method_14_code, prog_8_method_15_code, prog_8_method_16_code, prog_8_method_17_code, prog_8_method_18_code, prog_8_method_19_code, prog_8_method_20_code, prog_8_method_21_code, prog_8_method_22_code, prog_8_method_23_code, prog_8_method_24_code, prog_8_method_25_code, prog_8_method_26_code, prog_8_method_27_code, prog_8_method_28_code, prog_5_method_1_code, prog_4_method_1_code, prog_4_method_2_code, prog_4_method_3_code, prog_4_method_4_code, prog_4_method_5_code, prog_4_method_6_code, prog_4_method_7_code, prog_4_method_8_code, prog_4_method_9_code, prog_12_method_1_code, prog_12_method_2_code, prog_12_method_3_code, prog_12_method_4_code, prog_12_method_5_code, prog_12_method_6_code, prog_12_method_7_code, prog_12_method_8_code, prog_12_method_9_code, prog_12_method_10_code, prog_12_method_11_code, prog_12_method_12_code, prog_12_method_13_code, prog_12_method_14_code, prog_12_method_15_code, prog_12_method_16_code, prog_12_method_17_code, prog_12_method_18_code, prog_12_method_19_code, prog_12_method_20_code, prog_12_method_21_code, prog_12_method_22_code, prog_12_method_23_code, prog_12_method_24_code, prog_12_method_25_code, prog_12_method_26_code, prog_12_method_27_code, prog_12_method_28_code, prog_12_method_29_code, prog_12_method_30_code, prog_12_method_31_code, prog_12_method_32_code, prog_12_method_33_code, prog_12_method_34_code, prog_12_method_35_code, prog_12_method_36_code, prog_12_method_37_code, prog_12_method_38_code, prog_12_method_39_code, prog_12_method_40_code, prog_12_method_41_code, prog_12_method_42_code, prog_12_method_43_code, prog_12_method_44_code, prog_12_method_45_code, prog_12_method_46_code, prog_12_method_47_code, prog_12_method_48_code, prog_12_method_49_code, prog_12_method_50_code, prog_15_method_103_code, code]
def xby (k : Nat) : ByteArray := (xnth xbyL k).getD ByteArray.empty
def xnlL : List Nat := [1, 3, 2, 2, 2, 2, 4, 1, 1, 2, 2, 2, 2, 1, 1, 1, 1, 1, 1, 1, 2, 1, 1, 3, 2, 1, 2, 2, 1, 2, 1, 1, 2, 2, 1, 1, 2, 4, 4, 2, 1, 1, 1, 2, 2, 5, 2, 3, 4, 5, 3, 3, 3, 3, 3, 1, 1, 1, 1, 2, 2, 6, 4, 3, 3, 5, 3, 7, 8, 3, 4, 1, 2, 3, 3, 3, 2, 1, 2, 2, 2, 3, 2, 1, 1, 1, 2, 1, 6, 1, 4, 1, 2, 1, 2, 2, 1, 1, 1, 2, 1, 3, 2, 1, 1, 2, 3, 3, 4, 4, 6, 3, 2, 3, 2, 4, 7, 3, 7, 2, 3, 7, 10, 2, 11, 9, 9, 7, 3, 1, 4, 2, 3, 2, 2, 2, 2, 1, 2, 2, 2, 2, 1, 1, 1, 1, 1, 4, 4]
def xnl (k : Nat) : Nat := (xnth xnlL k).getD 0
def xrtL : List (Option FieldType) := [none, some .boolean, some .boolean, some .boolean, some .boolean, some .boolean, some .int, some .boolean, some .int, some .int, some .int, some .int, some .int, some .int, some .int, some .int, some .int, some .int, some .boolean, some .boolean, some .boolean, none, none, some .boolean, some .boolean, none, some .boolean, none, none, none, none, none, some .boolean, some .int, none, none, none, some .int, none, none, none, none, some .boolean, none, some .boolean, none, some .boolean, some .int, some .int, none, some .int, some .int, none, none, some .int, some .boolean, some .boolean, some .int, some .int, none, none, none, none, none, some .boolean, some .int, some .int, some .int, some .int, some .int, some .int, none, none, none, none, none, some .int, some .int, some .int, none, some .int, none, some .boolean, some .int, some .int, some .int, some .int, none, none, none, some .boolean, some .boolean, none, some .boolean, some .boolean, some .boolean, some .boolean, none, none, none, some .boolean, none, none, some .boolean, some .boolean, some .int, some .int, some .int, some .int, some .int, none, none, some .int, none, some .int, some .int, some .int, none, none, some .int, none, none, none, some .boolean, some .int, some .int, some .int, none, some .int, some .boolean, some .int, some .boolean, some .boolean, some .boolean, some .boolean, some .boolean, some .boolean, some .int, some .int, some .int, some .int, some .int, some .int, some .int, some .int, some .int, some .int, none, some .boolean]
def xrt (k : Nat) : Option FieldType := (xnth xrtL k).getD none
def xnpL : List Nat := [0, 2, 1, 1, 1, 1, 1, 0, 0, 1, 1, 1, 1, 0, 0, 0, 0, 0, 1, 0, 0, 0, 0, 2, 1, 0, 1, 1, 0, 1, 0, 0, 1, 0, 0, 0, 1, 2, 2, 1, 0, 0, 0, 1, 1, 4, 0, 1, 2, 3, 1, 0, 2, 2, 3, 1, 1, 1, 1, 1, 0, 1, 1, 1, 1, 3, 2, 3, 2, 2, 3, 0, 1, 2, 2, 2, 1, 0, 0, 1, 0, 2, 1, 0, 0, 0, 1, 0, 5, 0, 1, 0, 1, 0, 0, 0, 0, 0, 0, 0, 0, 0, 0, 1, 1, 1, 1, 0, 2, 4, 3, 2, 0, 2, 1, 1, 3, 2, 4, 2, 0, 1, 2, 1, 4, 3, 4, 2, 0, 0, 1, 0, 2, 1, 1, 1, 1, 0, 1, 1, 1, 1, 0, 0, 0, 0, 0, 2, 1]
def xnp (k : Nat) : Nat := (xnth xnpL k).getD 0
def xmcL : List Nat := [26, 0, 0, 0, 0, 0, 0, 0, 0, 0, 0, 0, 0, 0, 0, 0, 0, 0, 0, 0, 0, 0, 1, 0, 0, 3, 0, 0, 0, 0, 0, 1, 0, 0, 3, 0, 0, 0, 0, 0, 5, 0, 0, 0, 0, 1, 0, 0, 0, 0, 0, 0, 0, 0, 0, 0, 0, 0, 0, 1, 0, 0, 0, 0, 0, 0, 0, 0, 0, 0, 0, 0, 0, 0, 0, 0, 0, 0, 0, 0, 0, 0, 0, 0, 0, 0, 0, 6, 7, 0, 0, 0, 0, 0, 0, 0, 0, 15, 0, 0, 0, 0, 0, 0, 0, 0, 0, 0, 0, 0, 0, 0, 0, 0, 0, 0, 0, 0, 0, 0, 0, 0, 0, 0, 0, 0, 0, 0, 0, 0, 0, 0, 0, 0, 0, 0, 0, 0, 0, 0, 0, 0, 0, 0, 0, 0, 0, 0, 43]
def xmc (k : Nat) : Nat := (xnth xmcL k).getD 0
def xmsL : List Nat := [619, 0, 0, 0, 0, 0, 0, 0, 0, 0, 0, 0, 0, 0, 0, 0, 0, 0, 0, 0, 0, 0, 2, 0, 0, 332, 0, 0, 0, 0, 0, 16, 0, 0, 12, 0, 0, 0, 0, 0, 145, 0, 0, 0, 0, 16, 0, 0, 0, 0, 0, 0, 0, 0, 0, 0, 0, 0, 0, 16, 0, 0, 0, 0, 0, 0, 0, 0, 0, 0, 0, 0, 0, 0, 0, 0, 0, 0, 0, 0, 0, 0, 0, 0, 0, 0, 0, 49, 56, 0, 0, 0, 0, 0, 0, 0, 0, 832, 0, 0, 0, 0, 0, 0, 0, 0, 0, 0, 0, 0, 0, 0, 0, 0, 0, 0, 0, 0, 0, 0, 0, 0, 0, 0, 0, 0, 0, 0, 0, 0, 0, 0, 0, 0, 0, 0, 0, 0, 0, 0, 0, 0, 0, 0, 0, 0, 0, 0, 1496]
def xms (k : Nat) : Nat := (xnth xmsL k).getD 0
def xfrL : List Nat := [4, 1, 2, 1, 1, 1, 7, 4, 0, 0, 2, 1, 0, 0, 0, 0, 0, 0, 0, 4, 4, 2, 1, 0, 0, 1, 0, 0, 0, 0, 0, 1, 0, 0, 1, 0, 1, 0, 1, 0, 2, 1, 0, 0, 0, 1, 0, 1, 2, 3, 1, 1, 2, 1, 0, 0, 0, 0, 0, 1, 6, 5, 5, 2, 1, 3, 3, 2, 2, 2, 1, 0, 4, 3, 3, 0, 0, 3, 2, 4, 3, 0, 0, 0, 0, 0, 1, 2, 3, 1, 3, 3, 2, 2, 1, 1, 1, 1, 1, 0, 2, 4, 3, 0, 0, 0, 1, 3, 4, 0, 4, 3, 2, 0, 0, 3, 5, 5, 0, 0, 7, 1, 6, 0, 1, 1, 1, 6, 0, 8, 9, 4, 0, 0, 0, 0, 0, 0, 0, 1, 0, 0, 0, 0, 0, 0, 1, 0, 12]
def xloL : List Nat := [105, 20, 60, 21, 22, 22, 176, 82, 0, 0, 45, 20, 0, 0, 0, 0, 0, 0, 0, 105, 105, 43, 40, 0, 0, 40, 0, 0, 0, 0, 0, 40, 0, 0, 40, 0, 40, 0, 40, 0, 60, 23, 0, 0, 0, 40, 0, 23, 45, 85, 23, 21, 63, 21, 0, 0, 0, 0, 0, 40, 155, 130, 130, 43, 21, 70, 65, 43, 43, 43, 20, 0, 109, 66, 66, 0, 0, 68, 45, 109, 68, 0, 0, 0, 0, 0, 20, 60, 80, 40, 82, 62, 61, 42, 21, 21, 21, 40, 21, 0, 41, 82, 61, 0, 0, 0, 21, 61, 83, 0, 83, 61, 43, 0, 0, 64, 106, 108, 0, 0, 161, 21, 132, 0, 26, 26, 26, 132, 0, 183, 203, 82, 0, 0, 0, 0, 0, 0, 0, 21, 0, 0, 0, 0, 0, 0, 22, 0, 452]
def xrm (k : Nat) : Room := { frames := (xnth xfrL k).getD 0, cells := xmc k, slots := xms k, locals := (xnth xloL k).getD 0 }
set_option maxRecDepth 100000 in
def cd_0 : List xE := [(0, .aload_n 0, 0, 0, 0, 0),
  (1, .invokespecial 1, 0, 0, 2, 0),
  (4, .aload_n 0, 0, 0, 0, 0),
  (5, .new 7, 1, 3, 0, 0),
  (8, .dup, 0, 0, 0, 0),
  (9, .invokespecial 9, 22, 0, 1, 0),
  (12, .putfield 10, 0, 0, 2, 0),
  (15, .aload_n 0, 0, 0, 0, 0),
  (16, .new 16, 2, 5, 0, 0),
  (19, .dup, 0, 0, 0, 0),
  (20, .invokespecial 18, 25, 0, 1, 0),
  (23, .putfield 19, 0, 1, 2, 0),
  (26, .aload_n 0, 0, 0, 0, 0),
  (27, .new 23, 3, 3, 0, 0),
  (30, .dup, 0, 0, 0, 0),
  (31, .invokespecial 25, 31, 0, 1, 0),
  (34, .putfield 26, 0, 2, 2, 0),
  (37, .aload_n 0, 0, 0, 0, 0),
  (38, .new 30, 5, 5, 0, 0),
  (41, .dup, 0, 0, 0, 0),
  (42, .invokespecial 32, 40, 0, 1, 0),
  (45, .putfield 33, 0, 3, 2, 0),
  (48, .aload_n 0, 0, 0, 0, 0),
  (49, .new 37, 6, 6, 0, 0),
  (52, .dup, 0, 0, 0, 0),
  (53, .aload_n 0, 0, 0, 0, 0),
  (54, .getfield 10, 0, 0, 0, 0),
  (57, .aload_n 0, 0, 0, 0, 0),
  (58, .getfield 19, 0, 1, 0, 0),
  (61, .aload_n 0, 0, 0, 0, 0),
  (62, .getfield 26, 0, 2, 0, 0),
  (65, .aload_n 0, 0, 0, 0, 0),
  (66, .getfield 33, 0, 3, 0, 0),
  (69, .invokespecial 39, 45, 0, 0, 0),
  (72, .putfield 42, 0, 4, 2, 0),
  (75, .aload_n 0, 0, 0, 0, 0),
  (76, .new 46, 7, 7, 0, 0),
  (79, .dup, 0, 0, 0, 0),
  (80, .aload_n 0, 0, 0, 0, 0),
  (81, .getfield 42, 0, 4, 0, 0),
  (84, .invokespecial 48, 59, 0, 0, 0),
  (87, .putfield 51, 0, 5, 2, 0),
  (90, .aload_n 0, 0, 0, 0, 0),
  (91, .new 55, 9, 7, 0, 0),
  (94, .dup, 0, 0, 0, 0),
  (95, .aload_n 0, 0, 0, 0, 0),
  (96, .getfield 10, 0, 0, 0, 0),
  (99, .aload_n 0, 0, 0, 0, 0),
  (100, .getfield 19, 0, 1, 0, 0),
  (103, .aload_n 0, 0, 0, 0, 0),
  (104, .getfield 33, 0, 3, 0, 0),
  (107, .aload_n 0, 0, 0, 0, 0),
  (108, .getfield 51, 0, 5, 0, 0),
  (111, .getfield 57, 7, 0, 0, 0),
  (114, .aload_n 0, 0, 0, 0, 0),
  (115, .getfield 42, 0, 4, 0, 0),
  (118, .getfield 61, 6, 0, 0, 0),
  (121, .invokespecial 64, 88, 0, 0, 0),
  (124, .putfield 67, 0, 6, 2, 0),
  (127, .aload_n 0, 0, 0, 0, 0),
  (128, .iconst 0, 0, 0, 0, 0),
  (129, .putfield 71, 0, 7, 0, 0),
  (132, .return_, 0, 0, 0, 0)]
set_option maxRecDepth 100000 in
def cd_1 : List xE := [(0, .aload_n 0, 0, 0, 0, 0),
  (1, .getfield 71, 0, 7, 0, 0),
  (4, .ifCond .ne 10, 6, 0, 0, 0),
  (7, .iload_n 1, 0, 0, 0, 0),
  (8, .invokestatic 75, 18, 0, 0, 0),
  (11, .ifCond .ne 5, 8, 0, 0, 0),
  (14, .iconst 0, 0, 0, 0, 0),
  (15, .ireturn, 0, 0, 0, 0),
  (16, .aload_n 0, 0, 0, 0, 0),
  (17, .getfield 19, 0, 1, 0, 0),
  (20, .getfield 79, 2, 0, 0, 0),
  (23, .iload_n 1, 0, 0, 0, 0),
  (24, .iload_n 2, 0, 0, 0, 0),
  (25, .ldc 82, 0, 0, 0, 65535),
  (27, .iand, 0, 0, 0, 0),
  (28, .iastore, 0, 0, 0, 0),
  (29, .iconst 1, 0, 0, 0, 1),
  (30, .ireturn, 0, 0, 0, 0)]
set_option maxRecDepth 100000 in
def cd_2 : List xE := [(0, .aload_n 0, 0, 0, 0, 0),
  (1, .getfield 71, 0, 7, 0, 0),
  (4, .ifCond .eq 5, 5, 0, 0, 0),
  (7, .iconst 0, 0, 0, 0, 0),
  (8, .ireturn, 0, 0, 0, 0),
  (9, .aload_n 0, 0, 0, 0, 0),
  (10, .getfield 51, 0, 5, 0, 0),
  (13, .getfield 57, 7, 0, 0, 0),
  (16, .iconst 0, 0, 0, 0, 0),
  (17, .iload_n 1, 0, 0, 0, 0),
  (18, .ldc 83, 0, 0, 0, 65534),
  (20, .iand, 0, 0, 0, 0),
  (21, .iastore, 0, 0, 0, 0),
  (22, .aload_n 0, 0, 0, 0, 0),
  (23, .getfield 67, 0, 6, 0, 0),
  (26, .invokevirtual 84, 89, 9, 0, 0),
  (29, .aload_n 0, 0, 0, 0, 0),
  (30, .getfield 10, 0, 0, 0, 0),
  (33, .iconst 1, 0, 0, 0, 1),
  (34, .putfield 87, 1, 0, 1, 0),
  (37, .aload_n 0, 0, 0, 0, 0),
  (38, .iconst 1, 0, 0, 0, 1),
  (39, .putfield 71, 0, 7, 0, 0),
  (42, .iconst 1, 0, 0, 0, 1),
  (43, .ireturn, 0, 0, 0, 0)]
set_option maxRecDepth 100000 in
def cd_3 : List xE := [(0, .aload_n 0, 0, 0, 0, 0),
  (1, .getfield 26, 0, 2, 0, 0),
  (4, .iload_n 1, 0, 0, 0, 0),
  (5, .ldc 82, 0, 0, 0, 65535),
  (7, .iand, 0, 0, 0, 0),
  (8, .invokevirtual 91, 32, 3, 0, 0),
  (11, .ireturn, 0, 0, 0, 0)]
set_option maxRecDepth 100000 in
def cd_4 : List xE := [(0, .aload_n 0, 0, 0, 0, 0),
  (1, .getfield 10, 0, 0, 0, 0),
  (4, .iconst 0, 0, 0, 0, 0),
  (5, .iload_n 1, 0, 0, 0, 0),
  (6, .invokevirtual 94, 23, 1, 0, 0),
  (9, .ireturn, 0, 0, 0, 0)]
set_option maxRecDepth 100000 in
def cd_5 : List xE := [(0, .aload_n 0, 0, 0, 0, 0),
  (1, .getfield 10, 0, 0, 0, 0),
  (4, .iconst 1, 0, 0, 0, 1),
  (5, .iload_n 1, 0, 0, 0, 0),
  (6, .invokevirtual 94, 23, 1, 0, 0),
  (9, .ireturn, 0, 0, 0, 0)]
set_option maxRecDepth 100000 in
def cd_6 : List xE := [(0, .aload_n 0, 0, 0, 0, 0),
  (1, .getfield 71, 0, 7, 0, 0),
  (4, .iconst 1, 0, 0, 0, 1),
  (5, .if_icmp .ne 14, 9, 0, 0, 0),
  (8, .iload_n 1, 0, 0, 0, 0),
  (9, .ifCond .lt 10, 9, 0, 0, 0),
  (12, .iload_n 1, 0, 0, 0, 0),
  (13, .sipush 200, 0, 0, 0, 200),
  (16, .if_icmp .le 5, 11, 0, 0, 0),
  (19, .iconst (-1), 0, 0, 0, (-1)),
  (20, .ireturn, 0, 0, 0, 0),
  (21, .iconst 0, 0, 0, 0, 0),
  (22, .istore_n 2, 0, 0, 0, 0),
  (23, .iconst 0, 0, 0, 0, 0),
  (24, .istore_n 3, 0, 0, 0, 0),
  (25, .iload_n 3, 0, 0, 0, 0),
  (26, .iload_n 1, 0, 0, 0, 0),
  (27, .if_icmp .ge 41, 34, 0, 0, 0),
  (30, .aload_n 0, 0, 0, 0, 0),
  (31, .getfield 71, 0, 7, 0, 0),
  (34, .iconst 1, 0, 0, 0, 1),
  (35, .if_icmp .ne 33, 34, 0, 0, 0),
  (38, .aload_n 0, 0, 0, 0, 0),
  (39, .invokevirtual 98, 19, 0, 0, 0),
  (42, .ifCond .eq 10, 28, 0, 0, 0),
  (45, .aload_n 0, 0, 0, 0, 0),
  (46, .getfield 51, 0, 5, 0, 0),
  (49, .invokevirtual 102, 60, 7, 0, 0),
  (52, .aload_n 0, 0, 0, 0, 0),
  (53, .invokevirtual 105, 20, 0, 0, 0),
  (56, .ifCond .eq 6, 32, 0, 0, 0),
  (59, .iinc 2 1, 0, 0, 0, 1),
  (62, .iinc 3 1, 0, 0, 0, 1),
  (65, .goto (-40), 15, 0, 0, 0),
  (68, .iload_n 2, 0, 0, 0, 0),
  (69, .ireturn, 0, 0, 0, 0)]
set_option maxRecDepth 100000 in
def cd_7 : List xE := [(0, .aload_n 0, 0, 0, 0, 0),
  (1, .getfield 71, 0, 7, 0, 0),
  (4, .iconst 2, 0, 0, 0, 2),
  (5, .if_icmp .eq 5, 6, 0, 0, 0),
  (8, .iconst 0, 0, 0, 0, 0),
  (9, .ireturn, 0, 0, 0, 0),
  (10, .aload_n 0, 0, 0, 0, 0),
  (11, .getfield 10, 0, 0, 0, 0),
  (14, .iconst 1, 0, 0, 0, 1),
  (15, .putfield 87, 1, 0, 1, 0),
  (18, .aload_n 0, 0, 0, 0, 0),
  (19, .getfield 67, 0, 6, 0, 0),
  (22, .invokevirtual 108, 91, 9, 0, 0),
  (25, .ifCond .ne 5, 16, 0, 0, 0),
  (28, .iconst 0, 0, 0, 0, 0),
  (29, .ireturn, 0, 0, 0, 0),
  (30, .aload_n 0, 0, 0, 0, 0),
  (31, .aload_n 0, 0, 0, 0, 0),
  (32, .getfield 67, 0, 6, 0, 0),
  (35, .getfield 111, 9, 0, 0, 0),
  (38, .getfield 115, 8, 5, 0, 0),
  (41, .ifCond .eq 7, 24, 0, 0, 0),
  (44, .iconst 3, 0, 0, 0, 3),
  (45, .goto 4, 25, 0, 0, 0),
  (48, .iconst 1, 0, 0, 0, 1),
  (49, .putfield 71, 0, 7, 0, 0),
  (52, .iconst 1, 0, 0, 0, 1),
  (53, .ireturn, 0, 0, 0, 0)]
set_option maxRecDepth 100000 in
def cd_8 : List xE := [(0, .aload_n 0, 0, 0, 0, 0),
  (1, .getfield 71, 0, 7, 0, 0),
  (4, .ireturn, 0, 0, 0, 0)]
set_option maxRecDepth 100000 in
def cd_9 : List xE := [(0, .iload_n 1, 0, 0, 0, 0),
  (1, .ifCond .lt 9, 5, 0, 0, 0),
  (4, .iload_n 1, 0, 0, 0, 0),
  (5, .bipush 16, 0, 0, 0, 16),
  (7, .if_icmp .lt 7, 7, 0, 0, 0),
  (10, .iconst 0, 0, 0, 0, 0),
  (11, .goto 12, 12, 0, 0, 0),
  (14, .aload_n 0, 0, 0, 0, 0),
  (15, .getfield 51, 0, 5, 0, 0),
  (18, .getfield 57, 7, 0, 0, 0),
  (21, .iload_n 1, 0, 0, 0, 0),
  (22, .iaload, 0, 0, 0, 0),
  (23, .ireturn, 0, 0, 0, 0)]
set_option maxRecDepth 100000 in
def cd_10 : List xE := [(0, .aload_n 0, 0, 0, 0, 0),
  (1, .getfield 42, 0, 4, 0, 0),
  (4, .iload_n 1, 0, 0, 0, 0),
  (5, .invokevirtual 120, 50, 6, 0, 0),
  (8, .ireturn, 0, 0, 0, 0)]
set_option maxRecDepth 100000 in
def cd_11 : List xE := [(0, .iload_n 1, 0, 0, 0, 0),
  (1, .invokestatic 75, 18, 0, 0, 0),
  (4, .ifCond .eq 15, 9, 0, 0, 0),
  (7, .aload_n 0, 0, 0, 0, 0),
  (8, .getfield 19, 0, 1, 0, 0),
  (11, .getfield 79, 2, 0, 0, 0),
  (14, .iload_n 1, 0, 0, 0, 0),
  (15, .iaload, 0, 0, 0, 0),
  (16, .goto 4, 10, 0, 0, 0),
  (19, .iconst 0, 0, 0, 0, 0),
  (20, .ireturn, 0, 0, 0, 0)]
set_option maxRecDepth 100000 in
def cd_12 : List xE := [(0, .iload_n 1, 0, 0, 0, 0),
  (1, .iconst (-1), 0, 0, 0, (-1)),
  (2, .if_icmp .ne 11, 7, 0, 0, 0),
  (5, .aload_n 0, 0, 0, 0, 0),
  (6, .getfield 19, 0, 1, 0, 0),
  (9, .getfield 124, 2, 4, 0, 0),
  (12, .ireturn, 0, 0, 0, 0),
  (13, .iload_n 1, 0, 0, 0, 0),
  (14, .ifCond .lt 14, 14, 0, 0, 0),
  (17, .iload_n 1, 0, 0, 0, 0),
  (18, .aload_n 0, 0, 0, 0, 0),
  (19, .getfield 19, 0, 1, 0, 0),
  (22, .getfield 124, 2, 4, 0, 0),
  (25, .if_icmp .lt 7, 16, 0, 0, 0),
  (28, .iconst 0, 0, 0, 0, 0),
  (29, .goto 12, 21, 0, 0, 0),
  (32, .aload_n 0, 0, 0, 0, 0),
  (33, .getfield 19, 0, 1, 0, 0),
  (36, .getfield 127, 2, 2, 0, 0),
  (39, .iload_n 1, 0, 0, 0, 0),
  (40, .iaload, 0, 0, 0, 0),
  (41, .ireturn, 0, 0, 0, 0)]
set_option maxRecDepth 100000 in
def cd_13 : List xE := [(0, .aload_n 0, 0, 0, 0, 0),
  (1, .getfield 26, 0, 2, 0, 0),
  (4, .getfield 130, 3, 2, 0, 0),
  (7, .ireturn, 0, 0, 0, 0)]
set_option maxRecDepth 100000 in
def cd_14 : List xE := [(0, .aload_n 0, 0, 0, 0, 0),
  (1, .getfield 10, 0, 0, 0, 0),
  (4, .getfield 133, 1, 1, 0, 0),
  (7, .ireturn, 0, 0, 0, 0)]
set_option maxRecDepth 100000 in
def cd_15 : List xE := [(0, .aload_n 0, 0, 0, 0, 0),
  (1, .getfield 67, 0, 6, 0, 0),
  (4, .getfield 136, 9, 1, 0, 0),
  (7, .ireturn, 0, 0, 0, 0)]
set_option maxRecDepth 100000 in
def cd_16 : List xE := [(0, .aload_n 0, 0, 0, 0, 0),
  (1, .getfield 67, 0, 6, 0, 0),
  (4, .getfield 111, 9, 0, 0, 0),
  (7, .getfield 139, 8, 3, 0, 0),
  (10, .aload_n 0, 0, 0, 0, 0),
  (11, .getfield 33, 0, 3, 0, 0),
  (14, .getfield 142, 5, 4, 0, 0),
  (17, .iadd, 0, 0, 0, 0),
  (18, .ireturn, 0, 0, 0, 0)]
set_option maxRecDepth 100000 in
def cd_17 : List xE := [(0, .aload_n 0, 0, 0, 0, 0),
  (1, .getfield 33, 0, 3, 0, 0),
  (4, .getfield 143, 5, 2, 0, 0),
  (7, .bipush 32, 0, 0, 0, 32),
  (9, .aload_n 0, 0, 0, 0, 0),
  (10, .getfield 33, 0, 3, 0, 0),
  (13, .getfield 146, 5, 1, 0, 0),
  (16, .getfield 150, 4, 3, 0, 0),
  (19, .imul, 0, 0, 0, 0),
  (20, .iadd, 0, 0, 0, 0),
  (21, .sipush 256, 0, 0, 0, 256),
  (24, .aload_n 0, 0, 0, 0, 0),
  (25, .getfield 33, 0, 3, 0, 0),
  (28, .getfield 146, 5, 1, 0, 0),
  (31, .getfield 155, 4, 4, 0, 0),
  (34, .imul, 0, 0, 0, 0),
  (35, .iadd, 0, 0, 0, 0),
  (36, .sipush 2048, 0, 0, 0, 2048),
  (39, .aload_n 0, 0, 0, 0, 0),
  (40, .getfield 19, 0, 1, 0, 0),
  (43, .getfield 158, 2, 3, 0, 0),
  (46, .imul, 0, 0, 0, 0),
  (47, .iadd, 0, 0, 0, 0),
  (48, .ireturn, 0, 0, 0, 0)]
set_option maxRecDepth 100000 in
def cd_18 : List xE := [(0, .iload_n 0, 0, 0, 0, 0),
  (1, .ifCond .lt 14, 7, 0, 0, 0),
  (4, .iload_n 0, 0, 0, 0, 0),
  (5, .sipush 128, 0, 0, 0, 128),
  (8, .if_icmp .ge 7, 7, 0, 0, 0),
  (11, .iconst 1, 0, 0, 0, 1),
  (12, .goto 4, 8, 0, 0, 0),
  (15, .iconst 0, 0, 0, 0, 0),
  (16, .ireturn, 0, 0, 0, 0)]
set_option maxRecDepth 100000 in
def cd_19 : List xE := [(0, .aload_n 0, 0, 0, 0, 0),
  (1, .getfield 10, 0, 0, 0, 0),
  (4, .iconst 1, 0, 0, 0, 1),
  (5, .invokevirtual 161, 24, 1, 0, 0),
  (8, .ifCond .ne 5, 7, 0, 0, 0),
  (11, .iconst 0, 0, 0, 0, 0),
  (12, .ireturn, 0, 0, 0, 0),
  (13, .aload_n 0, 0, 0, 0, 0),
  (14, .getfield 33, 0, 3, 0, 0),
  (17, .invokevirtual 164, 42, 5, 0, 0),
  (20, .ifCond .eq 14, 16, 0, 0, 0),
  (23, .aload_n 0, 0, 0, 0, 0),
  (24, .getfield 67, 0, 6, 0, 0),
  (27, .iconst 0, 0, 0, 0, 0),
  (28, .invokevirtual 167, 90, 9, 0, 0),
  (31, .ifCond .eq 7, 18, 0, 0, 0),
  (34, .iconst 1, 0, 0, 0, 1),
  (35, .goto 4, 19, 0, 0, 0),
  (38, .iconst 0, 0, 0, 0, 0),
  (39, .ireturn, 0, 0, 0, 0)]
set_option maxRecDepth 100000 in
def cd_20 : List xE := [(0, .aload_n 0, 0, 0, 0, 0),
  (1, .getfield 42, 0, 4, 0, 0),
  (4, .invokevirtual 171, 46, 6, 0, 0),
  (7, .istore_n 1, 0, 0, 0, 0),
  (8, .aload_n 0, 0, 0, 0, 0),
  (9, .getfield 10, 0, 0, 0, 0),
  (12, .getfield 87, 1, 0, 0, 0),
  (15, .ifCond .eq 36, 25, 0, 0, 0),
  (18, .aload_n 0, 0, 0, 0, 0),
  (19, .getfield 33, 0, 3, 0, 0),
  (22, .dup, 0, 0, 0, 0),
  (23, .getfield 142, 5, 4, 0, 0),
  (26, .iconst 1, 0, 0, 0, 1),
  (27, .iadd, 0, 0, 0, 0),
  (28, .putfield 142, 5, 4, 0, 0),
  (31, .iload_n 1, 0, 0, 0, 0),
  (32, .ifCond .eq 19, 25, 0, 0, 0),
  (35, .aload_n 0, 0, 0, 0, 0),
  (36, .getfield 67, 0, 6, 0, 0),
  (39, .iconst 1, 0, 0, 0, 1),
  (40, .invokevirtual 167, 90, 9, 0, 0),
  (43, .ifCond .eq 8, 25, 0, 0, 0),
  (46, .aload_n 0, 0, 0, 0, 0),
  (47, .iconst 3, 0, 0, 0, 3),
  (48, .putfield 71, 0, 7, 0, 0),
  (51, .aload_n 0, 0, 0, 0, 0),
  (52, .getfield 10, 0, 0, 0, 0),
  (55, .getfield 87, 1, 0, 0, 0),
  (58, .ifCond .ne 7, 31, 0, 0, 0),
  (61, .aload_n 0, 0, 0, 0, 0),
  (62, .invokevirtual 174, 21, 0, 0, 0),
  (65, .aload_n 0, 0, 0, 0, 0),
  (66, .getfield 10, 0, 0, 0, 0),
  (69, .getfield 87, 1, 0, 0, 0),
  (72, .ireturn, 0, 0, 0, 0)]
set_option maxRecDepth 100000 in
def cd_21 : List xE := [(0, .aload_n 0, 0, 0, 0, 0),
  (1, .getfield 51, 0, 5, 0, 0),
  (4, .getfield 57, 7, 0, 0, 0),
  (7, .iconst 0, 0, 0, 0, 0),
  (8, .invokestatic 177, 147, 0, 0, 0),
  (11, .aload_n 0, 0, 0, 0, 0),
  (12, .getfield 42, 0, 4, 0, 0),
  (15, .getfield 61, 6, 0, 0, 0),
  (18, .iconst 0, 0, 0, 0, 0),
  (19, .invokestatic 177, 147, 0, 0, 0),
  (22, .aload_n 0, 0, 0, 0, 0),
  (23, .getfield 33, 0, 3, 0, 0),
  (26, .invokevirtual 183, 41, 5, 0, 0),
  (29, .aload_n 0, 0, 0, 0, 0),
  (30, .iconst 2, 0, 0, 0, 2),
  (31, .putfield 71, 0, 7, 0, 0),
  (34, .return_, 0, 0, 0, 0)]
set_option maxRecDepth 100000 in
def cd_22 : List xE := [(0, .aload_n 0, 0, 0, 0, 0),
  (1, .invokespecial 1, 0, 0, 2, 0),
  (4, .aload_n 0, 0, 0, 0, 0),
  (5, .iconst 2, 0, 0, 0, 2),
  (6, .newarray .int, 0, 0, 0, 0),
  (8, .putfield 7, 1, 2, 2, 0),
  (11, .return_, 0, 0, 0, 0)]
set_option maxRecDepth 100000 in
def cd_23 : List xE := [(0, .iload_n 2, 0, 0, 0, 0),
  (1, .ifCond .lt 10, 5, 0, 0, 0),
  (4, .iload_n 2, 0, 0, 0, 0),
  (5, .sipush 1000, 0, 0, 0, 1000),
  (8, .if_icmp .le 5, 7, 0, 0, 0),
  (11, .iconst 0, 0, 0, 0, 0),
  (12, .ireturn, 0, 0, 0, 0),
  (13, .aload_n 0, 0, 0, 0, 0),
  (14, .getfield 7, 1, 2, 0, 0),
  (17, .iload_n 1, 0, 0, 0, 0),
  (18, .iload_n 2, 0, 0, 0, 0),
  (19, .iastore, 0, 0, 0, 0),
  (20, .iconst 1, 0, 0, 0, 1),
  (21, .ireturn, 0, 0, 0, 0)]
set_option maxRecDepth 100000 in
def cd_24 : List xE := [(0, .aload_n 0, 0, 0, 0, 0),
  (1, .getfield 13, 1, 0, 0, 0),
  (4, .ifCond .eq 32, 22, 0, 0, 0),
  (7, .aload_n 0, 0, 0, 0, 0),
  (8, .getfield 7, 1, 2, 0, 0),
  (11, .iload_n 1, 0, 0, 0, 0),
  (12, .iaload, 0, 0, 0, 0),
  (13, .iconst 1, 0, 0, 0, 1),
  (14, .if_icmp .ne 22, 22, 0, 0, 0),
  (17, .aload_n 0, 0, 0, 0, 0),
  (18, .iconst 0, 0, 0, 0, 0),
  (19, .putfield 13, 1, 0, 1, 0),
  (22, .aload_n 0, 0, 0, 0, 0),
  (23, .getfield 7, 1, 2, 0, 0),
  (26, .iconst 0, 0, 0, 0, 0),
  (27, .iconst 0, 0, 0, 0, 0),
  (28, .iastore, 0, 0, 0, 0),
  (29, .aload_n 0, 0, 0, 0, 0),
  (30, .getfield 7, 1, 2, 0, 0),
  (33, .iconst 1, 0, 0, 0, 1),
  (34, .iconst 0, 0, 0, 0, 0),
  (35, .iastore, 0, 0, 0, 0),
  (36, .aload_n 0, 0, 0, 0, 0),
  (37, .getfield 13, 1, 0, 0, 0),
  (40, .ifCond .ne 5, 27, 0, 0, 0),
  (43, .iconst 0, 0, 0, 0, 0),
  (44, .ireturn, 0, 0, 0, 0),
  (45, .aload_n 0, 0, 0, 0, 0),
  (46, .getfield 7, 1, 2, 0, 0),
  (49, .iload_n 1, 0, 0, 0, 0),
  (50, .iaload, 0, 0, 0, 0),
  (51, .ifCond .le 13, 40, 0, 0, 0),
  (54, .aload_n 0, 0, 0, 0, 0),
  (55, .getfield 7, 1, 2, 0, 0),
  (58, .iload_n 1, 0, 0, 0, 0),
  (59, .dup2, 0, 0, 0, 0),
  (60, .iaload, 0, 0, 0, 0),
  (61, .iconst 1, 0, 0, 0, 1),
  (62, .isub, 0, 0, 0, 0),
  (63, .iastore, 0, 0, 0, 0),
  (64, .iload_n 1, 0, 0, 0, 0),
  (65, .ifCond .ne 13, 48, 0, 0, 0),
  (68, .aload_n 0, 0, 0, 0, 0),
  (69, .dup, 0, 0, 0, 0),
  (70, .getfield 17, 1, 1, 0, 0),
  (73, .iconst 1, 0, 0, 0, 1),
  (74, .iadd, 0, 0, 0, 0),
  (75, .putfield 17, 1, 1, 0, 0),
  (78, .iconst 1, 0, 0, 0, 1),
  (79, .ireturn, 0, 0, 0, 0)]
set_option maxRecDepth 100000 in
def cd_25 : List xE := [(0, .aload_n 0, 0, 0, 0, 0),
  (1, .invokespecial 3, 0, 0, 2, 0),
  (4, .aload_n 0, 0, 0, 0, 0),
  (5, .sipush 128, 0, 0, 0, 128),
  (8, .newarray .int, 0, 0, 0, 0),
  (10, .putfield 9, 2, 0, 2, 0),
  (13, .aload_n 0, 0, 0, 0, 0),
  (14, .iconst 4, 0, 0, 0, 4),
  (15, .newarray .int, 0, 0, 0, 0),
  (17, .putfield 15, 2, 1, 2, 0),
  (20, .aload_n 0, 0, 0, 0, 0),
  (21, .sipush 200, 0, 0, 0, 200),
  (24, .newarray .int, 0, 0, 0, 0),
  (26, .putfield 18, 2, 2, 2, 0),
  (29, .return_, 0, 0, 0, 0)]
set_option maxRecDepth 100000 in
def cd_26 : List xE := [(0, .aload_n 0, 0, 0, 0, 0),
  (1, .getfield 21, 2, 4, 0, 0),
  (4, .iload_n 1, 0, 0, 0, 0),
  (5, .iadd, 0, 0, 0, 0),
  (6, .sipush 200, 0, 0, 0, 200),
  (9, .if_icmp .ge 7, 8, 0, 0, 0),
  (12, .iconst 1, 0, 0, 0, 1),
  (13, .goto 4, 9, 0, 0, 0),
  (16, .iconst 0, 0, 0, 0, 0),
  (17, .ireturn, 0, 0, 0, 0)]
set_option maxRecDepth 100000 in
def cd_27 : List xE := [(0, .aload_n 0, 0, 0, 0, 0),
  (1, .getfield 25, 2, 3, 0, 0),
  (4, .iconst 4, 0, 0, 0, 4),
  (5, .if_icmp .ge 13, 10, 0, 0, 0),
  (8, .aload_n 0, 0, 0, 0, 0),
  (9, .getfield 15, 2, 1, 0, 0),
  (12, .aload_n 0, 0, 0, 0, 0),
  (13, .getfield 25, 2, 3, 0, 0),
  (16, .iload_n 1, 0, 0, 0, 0),
  (17, .iastore, 0, 0, 0, 0),
  (18, .return_, 0, 0, 0, 0)]
set_option maxRecDepth 100000 in
def cd_28 : List xE := [(0, .aload_n 0, 0, 0, 0, 0),
  (1, .getfield 25, 2, 3, 0, 0),
  (4, .iconst 4, 0, 0, 0, 4),
  (5, .if_icmp .ge 13, 10, 0, 0, 0),
  (8, .aload_n 0, 0, 0, 0, 0),
  (9, .dup, 0, 0, 0, 0),
  (10, .getfield 25, 2, 3, 0, 0),
  (13, .iconst 1, 0, 0, 0, 1),
  (14, .iadd, 0, 0, 0, 0),
  (15, .putfield 25, 2, 3, 0, 0),
  (18, .return_, 0, 0, 0, 0)]
set_option maxRecDepth 100000 in
def cd_29 : List xE := [(0, .aload_n 0, 0, 0, 0, 0),
  (1, .getfield 21, 2, 4, 0, 0),
  (4, .sipush 200, 0, 0, 0, 200),
  (7, .if_icmp .ge 13, 10, 0, 0, 0),
  (10, .aload_n 0, 0, 0, 0, 0),
  (11, .getfield 18, 2, 2, 0, 0),
  (14, .aload_n 0, 0, 0, 0, 0),
  (15, .getfield 21, 2, 4, 0, 0),
  (18, .iload_n 1, 0, 0, 0, 0),
  (19, .iastore, 0, 0, 0, 0),
  (20, .return_, 0, 0, 0, 0)]
set_option maxRecDepth 100000 in
def cd_30 : List xE := [(0, .aload_n 0, 0, 0, 0, 0),
  (1, .getfield 21, 2, 4, 0, 0),
  (4, .sipush 200, 0, 0, 0, 200),
  (7, .if_icmp .ge 13, 10, 0, 0, 0),
  (10, .aload_n 0, 0, 0, 0, 0),
  (11, .dup, 0, 0, 0, 0),
  (12, .getfield 21, 2, 4, 0, 0),
  (15, .iconst 1, 0, 0, 0, 1),
  (16, .iadd, 0, 0, 0, 0),
  (17, .putfield 21, 2, 4, 0, 0),
  (20, .return_, 0, 0, 0, 0)]
set_option maxRecDepth 100000 in
def cd_31 : List xE := [(0, .aload_n 0, 0, 0, 0, 0),
  (1, .invokespecial 1, 0, 0, 2, 0),
  (4, .aload_n 0, 0, 0, 0, 0),
  (5, .bipush 16, 0, 0, 0, 16),
  (7, .newarray .int, 0, 0, 0, 0),
  (9, .putfield 9, 3, 0, 2, 0),
  (12, .return_, 0, 0, 0, 0)]
set_option maxRecDepth 100000 in
def cd_32 : List xE := [(0, .aload_n 0, 0, 0, 0, 0),
  (1, .getfield 13, 3, 2, 0, 0),
  (4, .bipush 16, 0, 0, 0, 16),
  (6, .if_icmp .lt 5, 6, 0, 0, 0),
  (9, .iconst 0, 0, 0, 0, 0),
  (10, .ireturn, 0, 0, 0, 0),
  (11, .aload_n 0, 0, 0, 0, 0),
  (12, .getfield 9, 3, 0, 0, 0),
  (15, .aload_n 0, 0, 0, 0, 0),
  (16, .getfield 17, 3, 1, 0, 0),
  (19, .aload_n 0, 0, 0, 0, 0),
  (20, .getfield 13, 3, 2, 0, 0),
  (23, .iadd, 0, 0, 0, 0),
  (24, .bipush 16, 0, 0, 0, 16),
  (26, .irem, 0, 0, 0, 0),
  (27, .iload_n 1, 0, 0, 0, 0),
  (28, .iastore, 0, 0, 0, 0),
  (29, .aload_n 0, 0, 0, 0, 0),
  (30, .dup, 0, 0, 0, 0),
  (31, .getfield 13, 3, 2, 0, 0),
  (34, .iconst 1, 0, 0, 0, 1),
  (35, .iadd, 0, 0, 0, 0),
  (36, .putfield 13, 3, 2, 0, 0),
  (39, .iconst 1, 0, 0, 0, 1),
  (40, .ireturn, 0, 0, 0, 0)]
set_option maxRecDepth 100000 in
def cd_33 : List xE := [(0, .aload_n 0, 0, 0, 0, 0),
  (1, .getfield 13, 3, 2, 0, 0),
  (4, .ifCond .ne 6, 5, 0, 0, 0),
  (7, .ldc 20, 0, 0, 0, 65535),
  (9, .ireturn, 0, 0, 0, 0),
  (10, .aload_n 0, 0, 0, 0, 0),
  (11, .getfield 9, 3, 0, 0, 0),
  (14, .aload_n 0, 0, 0, 0, 0),
  (15, .getfield 17, 3, 1, 0, 0),
  (18, .iaload, 0, 0, 0, 0),
  (19, .istore_n 1, 0, 0, 0, 0),
  (20, .aload_n 0, 0, 0, 0, 0),
  (21, .aload_n 0, 0, 0, 0, 0),
  (22, .getfield 17, 3, 1, 0, 0),
  (25, .iconst 1, 0, 0, 0, 1),
  (26, .iadd, 0, 0, 0, 0),
  (27, .bipush 16, 0, 0, 0, 16),
  (29, .irem, 0, 0, 0, 0),
  (30, .putfield 17, 3, 1, 0, 0),
  (33, .aload_n 0, 0, 0, 0, 0),
  (34, .dup, 0, 0, 0, 0),
  (35, .getfield 13, 3, 2, 0, 0),
  (38, .iconst 1, 0, 0, 0, 1),
  (39, .isub, 0, 0, 0, 0),
  (40, .putfield 13, 3, 2, 0, 0),
  (43, .iload_n 1, 0, 0, 0, 0),
  (44, .ireturn, 0, 0, 0, 0)]
set_option maxRecDepth 100000 in
def cd_34 : List xE := [(0, .aload_n 0, 0, 0, 0, 0),
  (1, .invokespecial 1, 0, 0, 2, 0),
  (4, .aload_n 0, 0, 0, 0, 0),
  (5, .iconst 4, 0, 0, 0, 4),
  (6, .newarray .int, 0, 0, 0, 0),
  (8, .putfield 9, 4, 0, 2, 0),
  (11, .aload_n 0, 0, 0, 0, 0),
  (12, .iconst 4, 0, 0, 0, 4),
  (13, .newarray .int, 0, 0, 0, 0),
  (15, .putfield 13, 4, 1, 2, 0),
  (18, .aload_n 0, 0, 0, 0, 0),
  (19, .iconst 4, 0, 0, 0, 4),
  (20, .newarray .int, 0, 0, 0, 0),
  (22, .putfield 16, 4, 2, 2, 0),
  (25, .return_, 0, 0, 0, 0)]
set_option maxRecDepth 100000 in
def cd_35 : List xE := [(0, .aload_n 0, 0, 0, 0, 0),
  (1, .iconst 0, 0, 0, 0, 0),
  (2, .putfield 19, 4, 3, 0, 0),
  (5, .aload_n 0, 0, 0, 0, 0),
  (6, .iconst 0, 0, 0, 0, 0),
  (7, .putfield 23, 4, 4, 0, 0),
  (10, .return_, 0, 0, 0, 0)]
set_option maxRecDepth 100000 in
def cd_36 : List xE := [(0, .aload_n 1, 0, 0, 0, 0),
  (1, .getfield 9, 4, 0, 0, 0),
  (4, .iconst 0, 0, 0, 0, 0),
  (5, .aload_n 0, 0, 0, 0, 0),
  (6, .getfield 9, 4, 0, 0, 0),
  (9, .iconst 0, 0, 0, 0, 0),
  (10, .iconst 4, 0, 0, 0, 4),
  (11, .invokestatic 26, 0, 0, 3, 0),
  (14, .aload_n 1, 0, 0, 0, 0),
  (15, .getfield 13, 4, 1, 0, 0),
  (18, .iconst 0, 0, 0, 0, 0),
  (19, .aload_n 0, 0, 0, 0, 0),
  (20, .getfield 13, 4, 1, 0, 0),
  (23, .iconst 0, 0, 0, 0, 0),
  (24, .iconst 4, 0, 0, 0, 4),
  (25, .invokestatic 26, 0, 0, 3, 0),
  (28, .aload_n 1, 0, 0, 0, 0),
  (29, .getfield 16, 4, 2, 0, 0),
  (32, .iconst 0, 0, 0, 0, 0),
  (33, .aload_n 0, 0, 0, 0, 0),
  (34, .getfield 16, 4, 2, 0, 0),
  (37, .iconst 0, 0, 0, 0, 0),
  (38, .iconst 4, 0, 0, 0, 4),
  (39, .invokestatic 26, 0, 0, 3, 0),
  (42, .aload_n 0, 0, 0, 0, 0),
  (43, .aload_n 1, 0, 0, 0, 0),
  (44, .getfield 19, 4, 3, 0, 0),
  (47, .putfield 19, 4, 3, 0, 0),
  (50, .aload_n 0, 0, 0, 0, 0),
  (51, .aload_n 1, 0, 0, 0, 0),
  (52, .getfield 23, 4, 4, 0, 0),
  (55, .putfield 23, 4, 4, 0, 0),
  (58, .return_, 0, 0, 0, 0)]
set_option maxRecDepth 100000 in
def cd_37 : List xE := [(0, .iconst 0, 0, 0, 0, 0),
  (1, .istore_n 3, 0, 0, 0, 0),
  (2, .iload_n 3, 0, 0, 0, 0),
  (3, .aload_n 0, 0, 0, 0, 0),
  (4, .getfield 19, 4, 3, 0, 0),
  (7, .if_icmp .ge 26, 19, 0, 0, 0),
  (10, .aload_n 0, 0, 0, 0, 0),
  (11, .getfield 9, 4, 0, 0, 0),
  (14, .iload_n 3, 0, 0, 0, 0),
  (15, .iaload, 0, 0, 0, 0),
  (16, .iload_n 1, 0, 0, 0, 0),
  (17, .if_icmp .ne 10, 17, 0, 0, 0),
  (20, .aload_n 0, 0, 0, 0, 0),
  (21, .getfield 13, 4, 1, 0, 0),
  (24, .iload_n 3, 0, 0, 0, 0),
  (25, .iaload, 0, 0, 0, 0),
  (26, .ireturn, 0, 0, 0, 0),
  (27, .iinc 3 1, 0, 0, 0, 1),
  (30, .goto (-28), 2, 0, 0, 0),
  (33, .iload_n 2, 0, 0, 0, 0),
  (34, .ireturn, 0, 0, 0, 0)]
set_option maxRecDepth 100000 in
def cd_38 : List xE := [(0, .iconst 0, 0, 0, 0, 0),
  (1, .istore_n 3, 0, 0, 0, 0),
  (2, .iload_n 3, 0, 0, 0, 0),
  (3, .aload_n 0, 0, 0, 0, 0),
  (4, .getfield 19, 4, 3, 0, 0),
  (7, .if_icmp .ge 19, 14, 0, 0, 0),
  (10, .aload_n 0, 0, 0, 0, 0),
  (11, .getfield 9, 4, 0, 0, 0),
  (14, .iload_n 3, 0, 0, 0, 0),
  (15, .iaload, 0, 0, 0, 0),
  (16, .iload_n 1, 0, 0, 0, 0),
  (17, .if_icmp .eq 9, 14, 0, 0, 0),
  (20, .iinc 3 1, 0, 0, 0, 1),
  (23, .goto (-21), 2, 0, 0, 0),
  (26, .iload_n 3, 0, 0, 0, 0),
  (27, .iconst 4, 0, 0, 0, 4),
  (28, .if_icmp .ge 31, 35, 0, 0, 0),
  (31, .aload_n 0, 0, 0, 0, 0),
  (32, .getfield 9, 4, 0, 0, 0),
  (35, .iload_n 3, 0, 0, 0, 0),
  (36, .iload_n 1, 0, 0, 0, 0),
  (37, .iastore, 0, 0, 0, 0),
  (38, .aload_n 0, 0, 0, 0, 0),
  (39, .getfield 13, 4, 1, 0, 0),
  (42, .iload_n 3, 0, 0, 0, 0),
  (43, .iload_n 2, 0, 0, 0, 0),
  (44, .iastore, 0, 0, 0, 0),
  (45, .aload_n 0, 0, 0, 0, 0),
  (46, .aload_n 0, 0, 0, 0, 0),
  (47, .getfield 19, 4, 3, 0, 0),
  (50, .iload_n 3, 0, 0, 0, 0),
  (51, .iconst 1, 0, 0, 0, 1),
  (52, .iadd, 0, 0, 0, 0),
  (53, .invokestatic 32, 0, 0, 2, 0),
  (56, .putfield 19, 4, 3, 0, 0),
  (59, .return_, 0, 0, 0, 0)]
set_option maxRecDepth 100000 in
def cd_39 : List xE := [(0, .aload_n 0, 0, 0, 0, 0),
  (1, .getfield 23, 4, 4, 0, 0),
  (4, .iconst 4, 0, 0, 0, 4),
  (5, .if_icmp .ge 23, 16, 0, 0, 0),
  (8, .aload_n 0, 0, 0, 0, 0),
  (9, .getfield 16, 4, 2, 0, 0),
  (12, .aload_n 0, 0, 0, 0, 0),
  (13, .getfield 23, 4, 4, 0, 0),
  (16, .iload_n 1, 0, 0, 0, 0),
  (17, .iastore, 0, 0, 0, 0),
  (18, .aload_n 0, 0, 0, 0, 0),
  (19, .dup, 0, 0, 0, 0),
  (20, .getfield 23, 4, 4, 0, 0),
  (23, .iconst 1, 0, 0, 0, 1),
  (24, .iadd, 0, 0, 0, 0),
  (25, .putfield 23, 4, 4, 0, 0),
  (28, .return_, 0, 0, 0, 0)]
set_option maxRecDepth 100000 in
def cd_40 : List xE := [(0, .aload_n 0, 0, 0, 0, 0),
  (1, .invokespecial 3, 0, 0, 2, 0),
  (4, .aload_n 0, 0, 0, 0, 0),
  (5, .sipush 128, 0, 0, 0, 128),
  (8, .newarray .int, 0, 0, 0, 0),
  (10, .putfield 9, 5, 0, 2, 0),
  (13, .aload_n 0, 0, 0, 0, 0),
  (14, .new 15, 4, 5, 0, 0),
  (17, .dup, 0, 0, 0, 0),
  (18, .invokespecial 17, 34, 0, 1, 0),
  (21, .putfield 18, 5, 1, 2, 0),
  (24, .return_, 0, 0, 0, 0)]
set_option maxRecDepth 100000 in
def cd_41 : List xE := [(0, .aload_n 0, 0, 0, 0, 0),
  (1, .getfield 9, 5, 0, 0, 0),
  (4, .iconst 0, 0, 0, 0, 0),
  (5, .invokestatic 22, 147, 0, 0, 0),
  (8, .aload_n 0, 0, 0, 0, 0),
  (9, .getfield 18, 5, 1, 0, 0),
  (12, .invokevirtual 28, 35, 4, 0, 0),
  (15, .aload_n 0, 0, 0, 0, 0),
  (16, .iconst 0, 0, 0, 0, 0),
  (17, .putfield 31, 5, 2, 0, 0),
  (20, .aload_n 0, 0, 0, 0, 0),
  (21, .iconst 0, 0, 0, 0, 0),
  (22, .putfield 35, 5, 3, 0, 0),
  (25, .aload_n 0, 0, 0, 0, 0),
  (26, .iconst 0, 0, 0, 0, 0),
  (27, .putfield 38, 5, 4, 0, 0),
  (30, .return_, 0, 0, 0, 0)]
set_option maxRecDepth 100000 in
def cd_42 : List xE := [(0, .aload_n 0, 0, 0, 0, 0),
  (1, .getfield 31, 5, 2, 0, 0),
  (4, .bipush 11, 0, 0, 0, 11),
  (6, .if_icmp .gt 33, 18, 0, 0, 0),
  (9, .aload_n 0, 0, 0, 0, 0),
  (10, .getfield 18, 5, 1, 0, 0),
  (13, .getfield 41, 4, 3, 0, 0),
  (16, .iconst 4, 0, 0, 0, 4),
  (17, .if_icmp .ge 22, 18, 0, 0, 0),
  (20, .aload_n 0, 0, 0, 0, 0),
  (21, .getfield 18, 5, 1, 0, 0),
  (24, .getfield 44, 4, 4, 0, 0),
  (27, .iconst 4, 0, 0, 0, 4),
  (28, .if_icmp .ge 11, 18, 0, 0, 0),
  (31, .aload_n 0, 0, 0, 0, 0),
  (32, .getfield 35, 5, 3, 0, 0),
  (35, .iconst 3, 0, 0, 0, 3),
  (36, .if_icmp .lt 7, 20, 0, 0, 0),
  (39, .iconst 1, 0, 0, 0, 1),
  (40, .goto 4, 21, 0, 0, 0),
  (43, .iconst 0, 0, 0, 0, 0),
  (44, .ireturn, 0, 0, 0, 0)]
set_option maxRecDepth 100000 in
def cd_43 : List xE := [(0, .aload_n 0, 0, 0, 0, 0),
  (1, .getfield 9, 5, 0, 0, 0),
  (4, .iload_n 1, 0, 0, 0, 0),
  (5, .iaload, 0, 0, 0, 0),
  (6, .ifCond .ne 20, 16, 0, 0, 0),
  (9, .aload_n 0, 0, 0, 0, 0),
  (10, .getfield 9, 5, 0, 0, 0),
  (13, .iload_n 1, 0, 0, 0, 0),
  (14, .iconst 1, 0, 0, 0, 1),
  (15, .iastore, 0, 0, 0, 0),
  (16, .aload_n 0, 0, 0, 0, 0),
  (17, .dup, 0, 0, 0, 0),
  (18, .getfield 31, 5, 2, 0, 0),
  (21, .iconst 1, 0, 0, 0, 1),
  (22, .iadd, 0, 0, 0, 0),
  (23, .putfield 31, 5, 2, 0, 0),
  (26, .return_, 0, 0, 0, 0)]
set_option maxRecDepth 100000 in
def cd_44 : List xE := [(0, .aload_n 0, 0, 0, 0, 0),
  (1, .getfield 9, 5, 0, 0, 0),
  (4, .iload_n 1, 0, 0, 0, 0),
  (5, .iaload, 0, 0, 0, 0),
  (6, .ifCond .ne 20, 16, 0, 0, 0),
  (9, .aload_n 0, 0, 0, 0, 0),
  (10, .getfield 9, 5, 0, 0, 0),
  (13, .iload_n 1, 0, 0, 0, 0),
  (14, .iconst 2, 0, 0, 0, 2),
  (15, .iastore, 0, 0, 0, 0),
  (16, .aload_n 0, 0, 0, 0, 0),
  (17, .dup, 0, 0, 0, 0),
  (18, .getfield 31, 5, 2, 0, 0),
  (21, .iconst 1, 0, 0, 0, 1),
  (22, .iadd, 0, 0, 0, 0),
  (23, .putfield 31, 5, 2, 0, 0),
  (26, .aload_n 0, 0, 0, 0, 0),
  (27, .getfield 9, 5, 0, 0, 0),
  (30, .iload_n 1, 0, 0, 0, 0),
  (31, .iaload, 0, 0, 0, 0),
  (32, .iconst 1, 0, 0, 0, 1),
  (33, .if_icmp .ne 7, 24, 0, 0, 0),
  (36, .iconst 1, 0, 0, 0, 1),
  (37, .goto 4, 25, 0, 0, 0),
  (40, .iconst 0, 0, 0, 0, 0),
  (41, .ireturn, 0, 0, 0, 0)]
set_option maxRecDepth 100000 in
def cd_45 : List xE := [(0, .aload_n 0, 0, 0, 0, 0),
  (1, .invokespecial 3, 0, 0, 2, 0),
  (4, .aload_n 0, 0, 0, 0, 0),
  (5, .bipush 16, 0, 0, 0, 16),
  (7, .newarray .int, 0, 0, 0, 0),
  (9, .putfield 9, 6, 0, 2, 0),
  (12, .aload_n 0, 0, 0, 0, 0),
  (13, .aload_n 1, 0, 0, 0, 0),
  (14, .putfield 15, 6, 1, 2, 0),
  (17, .aload_n 0, 0, 0, 0, 0),
  (18, .aload_n 2, 0, 0, 0, 0),
  (19, .putfield 19, 6, 2, 2, 0),
  (22, .aload_n 0, 0, 0, 0, 0),
  (23, .aload_n 3, 0, 0, 0, 0),
  (24, .putfield 23, 6, 3, 2, 0),
  (27, .aload_n 0, 0, 0, 0, 0),
  (28, .aload 4, 0, 0, 0, 0),
  (30, .putfield 27, 6, 4, 2, 0),
  (33, .return_, 0, 0, 0, 0)]
set_option maxRecDepth 100000 in
def cd_46 : List xE := [(0, .aload_n 0, 0, 0, 0, 0),
  (1, .getfield 31, 6, 5, 0, 0),
  (4, .istore_n 1, 0, 0, 0, 0),
  (5, .aload_n 0, 0, 0, 0, 0),
  (6, .iconst 0, 0, 0, 0, 0),
  (7, .putfield 31, 6, 5, 1, 0),
  (10, .iload_n 1, 0, 0, 0, 0),
  (11, .ireturn, 0, 0, 0, 0)]
set_option maxRecDepth 100000 in
def cd_47 : List xE := [(0, .iload_n 1, 0, 0, 0, 0),
  (1, .invokestatic 35, 56, 0, 0, 0),
  (4, .ifCond .ne 24, 14, 0, 0, 0),
  (7, .iload_n 1, 0, 0, 0, 0),
  (8, .invokestatic 39, 55, 0, 0, 0),
  (11, .ifCond .eq 15, 12, 0, 0, 0),
  (14, .aload_n 0, 0, 0, 0, 0),
  (15, .getfield 9, 6, 0, 0, 0),
  (18, .iload_n 1, 0, 0, 0, 0),
  (19, .invokestatic 42, 57, 0, 0, 0),
  (22, .iaload, 0, 0, 0, 0),
  (23, .goto 4, 13, 0, 0, 0),
  (26, .iconst 0, 0, 0, 0, 0),
  (27, .ireturn, 0, 0, 0, 0),
  (28, .iload_n 1, 0, 0, 0, 0),
  (29, .invokestatic 46, 58, 0, 0, 0),
  (32, .istore_n 2, 0, 0, 0, 0),
  (33, .aload_n 0, 0, 0, 0, 0),
  (34, .getfield 27, 6, 4, 0, 0),
  (37, .iload_n 2, 0, 0, 0, 0),
  (38, .invokevirtual 49, 43, 5, 0, 0),
  (41, .aload_n 0, 0, 0, 0, 0),
  (42, .getfield 27, 6, 4, 0, 0),
  (45, .getfield 55, 5, 1, 0, 0),
  (48, .iload_n 2, 0, 0, 0, 0),
  (49, .aload_n 0, 0, 0, 0, 0),
  (50, .getfield 19, 6, 2, 0, 0),
  (53, .getfield 59, 2, 0, 0, 0),
  (56, .iload_n 2, 0, 0, 0, 0),
  (57, .iaload, 0, 0, 0, 0),
  (58, .invokevirtual 64, 37, 4, 0, 0),
  (61, .ireturn, 0, 0, 0, 0)]
set_option maxRecDepth 100000 in
def cd_48 : List xE := [(0, .iload_n 1, 0, 0, 0, 0),
  (1, .ldc 70, 0, 0, 0, 65534),
  (3, .iand, 0, 0, 0, 0),
  (4, .bipush 16, 0, 0, 0, 16),
  (6, .if_icmp .ne 10, 8, 0, 0, 0),
  (9, .aload_n 0, 0, 0, 0, 0),
  (10, .invokevirtual 71, 51, 6, 0, 0),
  (13, .goto 8, 11, 0, 0, 0),
  (16, .aload_n 0, 0, 0, 0, 0),
  (17, .iload_n 1, 0, 0, 0, 0),
  (18, .invokevirtual 75, 47, 6, 0, 0),
  (21, .istore_n 3, 0, 0, 0, 0),
  (22, .iload_n 2, 0, 0, 0, 0),
  (23, .ifCond .ne 5, 16, 0, 0, 0),
  (26, .iload_n 3, 0, 0, 0, 0),
  (27, .ireturn, 0, 0, 0, 0),
  (28, .iload_n 1, 0, 0, 0, 0),
  (29, .iconst 1, 0, 0, 0, 1),
  (30, .iand, 0, 0, 0, 0),
  (31, .iconst 1, 0, 0, 0, 1),
  (32, .if_icmp .ne 10, 25, 0, 0, 0),
  (35, .iload_n 3, 0, 0, 0, 0),
  (36, .bipush 8, 0, 0, 0, 8),
  (38, .ishr, 0, 0, 0, 0),
  (39, .goto 8, 28, 0, 0, 0),
  (42, .iload_n 3, 0, 0, 0, 0),
  (43, .sipush 255, 0, 0, 0, 255),
  (46, .iand, 0, 0, 0, 0),
  (47, .ireturn, 0, 0, 0, 0)]
set_option maxRecDepth 100000 in
def cd_49 : List xE := [(0, .iload_n 3, 0, 0, 0, 0),
  (1, .ifCond .eq 16, 9, 0, 0, 0),
  (4, .aload_n 0, 0, 0, 0, 0),
  (5, .iload_n 1, 0, 0, 0, 0),
  (6, .invokevirtual 78, 50, 6, 0, 0),
  (9, .iload_n 1, 0, 0, 0, 0),
  (10, .iload_n 2, 0, 0, 0, 0),
  (11, .invokestatic 81, 54, 0, 0, 0),
  (14, .goto 4, 10, 0, 0, 0),
  (17, .iload_n 2, 0, 0, 0, 0),
  (18, .istore 4, 0, 0, 0, 0),
  (20, .iload_n 1, 0, 0, 0, 0),
  (21, .invokestatic 39, 55, 0, 0, 0),
  (24, .ifCond .eq 17, 21, 0, 0, 0),
  (27, .aload_n 0, 0, 0, 0, 0),
  (28, .getfield 9, 6, 0, 0, 0),
  (31, .iload_n 1, 0, 0, 0, 0),
  (32, .invokestatic 42, 57, 0, 0, 0),
  (35, .iload 4, 0, 0, 0, 0),
  (37, .iastore, 0, 0, 0, 0),
  (38, .goto 47, 43, 0, 0, 0),
  (41, .iload_n 1, 0, 0, 0, 0),
  (42, .invokestatic 35, 56, 0, 0, 0),
  (45, .ifCond .eq 31, 37, 0, 0, 0),
  (48, .iload_n 3, 0, 0, 0, 0),
  (49, .ifCond .eq 14, 31, 0, 0, 0),
  (52, .aload_n 0, 0, 0, 0, 0),
  (53, .getfield 27, 6, 4, 0, 0),
  (56, .iload_n 1, 0, 0, 0, 0),
  (57, .invokestatic 46, 58, 0, 0, 0),
  (60, .invokevirtual 49, 43, 5, 0, 0),
  (63, .aload_n 0, 0, 0, 0, 0),
  (64, .iload_n 1, 0, 0, 0, 0),
  (65, .invokestatic 46, 58, 0, 0, 0),
  (68, .iload 4, 0, 0, 0, 0),
  (70, .invokevirtual 85, 52, 6, 0, 0),
  (73, .goto 12, 43, 0, 0, 0),
  (76, .aload_n 0, 0, 0, 0, 0),
  (77, .iload_n 1, 0, 0, 0, 0),
  (78, .ldc 70, 0, 0, 0, 65534),
  (80, .iand, 0, 0, 0, 0),
  (81, .iload_n 2, 0, 0, 0, 0),
  (82, .invokevirtual 89, 53, 6, 0, 0),
  (85, .return_, 0, 0, 0, 0)]
set_option maxRecDepth 100000 in
def cd_50 : List xE := [(0, .iload_n 1, 0, 0, 0, 0),
  (1, .invokestatic 35, 56, 0, 0, 0),
  (4, .ifCond .ne 24, 14, 0, 0, 0),
  (7, .iload_n 1, 0, 0, 0, 0),
  (8, .invokestatic 39, 55, 0, 0, 0),
  (11, .ifCond .eq 15, 12, 0, 0, 0),
  (14, .aload_n 0, 0, 0, 0, 0),
  (15, .getfield 9, 6, 0, 0, 0),
  (18, .iload_n 1, 0, 0, 0, 0),
  (19, .invokestatic 42, 57, 0, 0, 0),
  (22, .iaload, 0, 0, 0, 0),
  (23, .goto 4, 13, 0, 0, 0),
  (26, .iconst 0, 0, 0, 0, 0),
  (27, .ireturn, 0, 0, 0, 0),
  (28, .iload_n 1, 0, 0, 0, 0),
  (29, .invokestatic 46, 58, 0, 0, 0),
  (32, .istore_n 2, 0, 0, 0, 0),
  (33, .aload_n 0, 0, 0, 0, 0),
  (34, .getfield 27, 6, 4, 0, 0),
  (37, .getfield 55, 5, 1, 0, 0),
  (40, .iload_n 2, 0, 0, 0, 0),
  (41, .aload_n 0, 0, 0, 0, 0),
  (42, .getfield 19, 6, 2, 0, 0),
  (45, .getfield 59, 2, 0, 0, 0),
  (48, .iload_n 2, 0, 0, 0, 0),
  (49, .iaload, 0, 0, 0, 0),
  (50, .invokevirtual 64, 37, 4, 0, 0),
  (53, .ireturn, 0, 0, 0, 0)]
set_option maxRecDepth 100000 in
def cd_51 : List xE := [(0, .aload_n 0, 0, 0, 0, 0),
  (1, .getfield 27, 6, 4, 0, 0),
  (4, .getfield 92, 5, 3, 0, 0),
  (7, .istore_n 1, 0, 0, 0, 0),
  (8, .aload_n 0, 0, 0, 0, 0),
  (9, .getfield 27, 6, 4, 0, 0),
  (12, .dup, 0, 0, 0, 0),
  (13, .getfield 92, 5, 3, 0, 0),
  (16, .iconst 1, 0, 0, 0, 1),
  (17, .iadd, 0, 0, 0, 0),
  (18, .putfield 92, 5, 3, 0, 0),
  (21, .iload_n 1, 0, 0, 0, 0),
  (22, .aload_n 0, 0, 0, 0, 0),
  (23, .getfield 19, 6, 2, 0, 0),
  (26, .getfield 96, 2, 3, 0, 0),
  (29, .if_icmp .ge 25, 28, 0, 0, 0),
  (32, .iload_n 1, 0, 0, 0, 0),
  (33, .aload_n 0, 0, 0, 0, 0),
  (34, .getfield 19, 6, 2, 0, 0),
  (37, .getfield 99, 2, 1, 0, 0),
  (40, .arraylength, 0, 0, 0, 0),
  (41, .if_icmp .ge 13, 28, 0, 0, 0),
  (44, .aload_n 0, 0, 0, 0, 0),
  (45, .getfield 19, 6, 2, 0, 0),
  (48, .getfield 99, 2, 1, 0, 0),
  (51, .iload_n 1, 0, 0, 0, 0),
  (52, .iaload, 0, 0, 0, 0),
  (53, .ireturn, 0, 0, 0, 0),
  (54, .aload_n 0, 0, 0, 0, 0),
  (55, .getfield 15, 6, 1, 0, 0),
  (58, .getfield 102, 1, 0, 0, 0),
  (61, .ifCond .ne 5, 34, 0, 0, 0),
  (64, .iconst 0, 0, 0, 0, 0),
  (65, .ireturn, 0, 0, 0, 0),
  (66, .aload_n 0, 0, 0, 0, 0),
  (67, .getfield 23, 6, 3, 0, 0),
  (70, .invokevirtual 107, 33, 3, 0, 0),
  (73, .istore_n 2, 0, 0, 0, 0),
  (74, .aload_n 0, 0, 0, 0, 0),
  (75, .getfield 15, 6, 1, 0, 0),
  (78, .iconst 0, 0, 0, 0, 0),
  (79, .invokevirtual 112, 24, 1, 0, 0),
  (82, .ifCond .eq 11, 47, 0, 0, 0),
  (85, .aload_n 0, 0, 0, 0, 0),
  (86, .getfield 19, 6, 2, 0, 0),
  (89, .iload_n 2, 0, 0, 0, 0),
  (90, .invokevirtual 115, 27, 2, 0, 0),
  (93, .aload_n 0, 0, 0, 0, 0),
  (94, .getfield 15, 6, 1, 0, 0),
  (97, .iconst 0, 0, 0, 0, 0),
  (98, .invokevirtual 112, 24, 1, 0, 0),
  (101, .ifCond .eq 10, 55, 0, 0, 0),
  (104, .aload_n 0, 0, 0, 0, 0),
  (105, .getfield 19, 6, 2, 0, 0),
  (108, .invokevirtual 118, 28, 2, 0, 0),
  (111, .iload_n 2, 0, 0, 0, 0),
  (112, .ireturn, 0, 0, 0, 0)]
set_option maxRecDepth 100000 in
def cd_52 : List xE := [(0, .aload_n 0, 0, 0, 0, 0),
  (1, .getfield 27, 6, 4, 0, 0),
  (4, .iload_n 1, 0, 0, 0, 0),
  (5, .invokevirtual 121, 44, 5, 0, 0),
  (8, .ifCond .eq 18, 12, 0, 0, 0),
  (11, .aload_n 0, 0, 0, 0, 0),
  (12, .getfield 27, 6, 4, 0, 0),
  (15, .getfield 55, 5, 1, 0, 0),
  (18, .iload_n 1, 0, 0, 0, 0),
  (19, .iload_n 2, 0, 0, 0, 0),
  (20, .invokevirtual 124, 38, 4, 0, 0),
  (23, .goto 24, 23, 0, 0, 0),
  (26, .aload_n 0, 0, 0, 0, 0),
  (27, .getfield 15, 6, 1, 0, 0),
  (30, .iconst 0, 0, 0, 0, 0),
  (31, .invokevirtual 112, 24, 1, 0, 0),
  (34, .ifCond .eq 13, 23, 0, 0, 0),
  (37, .aload_n 0, 0, 0, 0, 0),
  (38, .getfield 19, 6, 2, 0, 0),
  (41, .getfield 59, 2, 0, 0, 0),
  (44, .iload_n 1, 0, 0, 0, 0),
  (45, .iload_n 2, 0, 0, 0, 0),
  (46, .iastore, 0, 0, 0, 0),
  (47, .return_, 0, 0, 0, 0)]
set_option maxRecDepth 100000 in
def cd_53 : List xE := [(0, .iload_n 1, 0, 0, 0, 0),
  (1, .bipush 18, 0, 0, 0, 18),
  (3, .if_icmp .ne 37, 17, 0, 0, 0),
  (6, .aload_n 0, 0, 0, 0, 0),
  (7, .getfield 19, 6, 2, 0, 0),
  (10, .aload_n 0, 0, 0, 0, 0),
  (11, .getfield 27, 6, 4, 0, 0),
  (14, .getfield 55, 5, 1, 0, 0),
  (17, .getfield 127, 4, 4, 0, 0),
  (20, .invokevirtual 130, 26, 2, 0, 0),
  (23, .ifCond .eq 17, 17, 0, 0, 0),
  (26, .aload_n 0, 0, 0, 0, 0),
  (27, .getfield 27, 6, 4, 0, 0),
  (30, .getfield 55, 5, 1, 0, 0),
  (33, .iload_n 2, 0, 0, 0, 0),
  (34, .invokevirtual 133, 39, 4, 0, 0),
  (37, .goto 14, 23, 0, 0, 0),
  (40, .iload_n 1, 0, 0, 0, 0),
  (41, .bipush 20, 0, 0, 0, 20),
  (43, .if_icmp .ne 8, 23, 0, 0, 0),
  (46, .aload_n 0, 0, 0, 0, 0),
  (47, .iconst 1, 0, 0, 0, 1),
  (48, .putfield 31, 6, 5, 1, 0),
  (51, .return_, 0, 0, 0, 0)]
set_option maxRecDepth 100000 in
def cd_54 : List xE := [(0, .iload_n 1, 0, 0, 0, 0),
  (1, .iconst 1, 0, 0, 0, 1),
  (2, .iand, 0, 0, 0, 0),
  (3, .iconst 1, 0, 0, 0, 1),
  (4, .if_icmp .ne 16, 13, 0, 0, 0),
  (7, .iload_n 0, 0, 0, 0, 0),
  (8, .sipush 255, 0, 0, 0, 255),
  (11, .iand, 0, 0, 0, 0),
  (12, .iload_n 2, 0, 0, 0, 0),
  (13, .bipush 8, 0, 0, 0, 8),
  (15, .ishl, 0, 0, 0, 0),
  (16, .ior, 0, 0, 0, 0),
  (17, .goto 9, 18, 0, 0, 0),
  (20, .iload_n 0, 0, 0, 0, 0),
  (21, .ldc 136, 0, 0, 0, 65280),
  (23, .iand, 0, 0, 0, 0),
  (24, .iload_n 2, 0, 0, 0, 0),
  (25, .ior, 0, 0, 0, 0),
  (26, .ireturn, 0, 0, 0, 0)]
set_option maxRecDepth 100000 in
def cd_55 : List xE := [(0, .iload_n 0, 0, 0, 0, 0),
  (1, .sipush 512, 0, 0, 0, 512),
  (4, .if_icmp .lt 14, 8, 0, 0, 0),
  (7, .iload_n 0, 0, 0, 0, 0),
  (8, .sipush 544, 0, 0, 0, 544),
  (11, .if_icmp .ge 7, 8, 0, 0, 0),
  (14, .iconst 1, 0, 0, 0, 1),
  (15, .goto 4, 9, 0, 0, 0),
  (18, .iconst 0, 0, 0, 0, 0),
  (19, .ireturn, 0, 0, 0, 0)]
set_option maxRecDepth 100000 in
def cd_56 : List xE := [(0, .iload_n 0, 0, 0, 0, 0),
  (1, .sipush 1024, 0, 0, 0, 1024),
  (4, .if_icmp .lt 14, 8, 0, 0, 0),
  (7, .iload_n 0, 0, 0, 0, 0),
  (8, .sipush 1280, 0, 0, 0, 1280),
  (11, .if_icmp .ge 7, 8, 0, 0, 0),
  (14, .iconst 1, 0, 0, 0, 1),
  (15, .goto 4, 9, 0, 0, 0),
  (18, .iconst 0, 0, 0, 0, 0),
  (19, .ireturn, 0, 0, 0, 0)]
set_option maxRecDepth 100000 in
def cd_57 : List xE := [(0, .iload_n 0, 0, 0, 0, 0),
  (1, .sipush 512, 0, 0, 0, 512),
  (4, .isub, 0, 0, 0, 0),
  (5, .iconst 1, 0, 0, 0, 1),
  (6, .ishr, 0, 0, 0, 0),
  (7, .ireturn, 0, 0, 0, 0)]
set_option maxRecDepth 100000 in
def cd_58 : List xE := [(0, .iload_n 0, 0, 0, 0, 0),
  (1, .sipush 1024, 0, 0, 0, 1024),
  (4, .isub, 0, 0, 0, 0),
  (5, .iconst 1, 0, 0, 0, 1),
  (6, .ishr, 0, 0, 0, 0),
  (7, .ireturn, 0, 0, 0, 0)]
set_option maxRecDepth 100000 in
def cd_59 : List xE := [(0, .aload_n 0, 0, 0, 0, 0),
  (1, .invokespecial 3, 0, 0, 2, 0),
  (4, .aload_n 0, 0, 0, 0, 0),
  (5, .bipush 16, 0, 0, 0, 16),
  (7, .newarray .int, 0, 0, 0, 0),
  (9, .putfield 9, 7, 0, 2, 0),
  (12, .aload_n 0, 0, 0, 0, 0),
  (13, .aload_n 1, 0, 0, 0, 0),
  (14, .putfield 15, 7, 1, 2, 0),
  (17, .return_, 0, 0, 0, 0)]
set_option maxRecDepth 100000 in
def cd_60 : List xE := [(0, .aload_n 0, 0, 0, 0, 0),
  (1, .invokevirtual 19, 78, 7, 0, 0),
  (4, .istore_n 1, 0, 0, 0, 0),
  (5, .aload_n 0, 0, 0, 0, 0),
  (6, .iconst 0, 0, 0, 0, 0),
  (7, .putfield 23, 7, 6, 1, 0),
  (10, .iload_n 1, 0, 0, 0, 0),
  (11, .bipush 12, 0, 0, 0, 12),
  (13, .ishr, 0, 0, 0, 0),
  (14, .iconst 4, 0, 0, 0, 4),
  (15, .if_icmp .lt 11, 15, 0, 0, 0),
  (18, .aload_n 0, 0, 0, 0, 0),
  (19, .iload_n 1, 0, 0, 0, 0),
  (20, .invokevirtual 27, 61, 7, 0, 0),
  (23, .goto 32, 32, 0, 0, 0),
  (26, .iload_n 1, 0, 0, 0, 0),
  (27, .bipush 12, 0, 0, 0, 12),
  (29, .ishr, 0, 0, 0, 0),
  (30, .iconst 2, 0, 0, 0, 2),
  (31, .if_icmp .lt 11, 24, 0, 0, 0),
  (34, .aload_n 0, 0, 0, 0, 0),
  (35, .iload_n 1, 0, 0, 0, 0),
  (36, .invokevirtual 31, 63, 7, 0, 0),
  (39, .goto 16, 32, 0, 0, 0),
  (42, .iload_n 1, 0, 0, 0, 0),
  (43, .bipush 10, 0, 0, 0, 10),
  (45, .ishr, 0, 0, 0, 0),
  (46, .iconst 4, 0, 0, 0, 4),
  (47, .if_icmp .ne 8, 32, 0, 0, 0),
  (50, .aload_n 0, 0, 0, 0, 0),
  (51, .iload_n 1, 0, 0, 0, 0),
  (52, .invokevirtual 34, 62, 7, 0, 0),
  (55, .return_, 0, 0, 0, 0)]
set_option maxRecDepth 100000 in
def cd_61 : List xE := [(0, .iload_n 1, 0, 0, 0, 0),
  (1, .bipush 12, 0, 0, 0, 12),
  (3, .ishr, 0, 0, 0, 0),
  (4, .istore_n 2, 0, 0, 0, 0),
  (5, .aload_n 0, 0, 0, 0, 0),
  (6, .iload_n 1, 0, 0, 0, 0),
  (7, .bipush 6, 0, 0, 0, 6),
  (9, .ishr, 0, 0, 0, 0),
  (10, .iconst 1, 0, 0, 0, 1),
  (11, .iand, 0, 0, 0, 0),
  (12, .iconst 1, 0, 0, 0, 1),
  (13, .if_icmp .ne 7, 14, 0, 0, 0),
  (16, .iconst 1, 0, 0, 0, 1),
  (17, .goto 4, 15, 0, 0, 0),
  (20, .iconst 0, 0, 0, 0, 0),
  (21, .putfield 37, 7, 2, 1, 0),
  (24, .aload_n 0, 0, 0, 0, 0),
  (25, .iload_n 1, 0, 0, 0, 0),
  (26, .bipush 8, 0, 0, 0, 8),
  (28, .ishr, 0, 0, 0, 0),
  (29, .bipush 15, 0, 0, 0, 15),
  (31, .iand, 0, 0, 0, 0),
  (32, .iload_n 1, 0, 0, 0, 0),
  (33, .iconst 4, 0, 0, 0, 4),
  (34, .ishr, 0, 0, 0, 0),
  (35, .iconst 3, 0, 0, 0, 3),
  (36, .iand, 0, 0, 0, 0),
  (37, .invokevirtual 40, 73, 7, 0, 0),
  (40, .aload_n 0, 0, 0, 0, 0),
  (41, .invokevirtual 44, 77, 7, 0, 0),
  (44, .istore_n 3, 0, 0, 0, 0),
  (45, .aload_n 0, 0, 0, 0, 0),
  (46, .iload_n 1, 0, 0, 0, 0),
  (47, .bipush 15, 0, 0, 0, 15),
  (49, .iand, 0, 0, 0, 0),
  (50, .iload_n 1, 0, 0, 0, 0),
  (51, .bipush 7, 0, 0, 0, 7),
  (53, .ishr, 0, 0, 0, 0),
  (54, .iconst 1, 0, 0, 0, 1),
  (55, .iand, 0, 0, 0, 0),
  (56, .invokevirtual 47, 74, 7, 0, 0),
  (59, .iload_n 2, 0, 0, 0, 0),
  (60, .iconst 4, 0, 0, 0, 4),
  (61, .if_icmp .ne 7, 46, 0, 0, 0),
  (64, .iconst 0, 0, 0, 0, 0),
  (65, .goto 7, 48, 0, 0, 0),
  (68, .aload_n 0, 0, 0, 0, 0),
  (69, .invokevirtual 44, 77, 7, 0, 0),
  (72, .istore 4, 0, 0, 0, 0),
  (74, .aload_n 0, 0, 0, 0, 0),
  (75, .iload_n 2, 0, 0, 0, 0),
  (76, .iload 4, 0, 0, 0, 0),
  (78, .iload_n 3, 0, 0, 0, 0),
  (79, .invokevirtual 50, 65, 7, 0, 0),
  (82, .istore 5, 0, 0, 0, 0),
  (84, .iload_n 2, 0, 0, 0, 0),
  (85, .bipush 9, 0, 0, 0, 9),
  (87, .if_icmp .eq 9, 61, 0, 0, 0),
  (90, .iload_n 2, 0, 0, 0, 0),
  (91, .bipush 11, 0, 0, 0, 11),
  (93, .if_icmp .ne 10, 64, 0, 0, 0),
  (96, .aload_n 0, 0, 0, 0, 0),
  (97, .invokevirtual 54, 71, 7, 0, 0),
  (100, .goto 9, 67, 0, 0, 0),
  (103, .aload_n 0, 0, 0, 0, 0),
  (104, .iload 5, 0, 0, 0, 0),
  (106, .invokevirtual 57, 72, 7, 0, 0),
  (109, .return_, 0, 0, 0, 0)]
set_option maxRecDepth 100000 in
def cd_62 : List xE := [(0, .iload_n 1, 0, 0, 0, 0),
  (1, .bipush 7, 0, 0, 0, 7),
  (3, .ishr, 0, 0, 0, 0),
  (4, .bipush 7, 0, 0, 0, 7),
  (6, .iand, 0, 0, 0, 0),
  (7, .istore_n 2, 0, 0, 0, 0),
  (8, .iload_n 2, 0, 0, 0, 0),
  (9, .bipush 6, 0, 0, 0, 6),
  (11, .if_icmp .ne 21, 19, 0, 0, 0),
  (14, .aload_n 0, 0, 0, 0, 0),
  (15, .iconst 2, 0, 0, 0, 2),
  (16, .aload_n 0, 0, 0, 0, 0),
  (17, .invokevirtual 60, 80, 7, 0, 0),
  (20, .invokevirtual 63, 81, 7, 0, 0),
  (23, .aload_n 0, 0, 0, 0, 0),
  (24, .iconst 0, 0, 0, 0, 0),
  (25, .aload_n 0, 0, 0, 0, 0),
  (26, .invokevirtual 60, 80, 7, 0, 0),
  (29, .invokevirtual 63, 81, 7, 0, 0),
  (32, .iload_n 2, 0, 0, 0, 0),
  (33, .bipush 6, 0, 0, 0, 6),
  (35, .if_icmp .lt 4, 23, 0, 0, 0),
  (38, .return_, 0, 0, 0, 0),
  (39, .aload_n 0, 0, 0, 0, 0),
  (40, .iload_n 1, 0, 0, 0, 0),
  (41, .bipush 6, 0, 0, 0, 6),
  (43, .ishr, 0, 0, 0, 0),
  (44, .iconst 1, 0, 0, 0, 1),
  (45, .iand, 0, 0, 0, 0),
  (46, .iconst 1, 0, 0, 0, 1),
  (47, .if_icmp .ne 21, 41, 0, 0, 0),
  (50, .iload_n 2, 0, 0, 0, 0),
  (51, .ifCond .eq 13, 39, 0, 0, 0),
  (54, .iload_n 2, 0, 0, 0, 0),
  (55, .iconst 2, 0, 0, 0, 2),
  (56, .if_icmp .eq 8, 39, 0, 0, 0),
  (59, .iload_n 2, 0, 0, 0, 0),
  (60, .iconst 4, 0, 0, 0, 4),
  (61, .if_icmp .ne 7, 41, 0, 0, 0),
  (64, .iconst 1, 0, 0, 0, 1),
  (65, .goto 4, 42, 0, 0, 0),
  (68, .iconst 0, 0, 0, 0, 0),
  (69, .putfield 37, 7, 2, 1, 0),
  (72, .aload_n 0, 0, 0, 0, 0),
  (73, .iload_n 1, 0, 0, 0, 0),
  (74, .bipush 15, 0, 0, 0, 15),
  (76, .iand, 0, 0, 0, 0),
  (77, .iload_n 1, 0, 0, 0, 0),
  (78, .iconst 4, 0, 0, 0, 4),
  (79, .ishr, 0, 0, 0, 0),
  (80, .iconst 3, 0, 0, 0, 3),
  (81, .iand, 0, 0, 0, 0),
  (82, .invokevirtual 40, 73, 7, 0, 0),
  (85, .aload_n 0, 0, 0, 0, 0),
  (86, .invokevirtual 44, 77, 7, 0, 0),
  (89, .istore_n 3, 0, 0, 0, 0),
  (90, .iload_n 2, 0, 0, 0, 0),
  (91, .iconst 4, 0, 0, 0, 4),
  (92, .if_icmp .ne 11, 63, 0, 0, 0),
  (95, .aload_n 0, 0, 0, 0, 0),
  (96, .iload_n 3, 0, 0, 0, 0),
  (97, .invokevirtual 66, 79, 7, 0, 0),
  (100, .goto 37, 83, 0, 0, 0),
  (103, .iload_n 2, 0, 0, 0, 0),
  (104, .iconst 5, 0, 0, 0, 5),
  (105, .if_icmp .ne 22, 77, 0, 0, 0),
  (108, .aload_n 0, 0, 0, 0, 0),
  (109, .aload_n 0, 0, 0, 0, 0),
  (110, .getfield 9, 7, 0, 0, 0),
  (113, .iconst 0, 0, 0, 0, 0),
  (114, .iaload, 0, 0, 0, 0),
  (115, .invokevirtual 66, 79, 7, 0, 0),
  (118, .aload_n 0, 0, 0, 0, 0),
  (119, .iconst 0, 0, 0, 0, 0),
  (120, .iload_n 3, 0, 0, 0, 0),
  (121, .invokevirtual 63, 81, 7, 0, 0),
  (124, .goto 13, 83, 0, 0, 0),
  (127, .aload_n 0, 0, 0, 0, 0),
  (128, .aload_n 0, 0, 0, 0, 0),
  (129, .iload_n 2, 0, 0, 0, 0),
  (130, .iload_n 3, 0, 0, 0, 0),
  (131, .invokevirtual 69, 66, 7, 0, 0),
  (134, .invokevirtual 57, 72, 7, 0, 0),
  (137, .return_, 0, 0, 0, 0)]
set_option maxRecDepth 100000 in
def cd_63 : List xE := [(0, .aload_n 0, 0, 0, 0, 0),
  (1, .iload_n 1, 0, 0, 0, 0),
  (2, .bipush 10, 0, 0, 0, 10),
  (4, .ishr, 0, 0, 0, 0),
  (5, .bipush 7, 0, 0, 0, 7),
  (7, .iand, 0, 0, 0, 0),
  (8, .invokevirtual 73, 64, 7, 0, 0),
  (11, .ifCond .eq 32, 29, 0, 0, 0),
  (14, .iload_n 1, 0, 0, 0, 0),
  (15, .sipush 1023, 0, 0, 0, 1023),
  (18, .iand, 0, 0, 0, 0),
  (19, .iload_n 1, 0, 0, 0, 0),
  (20, .sipush 512, 0, 0, 0, 512),
  (23, .iand, 0, 0, 0, 0),
  (24, .iconst 1, 0, 0, 0, 1),
  (25, .ishl, 0, 0, 0, 0),
  (26, .isub, 0, 0, 0, 0),
  (27, .istore_n 2, 0, 0, 0, 0),
  (28, .aload_n 0, 0, 0, 0, 0),
  (29, .iconst 0, 0, 0, 0, 0),
  (30, .aload_n 0, 0, 0, 0, 0),
  (31, .getfield 9, 7, 0, 0, 0),
  (34, .iconst 0, 0, 0, 0, 0),
  (35, .iaload, 0, 0, 0, 0),
  (36, .iconst 2, 0, 0, 0, 2),
  (37, .iload_n 2, 0, 0, 0, 0),
  (38, .imul, 0, 0, 0, 0),
  (39, .iadd, 0, 0, 0, 0),
  (40, .invokevirtual 63, 81, 7, 0, 0),
  (43, .return_, 0, 0, 0, 0)]
set_option maxRecDepth 100000 in
def cd_64 : List xE := [(0, .aload_n 0, 0, 0, 0, 0),
  (1, .iconst 4, 0, 0, 0, 4),
  (2, .invokevirtual 77, 82, 7, 0, 0),
  (5, .istore_n 2, 0, 0, 0, 0),
  (6, .iload_n 1, 0, 0, 0, 0),
  (7, .tableswitch 117 0 6 #[41, 55, 61, 75, 81, 83, 100], 50, 0, 41, 0),
  (48, .aload_n 0, 0, 0, 0, 0),
  (49, .iconst 2, 0, 0, 0, 2),
  (50, .invokevirtual 77, 82, 7, 0, 0),
  (53, .ifCond .ne 7, 12, 0, 0, 0),
  (56, .iconst 1, 0, 0, 0, 1),
  (57, .goto 4, 13, 0, 0, 0),
  (60, .iconst 0, 0, 0, 0, 0),
  (61, .ireturn, 0, 0, 0, 0),
  (62, .aload_n 0, 0, 0, 0, 0),
  (63, .iconst 2, 0, 0, 0, 2),
  (64, .invokevirtual 77, 82, 7, 0, 0),
  (67, .ireturn, 0, 0, 0, 0),
  (68, .aload_n 0, 0, 0, 0, 0),
  (69, .iconst 1, 0, 0, 0, 1),
  (70, .invokevirtual 77, 82, 7, 0, 0),
  (73, .ifCond .ne 7, 24, 0, 0, 0),
  (76, .iconst 1, 0, 0, 0, 1),
  (77, .goto 4, 25, 0, 0, 0),
  (80, .iconst 0, 0, 0, 0, 0),
  (81, .ireturn, 0, 0, 0, 0),
  (82, .aload_n 0, 0, 0, 0, 0),
  (83, .iconst 1, 0, 0, 0, 1),
  (84, .invokevirtual 77, 82, 7, 0, 0),
  (87, .ireturn, 0, 0, 0, 0),
  (88, .iload_n 2, 0, 0, 0, 0),
  (89, .ireturn, 0, 0, 0, 0),
  (90, .iload_n 2, 0, 0, 0, 0),
  (91, .aload_n 0, 0, 0, 0, 0),
  (92, .sipush 256, 0, 0, 0, 256),
  (95, .invokevirtual 77, 82, 7, 0, 0),
  (98, .if_icmp .ne 7, 39, 0, 0, 0),
  (101, .iconst 1, 0, 0, 0, 1),
  (102, .goto 4, 40, 0, 0, 0),
  (105, .iconst 0, 0, 0, 0, 0),
  (106, .ireturn, 0, 0, 0, 0),
  (107, .iload_n 2, 0, 0, 0, 0),
  (108, .aload_n 0, 0, 0, 0, 0),
  (109, .sipush 256, 0, 0, 0, 256),
  (112, .invokevirtual 77, 82, 7, 0, 0),
  (115, .if_icmp .eq 7, 48, 0, 0, 0),
  (118, .iconst 1, 0, 0, 0, 1),
  (119, .goto 4, 49, 0, 0, 0),
  (122, .iconst 0, 0, 0, 0, 0),
  (123, .ireturn, 0, 0, 0, 0),
  (124, .iconst 1, 0, 0, 0, 1),
  (125, .ireturn, 0, 0, 0, 0)]
set_option maxRecDepth 100000 in
def cd_65 : List xE := [(0, .iload_n 3, 0, 0, 0, 0),
  (1, .iconst (-1), 0, 0, 0, (-1)),
  (2, .ixor, 0, 0, 0, 0),
  (3, .aload_n 0, 0, 0, 0, 0),
  (4, .invokevirtual 80, 84, 7, 0, 0),
  (7, .iand, 0, 0, 0, 0),
  (8, .istore 4, 0, 0, 0, 0),
  (10, .iload_n 1, 0, 0, 0, 0),
  (11, .tableswitch 146 5 15 #[57, 65, 76, 88, 88, 97, 104, 113, 118, 122, 104], 71, 0, 57, 0),
  (68, .aload_n 0, 0, 0, 0, 0),
  (69, .iload_n 2, 0, 0, 0, 0),
  (70, .iload_n 3, 0, 0, 0, 0),
  (71, .iconst 0, 0, 0, 0, 0),
  (72, .invokevirtual 83, 67, 7, 0, 0),
  (75, .ireturn, 0, 0, 0, 0),
  (76, .aload_n 0, 0, 0, 0, 0),
  (77, .iload_n 2, 0, 0, 0, 0),
  (78, .iload_n 3, 0, 0, 0, 0),
  (79, .aload_n 0, 0, 0, 0, 0),
  (80, .invokevirtual 86, 83, 7, 0, 0),
  (83, .invokevirtual 83, 67, 7, 0, 0),
  (86, .ireturn, 0, 0, 0, 0),
  (87, .aload_n 0, 0, 0, 0, 0),
  (88, .iload_n 2, 0, 0, 0, 0),
  (89, .iload 4, 0, 0, 0, 0),
  (91, .aload_n 0, 0, 0, 0, 0),
  (92, .invokevirtual 86, 83, 7, 0, 0),
  (95, .invokevirtual 83, 67, 7, 0, 0),
  (98, .ireturn, 0, 0, 0, 0),
  (99, .aload_n 0, 0, 0, 0, 0),
  (100, .iload_n 2, 0, 0, 0, 0),
  (101, .iload 4, 0, 0, 0, 0),
  (103, .iconst 1, 0, 0, 0, 1),
  (104, .invokevirtual 83, 67, 7, 0, 0),
  (107, .ireturn, 0, 0, 0, 0),
  (108, .aload_n 0, 0, 0, 0, 0),
  (109, .iload_n 2, 0, 0, 0, 0),
  (110, .iload_n 3, 0, 0, 0, 0),
  (111, .invokevirtual 89, 68, 7, 0, 0),
  (114, .ireturn, 0, 0, 0, 0),
  (115, .aload_n 0, 0, 0, 0, 0),
  (116, .iload_n 2, 0, 0, 0, 0),
  (117, .iload_n 3, 0, 0, 0, 0),
  (118, .iand, 0, 0, 0, 0),
  (119, .iconst 0, 0, 0, 0, 0),
  (120, .invokevirtual 92, 69, 7, 0, 0),
  (123, .ireturn, 0, 0, 0, 0),
  (124, .iload_n 2, 0, 0, 0, 0),
  (125, .iload 4, 0, 0, 0, 0),
  (127, .iand, 0, 0, 0, 0),
  (128, .ireturn, 0, 0, 0, 0),
  (129, .iload_n 2, 0, 0, 0, 0),
  (130, .iload_n 3, 0, 0, 0, 0),
  (131, .ior, 0, 0, 0, 0),
  (132, .ireturn, 0, 0, 0, 0),
  (133, .aload_n 0, 0, 0, 0, 0),
  (134, .iload_n 2, 0, 0, 0, 0),
  (135, .iload_n 3, 0, 0, 0, 0),
  (136, .ixor, 0, 0, 0, 0),
  (137, .iload_n 2, 0, 0, 0, 0),
  (138, .iload_n 3, 0, 0, 0, 0),
  (139, .iand, 0, 0, 0, 0),
  (140, .aload_n 0, 0, 0, 0, 0),
  (141, .invokevirtual 96, 85, 7, 0, 0),
  (144, .iand, 0, 0, 0, 0),
  (145, .ifCond .eq 7, 68, 0, 0, 0),
  (148, .iconst 1, 0, 0, 0, 1),
  (149, .goto 4, 69, 0, 0, 0),
  (152, .iconst 0, 0, 0, 0, 0),
  (153, .invokevirtual 92, 69, 7, 0, 0),
  (156, .ireturn, 0, 0, 0, 0),
  (157, .iload_n 3, 0, 0, 0, 0),
  (158, .ireturn, 0, 0, 0, 0)]
set_option maxRecDepth 100000 in
def cd_66 : List xE := [(0, .iload_n 1, 0, 0, 0, 0),
  (1, .tableswitch 100 0 2 #[27, 58, 72], 53, 0, 27, 0),
  (28, .aload_n 0, 0, 0, 0, 0),
  (29, .iload_n 2, 0, 0, 0, 0),
  (30, .iconst 1, 0, 0, 0, 1),
  (31, .ishr, 0, 0, 0, 0),
  (32, .aload_n 0, 0, 0, 0, 0),
  (33, .invokevirtual 86, 83, 7, 0, 0),
  (36, .aload_n 0, 0, 0, 0, 0),
  (37, .invokevirtual 96, 85, 7, 0, 0),
  (40, .imul, 0, 0, 0, 0),
  (41, .ior, 0, 0, 0, 0),
  (42, .iload_n 2, 0, 0, 0, 0),
  (43, .iconst 1, 0, 0, 0, 1),
  (44, .iand, 0, 0, 0, 0),
  (45, .iconst 1, 0, 0, 0, 1),
  (46, .if_icmp .ne 7, 19, 0, 0, 0),
  (49, .iconst 1, 0, 0, 0, 1),
  (50, .goto 4, 20, 0, 0, 0),
  (53, .iconst 0, 0, 0, 0, 0),
  (54, .iconst 0, 0, 0, 0, 0),
  (55, .invokevirtual 99, 70, 7, 0, 0),
  (58, .ireturn, 0, 0, 0, 0),
  (59, .iload_n 2, 0, 0, 0, 0),
  (60, .bipush 8, 0, 0, 0, 8),
  (62, .ishr, 0, 0, 0, 0),
  (63, .iload_n 2, 0, 0, 0, 0),
  (64, .sipush 255, 0, 0, 0, 255),
  (67, .iand, 0, 0, 0, 0),
  (68, .bipush 8, 0, 0, 0, 8),
  (70, .ishl, 0, 0, 0, 0),
  (71, .ior, 0, 0, 0, 0),
  (72, .ireturn, 0, 0, 0, 0),
  (73, .aload_n 0, 0, 0, 0, 0),
  (74, .iload_n 2, 0, 0, 0, 0),
  (75, .iconst 1, 0, 0, 0, 1),
  (76, .ishr, 0, 0, 0, 0),
  (77, .iload_n 2, 0, 0, 0, 0),
  (78, .aload_n 0, 0, 0, 0, 0),
  (79, .invokevirtual 96, 85, 7, 0, 0),
  (82, .iand, 0, 0, 0, 0),
  (83, .ior, 0, 0, 0, 0),
  (84, .iload_n 2, 0, 0, 0, 0),
  (85, .iconst 1, 0, 0, 0, 1),
  (86, .iand, 0, 0, 0, 0),
  (87, .iconst 1, 0, 0, 0, 1),
  (88, .if_icmp .ne 7, 49, 0, 0, 0),
  (91, .iconst 1, 0, 0, 0, 1),
  (92, .goto 4, 50, 0, 0, 0),
  (95, .iconst 0, 0, 0, 0, 0),
  (96, .iconst 0, 0, 0, 0, 0),
  (97, .invokevirtual 99, 70, 7, 0, 0),
  (100, .ireturn, 0, 0, 0, 0),
  (101, .aload_n 0, 0, 0, 0, 0),
  (102, .iload_n 2, 0, 0, 0, 0),
  (103, .i2b, 0, 0, 0, 0),
  (104, .ldc 103, 0, 0, 0, 65535),
  (106, .iand, 0, 0, 0, 0),
  (107, .iconst 0, 0, 0, 0, 0),
  (108, .invokevirtual 92, 69, 7, 0, 0),
  (111, .ireturn, 0, 0, 0, 0)]
set_option maxRecDepth 100000 in
def cd_67 : List xE := [(0, .iload_n 1, 0, 0, 0, 0),
  (1, .iload_n 2, 0, 0, 0, 0),
  (2, .iadd, 0, 0, 0, 0),
  (3, .iload_n 3, 0, 0, 0, 0),
  (4, .iadd, 0, 0, 0, 0),
  (5, .istore 4, 0, 0, 0, 0),
  (7, .aload_n 0, 0, 0, 0, 0),
  (8, .iload_n 1, 0, 0, 0, 0),
  (9, .invokevirtual 104, 86, 7, 0, 0),
  (12, .aload_n 0, 0, 0, 0, 0),
  (13, .iload_n 2, 0, 0, 0, 0),
  (14, .invokevirtual 104, 86, 7, 0, 0),
  (17, .iadd, 0, 0, 0, 0),
  (18, .iload_n 3, 0, 0, 0, 0),
  (19, .iadd, 0, 0, 0, 0),
  (20, .istore 5, 0, 0, 0, 0),
  (22, .iload 5, 0, 0, 0, 0),
  (24, .aload_n 0, 0, 0, 0, 0),
  (25, .invokevirtual 96, 85, 7, 0, 0),
  (28, .ineg, 0, 0, 0, 0),
  (29, .if_icmp .lt 12, 25, 0, 0, 0),
  (32, .iload 5, 0, 0, 0, 0),
  (34, .aload_n 0, 0, 0, 0, 0),
  (35, .invokevirtual 96, 85, 7, 0, 0),
  (38, .if_icmp .lt 7, 27, 0, 0, 0),
  (41, .iconst 1, 0, 0, 0, 1),
  (42, .goto 4, 28, 0, 0, 0),
  (45, .iconst 0, 0, 0, 0, 0),
  (46, .istore 6, 0, 0, 0, 0),
  (48, .aload_n 0, 0, 0, 0, 0),
  (49, .iload 4, 0, 0, 0, 0),
  (51, .aload_n 0, 0, 0, 0, 0),
  (52, .invokevirtual 80, 84, 7, 0, 0),
  (55, .iand, 0, 0, 0, 0),
  (56, .iload 4, 0, 0, 0, 0),
  (58, .aload_n 0, 0, 0, 0, 0),
  (59, .invokevirtual 80, 84, 7, 0, 0),
  (62, .if_icmp .le 7, 40, 0, 0, 0),
  (65, .iconst 1, 0, 0, 0, 1),
  (66, .goto 4, 41, 0, 0, 0),
  (69, .iconst 0, 0, 0, 0, 0),
  (70, .iload 6, 0, 0, 0, 0),
  (72, .invokevirtual 99, 70, 7, 0, 0),
  (75, .ireturn, 0, 0, 0, 0)]
set_option maxRecDepth 100000 in
def cd_68 : List xE := [(0, .aload_n 0, 0, 0, 0, 0),
  (1, .getfield 37, 7, 2, 0, 0),
  (4, .ifCond .eq 7, 5, 0, 0, 0),
  (7, .iconst 2, 0, 0, 0, 2),
  (8, .goto 4, 6, 0, 0, 0),
  (11, .iconst 4, 0, 0, 0, 4),
  (12, .istore_n 3, 0, 0, 0, 0),
  (13, .aload_n 0, 0, 0, 0, 0),
  (14, .invokevirtual 86, 83, 7, 0, 0),
  (17, .istore 4, 0, 0, 0, 0),
  (19, .iconst 0, 0, 0, 0, 0),
  (20, .istore 5, 0, 0, 0, 0),
  (22, .iconst 0, 0, 0, 0, 0),
  (23, .istore 6, 0, 0, 0, 0),
  (25, .iload 6, 0, 0, 0, 0),
  (27, .iload_n 3, 0, 0, 0, 0),
  (28, .if_icmp .ge 68, 58, 0, 0, 0),
  (31, .iload_n 1, 0, 0, 0, 0),
  (32, .iconst 4, 0, 0, 0, 4),
  (33, .iload 6, 0, 0, 0, 0),
  (35, .imul, 0, 0, 0, 0),
  (36, .ishr, 0, 0, 0, 0),
  (37, .bipush 15, 0, 0, 0, 15),
  (39, .iand, 0, 0, 0, 0),
  (40, .iload_n 2, 0, 0, 0, 0),
  (41, .iconst 4, 0, 0, 0, 4),
  (42, .iload 6, 0, 0, 0, 0),
  (44, .imul, 0, 0, 0, 0),
  (45, .ishr, 0, 0, 0, 0),
  (46, .bipush 15, 0, 0, 0, 15),
  (48, .iand, 0, 0, 0, 0),
  (49, .iadd, 0, 0, 0, 0),
  (50, .iload 4, 0, 0, 0, 0),
  (52, .iadd, 0, 0, 0, 0),
  (53, .istore 7, 0, 0, 0, 0),
  (55, .iload 7, 0, 0, 0, 0),
  (57, .bipush 10, 0, 0, 0, 10),
  (59, .if_icmp .lt 7, 40, 0, 0, 0),
  (62, .iconst 1, 0, 0, 0, 1),
  (63, .goto 4, 41, 0, 0, 0),
  (66, .iconst 0, 0, 0, 0, 0),
  (67, .istore 4, 0, 0, 0, 0),
  (69, .iload 5, 0, 0, 0, 0),
  (71, .iload 7, 0, 0, 0, 0),
  (73, .bipush 6, 0, 0, 0, 6),
  (75, .iload 4, 0, 0, 0, 0),
  (77, .imul, 0, 0, 0, 0),
  (78, .iadd, 0, 0, 0, 0),
  (79, .bipush 15, 0, 0, 0, 15),
  (81, .iand, 0, 0, 0, 0),
  (82, .iconst 4, 0, 0, 0, 4),
  (83, .iload 6, 0, 0, 0, 0),
  (85, .imul, 0, 0, 0, 0),
  (86, .ishl, 0, 0, 0, 0),
  (87, .ior, 0, 0, 0, 0),
  (88, .istore 5, 0, 0, 0, 0),
  (90, .iinc 6 1, 0, 0, 0, 1),
  (93, .goto (-68), 14, 0, 0, 0),
  (96, .aload_n 0, 0, 0, 0, 0),
  (97, .iload 5, 0, 0, 0, 0),
  (99, .iload 4, 0, 0, 0, 0),
  (101, .iconst 1, 0, 0, 0, 1),
  (102, .if_icmp .ne 7, 65, 0, 0, 0),
  (105, .iconst 1, 0, 0, 0, 1),
  (106, .goto 4, 66, 0, 0, 0),
  (109, .iconst 0, 0, 0, 0, 0),
  (110, .iconst 0, 0, 0, 0, 0),
  (111, .invokevirtual 99, 70, 7, 0, 0),
  (114, .ireturn, 0, 0, 0, 0)]
set_option maxRecDepth 100000 in
def cd_69 : List xE := [(0, .aload_n 0, 0, 0, 0, 0),
  (1, .iload_n 1, 0, 0, 0, 0),
  (2, .iload_n 1, 0, 0, 0, 0),
  (3, .ifCond .eq 7, 6, 0, 0, 0),
  (6, .iconst 1, 0, 0, 0, 1),
  (7, .goto 4, 7, 0, 0, 0),
  (10, .iconst 0, 0, 0, 0, 0),
  (11, .iload_n 2, 0, 0, 0, 0),
  (12, .invokevirtual 99, 70, 7, 0, 0),
  (15, .ireturn, 0, 0, 0, 0)]
set_option maxRecDepth 100000 in
def cd_70 : List xE := [(0, .aload_n 0, 0, 0, 0, 0),
  (1, .iload_n 2, 0, 0, 0, 0),
  (2, .ifCond .eq 7, 5, 0, 0, 0),
  (5, .iconst 1, 0, 0, 0, 1),
  (6, .goto 4, 6, 0, 0, 0),
  (9, .iconst 0, 0, 0, 0, 0),
  (10, .iload_n 1, 0, 0, 0, 0),
  (11, .ifCond .ne 7, 10, 0, 0, 0),
  (14, .iconst 2, 0, 0, 0, 2),
  (15, .goto 4, 11, 0, 0, 0),
  (18, .iconst 0, 0, 0, 0, 0),
  (19, .ior, 0, 0, 0, 0),
  (20, .iload_n 1, 0, 0, 0, 0),
  (21, .aload_n 0, 0, 0, 0, 0),
  (22, .invokevirtual 96, 85, 7, 0, 0),
  (25, .iand, 0, 0, 0, 0),
  (26, .ifCond .eq 7, 19, 0, 0, 0),
  (29, .iconst 4, 0, 0, 0, 4),
  (30, .goto 4, 20, 0, 0, 0),
  (33, .iconst 0, 0, 0, 0, 0),
  (34, .ior, 0, 0, 0, 0),
  (35, .iload_n 3, 0, 0, 0, 0),
  (36, .ifCond .eq 9, 25, 0, 0, 0),
  (39, .sipush 256, 0, 0, 0, 256),
  (42, .goto 4, 26, 0, 0, 0),
  (45, .iconst 0, 0, 0, 0, 0),
  (46, .ior, 0, 0, 0, 0),
  (47, .putfield 108, 7, 5, 0, 0),
  (50, .aload_n 0, 0, 0, 0, 0),
  (51, .iconst 1, 0, 0, 0, 1),
  (52, .putfield 23, 7, 6, 1, 0),
  (55, .iload_n 1, 0, 0, 0, 0),
  (56, .ireturn, 0, 0, 0, 0)]
set_option maxRecDepth 100000 in
def cd_71 : List xE := [(0, .aload_n 0, 0, 0, 0, 0),
  (1, .getfield 23, 7, 6, 0, 0),
  (4, .ifCond .eq 13, 9, 0, 0, 0),
  (7, .aload_n 0, 0, 0, 0, 0),
  (8, .getfield 9, 7, 0, 0, 0),
  (11, .iconst 2, 0, 0, 0, 2),
  (12, .aload_n 0, 0, 0, 0, 0),
  (13, .getfield 108, 7, 5, 0, 0),
  (16, .iastore, 0, 0, 0, 0),
  (17, .return_, 0, 0, 0, 0)]
set_option maxRecDepth 100000 in
def cd_72 : List xE := [(0, .aload_n 0, 0, 0, 0, 0),
  (1, .getfield 112, 7, 3, 0, 0),
  (4, .iconst 2, 0, 0, 0, 2),
  (5, .if_icmp .ne 22, 13, 0, 0, 0),
  (8, .aload_n 0, 0, 0, 0, 0),
  (9, .getfield 15, 7, 1, 0, 0),
  (12, .aload_n 0, 0, 0, 0, 0),
  (13, .getfield 115, 7, 4, 0, 0),
  (16, .iload_n 1, 0, 0, 0, 0),
  (17, .aload_n 0, 0, 0, 0, 0),
  (18, .getfield 37, 7, 2, 0, 0),
  (21, .invokevirtual 118, 49, 6, 0, 0),
  (24, .goto 20, 22, 0, 0, 0),
  (27, .aload_n 0, 0, 0, 0, 0),
  (28, .getfield 112, 7, 3, 0, 0),
  (31, .iconst 1, 0, 0, 0, 1),
  (32, .if_icmp .ne 12, 22, 0, 0, 0),
  (35, .aload_n 0, 0, 0, 0, 0),
  (36, .aload_n 0, 0, 0, 0, 0),
  (37, .getfield 115, 7, 4, 0, 0),
  (40, .iload_n 1, 0, 0, 0, 0),
  (41, .invokevirtual 63, 81, 7, 0, 0),
  (44, .aload_n 0, 0, 0, 0, 0),
  (45, .getfield 112, 7, 3, 0, 0),
  (48, .iconst 1, 0, 0, 0, 1),
  (49, .if_icmp .ne 11, 30, 0, 0, 0),
  (52, .aload_n 0, 0, 0, 0, 0),
  (53, .getfield 115, 7, 4, 0, 0),
  (56, .iconst 2, 0, 0, 0, 2),
  (57, .if_icmp .eq 7, 32, 0, 0, 0),
  (60, .aload_n 0, 0, 0, 0, 0),
  (61, .invokevirtual 54, 71, 7, 0, 0),
  (64, .return_, 0, 0, 0, 0)]
set_option maxRecDepth 100000 in
def cd_73 : List xE := [(0, .iload_n 1, 0, 0, 0, 0),
  (1, .iconst 3, 0, 0, 0, 3),
  (2, .if_icmp .ne 22, 13, 0, 0, 0),
  (5, .aload_n 0, 0, 0, 0, 0),
  (6, .iconst 0, 0, 0, 0, 0),
  (7, .iload_n 2, 0, 0, 0, 0),
  (8, .iconst 3, 0, 0, 0, 3),
  (9, .if_icmp .ne 8, 10, 0, 0, 0),
  (12, .ldc 103, 0, 0, 0, 65535),
  (14, .goto 4, 11, 0, 0, 0),
  (17, .iload_n 2, 0, 0, 0, 0),
  (18, .invokevirtual 124, 75, 7, 0, 0),
  (21, .goto 137, 89, 0, 0, 0),
  (24, .iload_n 1, 0, 0, 0, 0),
  (25, .iconst 2, 0, 0, 0, 2),
  (26, .if_icmp .ne 27, 29, 0, 0, 0),
  (29, .iload_n 2, 0, 0, 0, 0),
  (30, .iconst 2, 0, 0, 0, 2),
  (31, .if_icmp .lt 22, 29, 0, 0, 0),
  (34, .aload_n 0, 0, 0, 0, 0),
  (35, .iconst 0, 0, 0, 0, 0),
  (36, .iload_n 2, 0, 0, 0, 0),
  (37, .iconst 2, 0, 0, 0, 2),
  (38, .if_icmp .ne 7, 26, 0, 0, 0),
  (41, .iconst 4, 0, 0, 0, 4),
  (42, .goto 5, 27, 0, 0, 0),
  (45, .bipush 8, 0, 0, 0, 8),
  (47, .invokevirtual 124, 75, 7, 0, 0),
  (50, .goto 108, 89, 0, 0, 0),
  (53, .iload_n 2, 0, 0, 0, 0),
  (54, .ifCond .ne 12, 36, 0, 0, 0),
  (57, .aload_n 0, 0, 0, 0, 0),
  (58, .iconst 1, 0, 0, 0, 1),
  (59, .iload_n 1, 0, 0, 0, 0),
  (60, .invokevirtual 124, 75, 7, 0, 0),
  (63, .goto 95, 89, 0, 0, 0),
  (66, .iload_n 2, 0, 0, 0, 0),
  (67, .iconst 1, 0, 0, 0, 1),
  (68, .if_icmp .ne 24, 51, 0, 0, 0),
  (71, .aload_n 0, 0, 0, 0, 0),
  (72, .iconst 2, 0, 0, 0, 2),
  (73, .aload_n 0, 0, 0, 0, 0),
  (74, .iload_n 1, 0, 0, 0, 0),
  (75, .invokevirtual 127, 76, 7, 0, 0),
  (78, .aload_n 0, 0, 0, 0, 0),
  (79, .invokevirtual 19, 78, 7, 0, 0),
  (82, .iadd, 0, 0, 0, 0),
  (83, .ldc 103, 0, 0, 0, 65535),
  (85, .iand, 0, 0, 0, 0),
  (86, .invokevirtual 124, 75, 7, 0, 0),
  (89, .goto 69, 89, 0, 0, 0),
  (92, .iload_n 1, 0, 0, 0, 0),
  (93, .ifCond .ne 20, 62, 0, 0, 0),
  (96, .iload_n 2, 0, 0, 0, 0),
  (97, .iconst 3, 0, 0, 0, 3),
  (98, .if_icmp .ne 15, 62, 0, 0, 0),
  (101, .aload_n 0, 0, 0, 0, 0),
  (102, .iconst 0, 0, 0, 0, 0),
  (103, .aload_n 0, 0, 0, 0, 0),
  (104, .invokevirtual 19, 78, 7, 0, 0),
  (107, .invokevirtual 124, 75, 7, 0, 0),
  (110, .goto 48, 89, 0, 0, 0),
  (113, .aload_n 0, 0, 0, 0, 0),
  (114, .iconst 2, 0, 0, 0, 2),
  (115, .aload_n 0, 0, 0, 0, 0),
  (116, .getfield 9, 7, 0, 0, 0),
  (119, .iload_n 1, 0, 0, 0, 0),
  (120, .iaload, 0, 0, 0, 0),
  (121, .invokevirtual 124, 75, 7, 0, 0),
  (124, .iload_n 2, 0, 0, 0, 0),
  (125, .iconst 3, 0, 0, 0, 3),
  (126, .if_icmp .ne 32, 89, 0, 0, 0),
  (129, .aload_n 0, 0, 0, 0, 0),
  (130, .iload_n 1, 0, 0, 0, 0),
  (131, .aload_n 0, 0, 0, 0, 0),
  (132, .getfield 9, 7, 0, 0, 0),
  (135, .iload_n 1, 0, 0, 0, 0),
  (136, .iaload, 0, 0, 0, 0),
  (137, .aload_n 0, 0, 0, 0, 0),
  (138, .getfield 37, 7, 2, 0, 0),
  (141, .ifCond .eq 12, 86, 0, 0, 0),
  (144, .iload_n 1, 0, 0, 0, 0),
  (145, .iconst 1, 0, 0, 0, 1),
  (146, .if_icmp .eq 7, 86, 0, 0, 0),
  (149, .iconst 1, 0, 0, 0, 1),
  (150, .goto 4, 87, 0, 0, 0),
  (153, .iconst 2, 0, 0, 0, 2),
  (154, .iadd, 0, 0, 0, 0),
  (155, .invokevirtual 63, 81, 7, 0, 0),
  (158, .return_, 0, 0, 0, 0)]
set_option maxRecDepth 100000 in
def cd_74 : List xE := [(0, .iload_n 2, 0, 0, 0, 0),
  (1, .ifCond .ne 12, 7, 0, 0, 0),
  (4, .aload_n 0, 0, 0, 0, 0),
  (5, .iconst 1, 0, 0, 0, 1),
  (6, .iload_n 1, 0, 0, 0, 0),
  (7, .invokevirtual 124, 75, 7, 0, 0),
  (10, .goto 21, 18, 0, 0, 0),
  (13, .aload_n 0, 0, 0, 0, 0),
  (14, .iconst 2, 0, 0, 0, 2),
  (15, .aload_n 0, 0, 0, 0, 0),
  (16, .iload_n 1, 0, 0, 0, 0),
  (17, .invokevirtual 127, 76, 7, 0, 0),
  (20, .aload_n 0, 0, 0, 0, 0),
  (21, .invokevirtual 19, 78, 7, 0, 0),
  (24, .iadd, 0, 0, 0, 0),
  (25, .ldc 103, 0, 0, 0, 65535),
  (27, .iand, 0, 0, 0, 0),
  (28, .invokevirtual 124, 75, 7, 0, 0),
  (31, .return_, 0, 0, 0, 0)]
set_option maxRecDepth 100000 in
def cd_75 : List xE := [(0, .aload_n 0, 0, 0, 0, 0),
  (1, .iload_n 1, 0, 0, 0, 0),
  (2, .putfield 112, 7, 3, 0, 0),
  (5, .aload_n 0, 0, 0, 0, 0),
  (6, .iload_n 2, 0, 0, 0, 0),
  (7, .putfield 115, 7, 4, 0, 0),
  (10, .return_, 0, 0, 0, 0)]
set_option maxRecDepth 100000 in
def cd_76 : List xE := [(0, .iload_n 1, 0, 0, 0, 0),
  (1, .iconst 2, 0, 0, 0, 2),
  (2, .if_icmp .ne 7, 5, 0, 0, 0),
  (5, .iconst 0, 0, 0, 0, 0),
  (6, .goto 9, 9, 0, 0, 0),
  (9, .aload_n 0, 0, 0, 0, 0),
  (10, .getfield 9, 7, 0, 0, 0),
  (13, .iload_n 1, 0, 0, 0, 0),
  (14, .iaload, 0, 0, 0, 0),
  (15, .ireturn, 0, 0, 0, 0)]
set_option maxRecDepth 100000 in
def cd_77 : List xE := [(0, .aload_n 0, 0, 0, 0, 0),
  (1, .getfield 112, 7, 3, 0, 0),
  (4, .iconst 2, 0, 0, 0, 2),
  (5, .if_icmp .ne 19, 12, 0, 0, 0),
  (8, .aload_n 0, 0, 0, 0, 0),
  (9, .getfield 15, 7, 1, 0, 0),
  (12, .aload_n 0, 0, 0, 0, 0),
  (13, .getfield 115, 7, 4, 0, 0),
  (16, .aload_n 0, 0, 0, 0, 0),
  (17, .getfield 37, 7, 2, 0, 0),
  (20, .invokevirtual 130, 48, 6, 0, 0),
  (23, .ireturn, 0, 0, 0, 0),
  (24, .aload_n 0, 0, 0, 0, 0),
  (25, .getfield 112, 7, 3, 0, 0),
  (28, .iconst 1, 0, 0, 0, 1),
  (29, .if_icmp .ne 15, 22, 0, 0, 0),
  (32, .aload_n 0, 0, 0, 0, 0),
  (33, .getfield 9, 7, 0, 0, 0),
  (36, .aload_n 0, 0, 0, 0, 0),
  (37, .getfield 115, 7, 4, 0, 0),
  (40, .iaload, 0, 0, 0, 0),
  (41, .goto 7, 24, 0, 0, 0),
  (44, .aload_n 0, 0, 0, 0, 0),
  (45, .getfield 115, 7, 4, 0, 0),
  (48, .aload_n 0, 0, 0, 0, 0),
  (49, .invokevirtual 80, 84, 7, 0, 0),
  (52, .iand, 0, 0, 0, 0),
  (53, .ireturn, 0, 0, 0, 0)]
set_option maxRecDepth 100000 in
def cd_78 : List xE := [(0, .aload_n 0, 0, 0, 0, 0),
  (1, .getfield 15, 7, 1, 0, 0),
  (4, .aload_n 0, 0, 0, 0, 0),
  (5, .getfield 9, 7, 0, 0, 0),
  (8, .iconst 0, 0, 0, 0, 0),
  (9, .iaload, 0, 0, 0, 0),
  (10, .invokevirtual 133, 47, 6, 0, 0),
  (13, .istore_n 1, 0, 0, 0, 0),
  (14, .aload_n 0, 0, 0, 0, 0),
  (15, .iconst 0, 0, 0, 0, 0),
  (16, .aload_n 0, 0, 0, 0, 0),
  (17, .getfield 9, 7, 0, 0, 0),
  (20, .iconst 0, 0, 0, 0, 0),
  (21, .iaload, 0, 0, 0, 0),
  (22, .iconst 2, 0, 0, 0, 2),
  (23, .iadd, 0, 0, 0, 0),
  (24, .invokevirtual 63, 81, 7, 0, 0),
  (27, .iload_n 1, 0, 0, 0, 0),
  (28, .ireturn, 0, 0, 0, 0)]
set_option maxRecDepth 100000 in
def cd_79 : List xE := [(0, .aload_n 0, 0, 0, 0, 0),
  (1, .iconst 1, 0, 0, 0, 1),
  (2, .aload_n 0, 0, 0, 0, 0),
  (3, .getfield 9, 7, 0, 0, 0),
  (6, .iconst 1, 0, 0, 0, 1),
  (7, .iaload, 0, 0, 0, 0),
  (8, .iconst 2, 0, 0, 0, 2),
  (9, .isub, 0, 0, 0, 0),
  (10, .invokevirtual 63, 81, 7, 0, 0),
  (13, .aload_n 0, 0, 0, 0, 0),
  (14, .getfield 15, 7, 1, 0, 0),
  (17, .aload_n 0, 0, 0, 0, 0),
  (18, .getfield 9, 7, 0, 0, 0),
  (21, .iconst 1, 0, 0, 0, 1),
  (22, .iaload, 0, 0, 0, 0),
  (23, .iload_n 1, 0, 0, 0, 0),
  (24, .aload_n 0, 0, 0, 0, 0),
  (25, .getfield 37, 7, 2, 0, 0),
  (28, .invokevirtual 118, 49, 6, 0, 0),
  (31, .return_, 0, 0, 0, 0)]
set_option maxRecDepth 100000 in
def cd_80 : List xE := [(0, .aload_n 0, 0, 0, 0, 0),
  (1, .getfield 15, 7, 1, 0, 0),
  (4, .aload_n 0, 0, 0, 0, 0),
  (5, .getfield 9, 7, 0, 0, 0),
  (8, .iconst 1, 0, 0, 0, 1),
  (9, .iaload, 0, 0, 0, 0),
  (10, .iconst 0, 0, 0, 0, 0),
  (11, .invokevirtual 130, 48, 6, 0, 0),
  (14, .istore_n 1, 0, 0, 0, 0),
  (15, .aload_n 0, 0, 0, 0, 0),
  (16, .iconst 1, 0, 0, 0, 1),
  (17, .aload_n 0, 0, 0, 0, 0),
  (18, .getfield 9, 7, 0, 0, 0),
  (21, .iconst 1, 0, 0, 0, 1),
  (22, .iaload, 0, 0, 0, 0),
  (23, .iconst 2, 0, 0, 0, 2),
  (24, .iadd, 0, 0, 0, 0),
  (25, .invokevirtual 63, 81, 7, 0, 0),
  (28, .iload_n 1, 0, 0, 0, 0),
  (29, .ireturn, 0, 0, 0, 0)]
set_option maxRecDepth 100000 in
def cd_81 : List xE := [(0, .iload_n 1, 0, 0, 0, 0),
  (1, .ifCond .eq 8, 5, 0, 0, 0),
  (4, .iload_n 1, 0, 0, 0, 0),
  (5, .iconst 1, 0, 0, 0, 1),
  (6, .if_icmp .ne 16, 13, 0, 0, 0),
  (9, .aload_n 0, 0, 0, 0, 0),
  (10, .getfield 9, 7, 0, 0, 0),
  (13, .iload_n 1, 0, 0, 0, 0),
  (14, .iload_n 2, 0, 0, 0, 0),
  (15, .ldc 136, 0, 0, 0, 65534),
  (17, .iand, 0, 0, 0, 0),
  (18, .iastore, 0, 0, 0, 0),
  (19, .goto 37, 34, 0, 0, 0),
  (22, .iload_n 1, 0, 0, 0, 0),
  (23, .iconst 2, 0, 0, 0, 2),
  (24, .if_icmp .ne 17, 24, 0, 0, 0),
  (27, .aload_n 0, 0, 0, 0, 0),
  (28, .getfield 9, 7, 0, 0, 0),
  (31, .iload_n 1, 0, 0, 0, 0),
  (32, .iload_n 2, 0, 0, 0, 0),
  (33, .sipush 263, 0, 0, 0, 263),
  (36, .iand, 0, 0, 0, 0),
  (37, .iastore, 0, 0, 0, 0),
  (38, .goto 18, 34, 0, 0, 0),
  (41, .iload_n 1, 0, 0, 0, 0),
  (42, .iconst 3, 0, 0, 0, 3),
  (43, .if_icmp .eq 13, 34, 0, 0, 0),
  (46, .aload_n 0, 0, 0, 0, 0),
  (47, .getfield 9, 7, 0, 0, 0),
  (50, .iload_n 1, 0, 0, 0, 0),
  (51, .iload_n 2, 0, 0, 0, 0),
  (52, .ldc 103, 0, 0, 0, 65535),
  (54, .iand, 0, 0, 0, 0),
  (55, .iastore, 0, 0, 0, 0),
  (56, .return_, 0, 0, 0, 0)]
set_option maxRecDepth 100000 in
def cd_82 : List xE := [(0, .aload_n 0, 0, 0, 0, 0),
  (1, .getfield 9, 7, 0, 0, 0),
  (4, .iconst 2, 0, 0, 0, 2),
  (5, .iaload, 0, 0, 0, 0),
  (6, .iload_n 1, 0, 0, 0, 0),
  (7, .iand, 0, 0, 0, 0),
  (8, .ifCond .eq 7, 9, 0, 0, 0),
  (11, .iconst 1, 0, 0, 0, 1),
  (12, .goto 4, 10, 0, 0, 0),
  (15, .iconst 0, 0, 0, 0, 0),
  (16, .ireturn, 0, 0, 0, 0)]
set_option maxRecDepth 100000 in
def cd_83 : List xE := [(0, .aload_n 0, 0, 0, 0, 0),
  (1, .getfield 9, 7, 0, 0, 0),
  (4, .iconst 2, 0, 0, 0, 2),
  (5, .iaload, 0, 0, 0, 0),
  (6, .iconst 1, 0, 0, 0, 1),
  (7, .iand, 0, 0, 0, 0),
  (8, .ireturn, 0, 0, 0, 0)]
set_option maxRecDepth 100000 in
def cd_84 : List xE := [(0, .aload_n 0, 0, 0, 0, 0),
  (1, .getfield 37, 7, 2, 0, 0),
  (4, .ifCond .eq 9, 5, 0, 0, 0),
  (7, .sipush 255, 0, 0, 0, 255),
  (10, .goto 5, 6, 0, 0, 0),
  (13, .ldc 103, 0, 0, 0, 65535),
  (15, .ireturn, 0, 0, 0, 0)]
set_option maxRecDepth 100000 in
def cd_85 : List xE := [(0, .aload_n 0, 0, 0, 0, 0),
  (1, .getfield 37, 7, 2, 0, 0),
  (4, .ifCond .eq 9, 5, 0, 0, 0),
  (7, .sipush 128, 0, 0, 0, 128),
  (10, .goto 5, 6, 0, 0, 0),
  (13, .ldc 137, 0, 0, 0, 32768),
  (15, .ireturn, 0, 0, 0, 0)]
set_option maxRecDepth 100000 in
def cd_86 : List xE := [(0, .iload_n 1, 0, 0, 0, 0),
  (1, .aload_n 0, 0, 0, 0, 0),
  (2, .invokevirtual 96, 85, 7, 0, 0),
  (5, .iand, 0, 0, 0, 0),
  (6, .ifCond .eq 14, 12, 0, 0, 0),
  (9, .iload_n 1, 0, 0, 0, 0),
  (10, .iconst 2, 0, 0, 0, 2),
  (11, .aload_n 0, 0, 0, 0, 0),
  (12, .invokevirtual 96, 85, 7, 0, 0),
  (15, .imul, 0, 0, 0, 0),
  (16, .isub, 0, 0, 0, 0),
  (17, .goto 4, 13, 0, 0, 0),
  (20, .iload_n 1, 0, 0, 0, 0),
  (21, .ireturn, 0, 0, 0, 0)]
set_option maxRecDepth 100000 in
def cd_87 : List xE := [(0, .aload_n 0, 0, 0, 0, 0),
  (1, .invokespecial 3, 0, 0, 2, 0),
  (4, .aload_n 0, 0, 0, 0, 0),
  (5, .bipush 16, 0, 0, 0, 16),
  (7, .newarray .int, 0, 0, 0, 0),
  (9, .putfield 9, 8, 0, 2, 0),
  (12, .aload_n 0, 0, 0, 0, 0),
  (13, .bipush 16, 0, 0, 0, 16),
  (15, .newarray .int, 0, 0, 0, 0),
  (17, .putfield 15, 8, 1, 2, 0),
  (20, .aload_n 0, 0, 0, 0, 0),
  (21, .new 18, 4, 5, 0, 0),
  (24, .dup, 0, 0, 0, 0),
  (25, .invokespecial 20, 34, 0, 1, 0),
  (28, .putfield 21, 8, 2, 2, 0),
  (31, .aload_n 0, 0, 0, 0, 0),
  (32, .iconst 1, 0, 0, 0, 1),
  (33, .putfield 25, 8, 6, 1, 0),
  (36, .return_, 0, 0, 0, 0)]
set_option maxRecDepth 100000 in
def cd_88 : List xE := [(0, .aload_n 0, 0, 0, 0, 0),
  (1, .invokespecial 3, 0, 0, 2, 0),
  (4, .aload_n 0, 0, 0, 0, 0),
  (5, .new 9, 8, 7, 0, 0),
  (8, .dup, 0, 0, 0, 0),
  (9, .invokespecial 11, 87, 0, 1, 0),
  (12, .putfield 12, 9, 0, 2, 0),
  (15, .aload_n 0, 0, 0, 0, 0),
  (16, .aload_n 1, 0, 0, 0, 0),
  (17, .putfield 18, 9, 2, 2, 0),
  (20, .aload_n 0, 0, 0, 0, 0),
  (21, .aload_n 2, 0, 0, 0, 0),
  (22, .putfield 22, 9, 3, 2, 0),
  (25, .aload_n 0, 0, 0, 0, 0),
  (26, .aload_n 3, 0, 0, 0, 0),
  (27, .putfield 26, 9, 4, 2, 0),
  (30, .aload_n 0, 0, 0, 0, 0),
  (31, .aload 4, 0, 0, 0, 0),
  (33, .putfield 30, 9, 5, 2, 0),
  (36, .aload_n 0, 0, 0, 0, 0),
  (37, .aload 5, 0, 0, 0, 0),
  (39, .putfield 34, 9, 6, 2, 0),
  (42, .return_, 0, 0, 0, 0)]
set_option maxRecDepth 100000 in
def cd_89 : List xE := [(0, .aload_n 0, 0, 0, 0, 0),
  (1, .getfield 30, 9, 5, 0, 0),
  (4, .iconst 0, 0, 0, 0, 0),
  (5, .aload_n 0, 0, 0, 0, 0),
  (6, .getfield 12, 9, 0, 0, 0),
  (9, .getfield 37, 8, 0, 0, 0),
  (12, .iconst 0, 0, 0, 0, 0),
  (13, .bipush 16, 0, 0, 0, 16),
  (15, .invokestatic 38, 0, 0, 3, 0),
  (18, .aload_n 0, 0, 0, 0, 0),
  (19, .getfield 34, 9, 6, 0, 0),
  (22, .iconst 0, 0, 0, 0, 0),
  (23, .aload_n 0, 0, 0, 0, 0),
  (24, .getfield 12, 9, 0, 0, 0),
  (27, .getfield 44, 8, 1, 0, 0),
  (30, .iconst 0, 0, 0, 0, 0),
  (31, .bipush 16, 0, 0, 0, 16),
  (33, .invokestatic 38, 0, 0, 3, 0),
  (36, .return_, 0, 0, 0, 0)]
set_option maxRecDepth 100000 in
def cd_90 : List xE := [(0, .bipush 36, 0, 0, 0, 36),
  (2, .iconst 2, 0, 0, 0, 2),
  (3, .aload_n 0, 0, 0, 0, 0),
  (4, .getfield 26, 9, 4, 0, 0),
  (7, .getfield 45, 5, 1, 0, 0),
  (10, .getfield 51, 4, 3, 0, 0),
  (13, .imul, 0, 0, 0, 0),
  (14, .iadd, 0, 0, 0, 0),
  (15, .aload_n 0, 0, 0, 0, 0),
  (16, .getfield 26, 9, 4, 0, 0),
  (19, .getfield 45, 5, 1, 0, 0),
  (22, .getfield 57, 4, 4, 0, 0),
  (25, .iadd, 0, 0, 0, 0),
  (26, .istore_n 2, 0, 0, 0, 0),
  (27, .iconst 0, 0, 0, 0, 0),
  (28, .istore_n 3, 0, 0, 0, 0),
  (29, .iload_n 3, 0, 0, 0, 0),
  (30, .iload_n 2, 0, 0, 0, 0),
  (31, .if_icmp .ge 22, 28, 0, 0, 0),
  (34, .aload_n 0, 0, 0, 0, 0),
  (35, .getfield 18, 9, 2, 0, 0),
  (38, .iconst 0, 0, 0, 0, 0),
  (39, .invokevirtual 62, 24, 1, 0, 0),
  (42, .ifCond .ne 5, 26, 0, 0, 0),
  (45, .iconst 0, 0, 0, 0, 0),
  (46, .ireturn, 0, 0, 0, 0),
  (47, .iinc 3 1, 0, 0, 0, 1),
  (50, .goto (-21), 16, 0, 0, 0),
  (53, .aload_n 0, 0, 0, 0, 0),
  (54, .getfield 18, 9, 2, 0, 0),
  (57, .iconst 0, 0, 0, 0, 0),
  (58, .invokevirtual 62, 24, 1, 0, 0),
  (61, .ifCond .ne 5, 35, 0, 0, 0),
  (64, .iconst 0, 0, 0, 0, 0),
  (65, .ireturn, 0, 0, 0, 0),
  (66, .aload_n 0, 0, 0, 0, 0),
  (67, .iload_n 1, 0, 0, 0, 0),
  (68, .invokevirtual 66, 92, 9, 0, 0),
  (71, .aload_n 0, 0, 0, 0, 0),
  (72, .invokevirtual 70, 93, 9, 0, 0),
  (75, .ifCond .ne 5, 43, 0, 0, 0),
  (78, .iconst 0, 0, 0, 0, 0),
  (79, .ireturn, 0, 0, 0, 0),
  (80, .aload_n 0, 0, 0, 0, 0),
  (81, .getfield 26, 9, 4, 0, 0),
  (84, .invokevirtual 74, 41, 5, 0, 0),
  (87, .iconst 1, 0, 0, 0, 1),
  (88, .ireturn, 0, 0, 0, 0)]
set_option maxRecDepth 100000 in
def cd_91 : List xE := [(0, .aload_n 0, 0, 0, 0, 0),
  (1, .getfield 12, 9, 0, 0, 0),
  (4, .getfield 77, 8, 6, 0, 0),
  (7, .ifCond .ne 12, 9, 0, 0, 0),
  (10, .aload_n 0, 0, 0, 0, 0),
  (11, .invokevirtual 70, 93, 9, 0, 0),
  (14, .ifCond .ne 5, 9, 0, 0, 0),
  (17, .iconst 0, 0, 0, 0, 0),
  (18, .ireturn, 0, 0, 0, 0),
  (19, .aload_n 0, 0, 0, 0, 0),
  (20, .getfield 12, 9, 0, 0, 0),
  (23, .getfield 37, 8, 0, 0, 0),
  (26, .iconst 0, 0, 0, 0, 0),
  (27, .aload_n 0, 0, 0, 0, 0),
  (28, .getfield 30, 9, 5, 0, 0),
  (31, .iconst 0, 0, 0, 0, 0),
  (32, .bipush 16, 0, 0, 0, 16),
  (34, .invokestatic 38, 0, 0, 3, 0),
  (37, .aload_n 0, 0, 0, 0, 0),
  (38, .getfield 12, 9, 0, 0, 0),
  (41, .getfield 44, 8, 1, 0, 0),
  (44, .iconst 0, 0, 0, 0, 0),
  (45, .aload_n 0, 0, 0, 0, 0),
  (46, .getfield 34, 9, 6, 0, 0),
  (49, .iconst 0, 0, 0, 0, 0),
  (50, .bipush 16, 0, 0, 0, 16),
  (52, .invokestatic 38, 0, 0, 3, 0),
  (55, .aload_n 0, 0, 0, 0, 0),
  (56, .getfield 26, 9, 4, 0, 0),
  (59, .invokevirtual 74, 41, 5, 0, 0),
  (62, .iconst 1, 0, 0, 0, 1),
  (63, .ireturn, 0, 0, 0, 0)]
set_option maxRecDepth 100000 in
def cd_92 : List xE := [(0, .aload_n 0, 0, 0, 0, 0),
  (1, .invokevirtual 81, 89, 9, 0, 0),
  (4, .aload_n 0, 0, 0, 0, 0),
  (5, .getfield 12, 9, 0, 0, 0),
  (8, .getfield 84, 8, 2, 0, 0),
  (11, .aload_n 0, 0, 0, 0, 0),
  (12, .getfield 26, 9, 4, 0, 0),
  (15, .getfield 45, 5, 1, 0, 0),
  (18, .invokevirtual 85, 36, 4, 0, 0),
  (21, .aload_n 0, 0, 0, 0, 0),
  (22, .getfield 12, 9, 0, 0, 0),
  (25, .dup, 0, 0, 0, 0),
  (26, .getfield 89, 8, 3, 0, 0),
  (29, .aload_n 0, 0, 0, 0, 0),
  (30, .getfield 26, 9, 4, 0, 0),
  (33, .getfield 92, 5, 4, 0, 0),
  (36, .iadd, 0, 0, 0, 0),
  (37, .putfield 89, 8, 3, 0, 0),
  (40, .aload_n 0, 0, 0, 0, 0),
  (41, .getfield 12, 9, 0, 0, 0),
  (44, .iconst 0, 0, 0, 0, 0),
  (45, .putfield 93, 8, 4, 0, 0),
  (48, .aload_n 0, 0, 0, 0, 0),
  (49, .getfield 12, 9, 0, 0, 0),
  (52, .iload_n 1, 0, 0, 0, 0),
  (53, .putfield 96, 8, 5, 1, 0),
  (56, .aload_n 0, 0, 0, 0, 0),
  (57, .getfield 12, 9, 0, 0, 0),
  (60, .iconst 0, 0, 0, 0, 0),
  (61, .putfield 77, 8, 6, 1, 0),
  (64, .aload_n 0, 0, 0, 0, 0),
  (65, .dup, 0, 0, 0, 0),
  (66, .getfield 99, 9, 1, 0, 0),
  (69, .iconst 1, 0, 0, 0, 1),
  (70, .iadd, 0, 0, 0, 0),
  (71, .putfield 99, 9, 1, 0, 0),
  (74, .return_, 0, 0, 0, 0)]
set_option maxRecDepth 100000 in
def cd_93 : List xE := [(0, .aload_n 0, 0, 0, 0, 0),
  (1, .invokevirtual 102, 94, 9, 0, 0),
  (4, .ifCond .eq 21, 11, 0, 0, 0),
  (7, .aload_n 0, 0, 0, 0, 0),
  (8, .invokevirtual 105, 95, 9, 0, 0),
  (11, .ifCond .eq 14, 11, 0, 0, 0),
  (14, .aload_n 0, 0, 0, 0, 0),
  (15, .invokevirtual 108, 96, 9, 0, 0),
  (18, .ifCond .eq 7, 11, 0, 0, 0),
  (21, .iconst 1, 0, 0, 0, 1),
  (22, .goto 4, 12, 0, 0, 0),
  (25, .iconst 0, 0, 0, 0, 0),
  (26, .ireturn, 0, 0, 0, 0)]
set_option maxRecDepth 100000 in
def cd_94 : List xE := [(0, .iconst 0, 0, 0, 0, 0),
  (1, .istore_n 1, 0, 0, 0, 0),
  (2, .iload_n 1, 0, 0, 0, 0),
  (3, .aload_n 0, 0, 0, 0, 0),
  (4, .getfield 12, 9, 0, 0, 0),
  (7, .getfield 84, 8, 2, 0, 0),
  (10, .getfield 51, 4, 3, 0, 0),
  (13, .if_icmp .ge 54, 33, 0, 0, 0),
  (16, .aload_n 0, 0, 0, 0, 0),
  (17, .getfield 18, 9, 2, 0, 0),
  (20, .iconst 0, 0, 0, 0, 0),
  (21, .invokevirtual 62, 24, 1, 0, 0),
  (24, .ifCond .ne 5, 15, 0, 0, 0),
  (27, .iconst 0, 0, 0, 0, 0),
  (28, .ireturn, 0, 0, 0, 0),
  (29, .aload_n 0, 0, 0, 0, 0),
  (30, .getfield 22, 9, 3, 0, 0),
  (33, .getfield 111, 2, 0, 0, 0),
  (36, .aload_n 0, 0, 0, 0, 0),
  (37, .getfield 12, 9, 0, 0, 0),
  (40, .getfield 84, 8, 2, 0, 0),
  (43, .getfield 116, 4, 0, 0, 0),
  (46, .iload_n 1, 0, 0, 0, 0),
  (47, .iaload, 0, 0, 0, 0),
  (48, .aload_n 0, 0, 0, 0, 0),
  (49, .getfield 12, 9, 0, 0, 0),
  (52, .getfield 84, 8, 2, 0, 0),
  (55, .getfield 119, 4, 1, 0, 0),
  (58, .iload_n 1, 0, 0, 0, 0),
  (59, .iaload, 0, 0, 0, 0),
  (60, .iastore, 0, 0, 0, 0),
  (61, .iinc 1 1, 0, 0, 0, 1),
  (64, .goto (-62), 2, 0, 0, 0),
  (67, .iconst 1, 0, 0, 0, 1),
  (68, .ireturn, 0, 0, 0, 0)]
set_option maxRecDepth 100000 in
def cd_95 : List xE := [(0, .aload_n 0, 0, 0, 0, 0),
  (1, .getfield 12, 9, 0, 0, 0),
  (4, .getfield 93, 8, 4, 0, 0),
  (7, .istore_n 1, 0, 0, 0, 0),
  (8, .iload_n 1, 0, 0, 0, 0),
  (9, .aload_n 0, 0, 0, 0, 0),
  (10, .getfield 12, 9, 0, 0, 0),
  (13, .getfield 84, 8, 2, 0, 0),
  (16, .getfield 57, 4, 4, 0, 0),
  (19, .if_icmp .ge 74, 45, 0, 0, 0),
  (22, .aload_n 0, 0, 0, 0, 0),
  (23, .getfield 18, 9, 2, 0, 0),
  (26, .iconst 0, 0, 0, 0, 0),
  (27, .invokevirtual 62, 24, 1, 0, 0),
  (30, .ifCond .ne 5, 17, 0, 0, 0),
  (33, .iconst 0, 0, 0, 0, 0),
  (34, .ireturn, 0, 0, 0, 0),
  (35, .aload_n 0, 0, 0, 0, 0),
  (36, .getfield 22, 9, 3, 0, 0),
  (39, .aload_n 0, 0, 0, 0, 0),
  (40, .getfield 12, 9, 0, 0, 0),
  (43, .getfield 84, 8, 2, 0, 0),
  (46, .getfield 122, 4, 2, 0, 0),
  (49, .iload_n 1, 0, 0, 0, 0),
  (50, .iaload, 0, 0, 0, 0),
  (51, .invokevirtual 125, 29, 2, 0, 0),
  (54, .aload_n 0, 0, 0, 0, 0),
  (55, .getfield 18, 9, 2, 0, 0),
  (58, .iconst 0, 0, 0, 0, 0),
  (59, .invokevirtual 62, 24, 1, 0, 0),
  (62, .ifCond .ne 5, 33, 0, 0, 0),
  (65, .iconst 0, 0, 0, 0, 0),
  (66, .ireturn, 0, 0, 0, 0),
  (67, .aload_n 0, 0, 0, 0, 0),
  (68, .getfield 22, 9, 3, 0, 0),
  (71, .invokevirtual 129, 30, 2, 0, 0),
  (74, .aload_n 0, 0, 0, 0, 0),
  (75, .getfield 12, 9, 0, 0, 0),
  (78, .dup, 0, 0, 0, 0),
  (79, .getfield 93, 8, 4, 0, 0),
  (82, .iconst 1, 0, 0, 0, 1),
  (83, .iadd, 0, 0, 0, 0),
  (84, .putfield 93, 8, 4, 0, 0),
  (87, .iinc 1 1, 0, 0, 0, 1),
  (90, .goto (-82), 4, 0, 0, 0),
  (93, .iconst 1, 0, 0, 0, 1),
  (94, .ireturn, 0, 0, 0, 0)]
set_option maxRecDepth 100000 in
def cd_96 : List xE := [(0, .aload_n 0, 0, 0, 0, 0),
  (1, .getfield 18, 9, 2, 0, 0),
  (4, .iconst 0, 0, 0, 0, 0),
  (5, .invokevirtual 62, 24, 1, 0, 0),
  (8, .ifCond .ne 5, 7, 0, 0, 0),
  (11, .iconst 0, 0, 0, 0, 0),
  (12, .ireturn, 0, 0, 0, 0),
  (13, .aload_n 0, 0, 0, 0, 0),
  (14, .getfield 22, 9, 3, 0, 0),
  (17, .iconst 0, 0, 0, 0, 0),
  (18, .putfield 132, 2, 3, 0, 0),
  (21, .aload_n 0, 0, 0, 0, 0),
  (22, .getfield 18, 9, 2, 0, 0),
  (25, .iconst 0, 0, 0, 0, 0),
  (26, .invokevirtual 62, 24, 1, 0, 0),
  (29, .ifCond .ne 5, 18, 0, 0, 0),
  (32, .iconst 0, 0, 0, 0, 0),
  (33, .ireturn, 0, 0, 0, 0),
  (34, .aload_n 0, 0, 0, 0, 0),
  (35, .getfield 12, 9, 0, 0, 0),
  (38, .iconst 1, 0, 0, 0, 1),
  (39, .putfield 77, 8, 6, 1, 0),
  (42, .iconst 1, 0, 0, 0, 1),
  (43, .ireturn, 0, 0, 0, 0)]
set_option maxRecDepth 100000 in
def cd_97 : List xE := [(0, .aload_n 0, 0, 0, 0, 0),
  (1, .invokespecial 1, 0, 0, 2, 0),
  (4, .aload_n 0, 0, 0, 0, 0),
  (5, .bipush 16, 0, 0, 0, 16),
  (7, .newarray .int, 0, 0, 0, 0),
  (9, .putfield 7, 10, 0, 2, 0),
  (12, .aload_n 0, 0, 0, 0, 0),
  (13, .bipush 16, 0, 0, 0, 16),
  (15, .newarray .int, 0, 0, 0, 0),
  (17, .putfield 13, 10, 1, 2, 0),
  (20, .aload_n 0, 0, 0, 0, 0),
  (21, .sipush 128, 0, 0, 0, 128),
  (24, .newarray .int, 0, 0, 0, 0),
  (26, .putfield 16, 10, 2, 2, 0),
  (29, .aload_n 0, 0, 0, 0, 0),
  (30, .sipush 128, 0, 0, 0, 128),
  (33, .newarray .int, 0, 0, 0, 0),
  (35, .putfield 19, 10, 3, 2, 0),
  (38, .aload_n 0, 0, 0, 0, 0),
  (39, .sipush 128, 0, 0, 0, 128),
  (42, .newarray .int, 0, 0, 0, 0),
  (44, .putfield 22, 10, 4, 2, 0),
  (47, .aload_n 0, 0, 0, 0, 0),
  (48, .sipush 128, 0, 0, 0, 128),
  (51, .newarray .int, 0, 0, 0, 0),
  (53, .putfield 25, 10, 5, 2, 0),
  (56, .aload_n 0, 0, 0, 0, 0),
  (57, .bipush 8, 0, 0, 0, 8),
  (59, .newarray .int, 0, 0, 0, 0),
  (61, .putfield 28, 10, 7, 2, 0),
  (64, .aload_n 0, 0, 0, 0, 0),
  (65, .bipush 16, 0, 0, 0, 16),
  (67, .newarray .int, 0, 0, 0, 0),
  (69, .putfield 31, 10, 12, 2, 0),
  (72, .aload_n 0, 0, 0, 0, 0),
  (73, .bipush 16, 0, 0, 0, 16),
  (75, .newarray .int, 0, 0, 0, 0),
  (77, .putfield 34, 10, 13, 2, 0),
  (80, .aload_n 0, 0, 0, 0, 0),
  (81, .bipush 8, 0, 0, 0, 8),
  (83, .newarray .int, 0, 0, 0, 0),
  (85, .putfield 37, 10, 14, 2, 0),
  (88, .aload_n 0, 0, 0, 0, 0),
  (89, .bipush 8, 0, 0, 0, 8),
  (91, .newarray .int, 0, 0, 0, 0),
  (93, .putfield 40, 10, 15, 2, 0),
  (96, .aload_n 0, 0, 0, 0, 0),
  (97, .bipush 8, 0, 0, 0, 8),
  (99, .newarray .int, 0, 0, 0, 0),
  (101, .putfield 43, 10, 17, 2, 0),
  (104, .aload_n 0, 0, 0, 0, 0),
  (105, .bipush 8, 0, 0, 0, 8),
  (107, .newarray .int, 0, 0, 0, 0),
  (109, .putfield 46, 10, 23, 2, 0),
  (112, .aload_n 0, 0, 0, 0, 0),
  (113, .bipush 16, 0, 0, 0, 16),
  (115, .newarray .int, 0, 0, 0, 0),
  (117, .putfield 49, 10, 25, 2, 0),
  (120, .aload_n 0, 0, 0, 0, 0),
  (121, .sipush 200, 0, 0, 0, 200),
  (124, .newarray .int, 0, 0, 0, 0),
  (126, .putfield 52, 10, 27, 2, 0),
  (129, .return_, 0, 0, 0, 0)]
set_option maxRecDepth 100000 in
def cd_98 : List xE := [(0, .aload_n 0, 0, 0, 0, 0),
  (1, .iconst 0, 0, 0, 0, 0),
  (2, .putfield 55, 10, 30, 1, 0),
  (5, .aload_n 0, 0, 0, 0, 0),
  (6, .iconst 2, 0, 0, 0, 2),
  (7, .putfield 59, 10, 29, 0, 0),
  (10, .aload_n 0, 0, 0, 0, 0),
  (11, .iconst 0, 0, 0, 0, 0),
  (12, .putfield 63, 10, 31, 0, 0),
  (15, .aload_n 0, 0, 0, 0, 0),
  (16, .iconst 0, 0, 0, 0, 0),
  (17, .putfield 66, 10, 32, 0, 0),
  (20, .aload_n 0, 0, 0, 0, 0),
  (21, .iconst 0, 0, 0, 0, 0),
  (22, .putfield 69, 10, 10, 0, 0),
  (25, .aload_n 0, 0, 0, 0, 0),
  (26, .invokevirtual 72, 99, 10, 0, 0),
  (29, .return_, 0, 0, 0, 0)]
set_option maxRecDepth 100000 in
def cd_99 : List xE := [(0, .iconst 0, 0, 0, 0, 0),
  (1, .istore_n 1, 0, 0, 0, 0),
  (2, .iload_n 1, 0, 0, 0, 0),
  (3, .sipush 128, 0, 0, 0, 128),
  (6, .if_icmp .ge 23, 17, 0, 0, 0),
  (9, .aload_n 0, 0, 0, 0, 0),
  (10, .getfield 19, 10, 3, 0, 0),
  (13, .iload_n 1, 0, 0, 0, 0),
  (14, .iconst 0, 0, 0, 0, 0),
  (15, .iastore, 0, 0, 0, 0),
  (16, .aload_n 0, 0, 0, 0, 0),
  (17, .getfield 22, 10, 4, 0, 0),
  (20, .iload_n 1, 0, 0, 0, 0),
  (21, .iconst 0, 0, 0, 0, 0),
  (22, .iastore, 0, 0, 0, 0),
  (23, .iinc 1 1, 0, 0, 0, 1),
  (26, .goto (-24), 2, 0, 0, 0),
  (29, .aload_n 0, 0, 0, 0, 0),
  (30, .iconst 0, 0, 0, 0, 0),
  (31, .putfield 75, 10, 6, 0, 0),
  (34, .aload_n 0, 0, 0, 0, 0),
  (35, .iconst 0, 0, 0, 0, 0),
  (36, .putfield 78, 10, 8, 0, 0),
  (39, .aload_n 0, 0, 0, 0, 0),
  (40, .iconst 0, 0, 0, 0, 0),
  (41, .putfield 81, 10, 9, 0, 0),
  (44, .aload_n 0, 0, 0, 0, 0),
  (45, .iconst 0, 0, 0, 0, 0),
  (46, .putfield 84, 10, 11, 1, 0),
  (49, .return_, 0, 0, 0, 0)]
set_option maxRecDepth 100000 in
def cd_100 : List xE := [(0, .aload_n 0, 0, 0, 0, 0),
  (1, .getfield 55, 10, 30, 0, 0),
  (4, .ifCond .ne 5, 5, 0, 0, 0),
  (7, .iconst 0, 0, 0, 0, 0),
  (8, .ireturn, 0, 0, 0, 0),
  (9, .aload_n 0, 0, 0, 0, 0),
  (10, .getfield 63, 10, 31, 0, 0),
  (13, .iconst 1, 0, 0, 0, 1),
  (14, .if_icmp .ne 9, 13, 0, 0, 0),
  (17, .aload_n 0, 0, 0, 0, 0),
  (18, .invokevirtual 87, 98, 10, 0, 0),
  (21, .iconst 0, 0, 0, 0, 0),
  (22, .ireturn, 0, 0, 0, 0),
  (23, .aload_n 0, 0, 0, 0, 0),
  (24, .aload_n 0, 0, 0, 0, 0),
  (25, .getfield 63, 10, 31, 0, 0),
  (28, .ifCond .le 12, 22, 0, 0, 0),
  (31, .aload_n 0, 0, 0, 0, 0),
  (32, .getfield 63, 10, 31, 0, 0),
  (35, .iconst 1, 0, 0, 0, 1),
  (36, .isub, 0, 0, 0, 0),
  (37, .goto 4, 23, 0, 0, 0),
  (40, .iconst 0, 0, 0, 0, 0),
  (41, .putfield 63, 10, 31, 0, 0),
  (44, .aload_n 0, 0, 0, 0, 0),
  (45, .dup, 0, 0, 0, 0),
  (46, .getfield 90, 10, 33, 0, 0),
  (49, .iconst 1, 0, 0, 0, 1),
  (50, .iadd, 0, 0, 0, 0),
  (51, .putfield 90, 10, 33, 0, 0),
  (54, .iconst 1, 0, 0, 0, 1),
  (55, .ireturn, 0, 0, 0, 0)]
set_option maxRecDepth 100000 in
def cd_101 : List xE := [(0, .bipush 37, 0, 0, 0, 37),
  (2, .iconst 2, 0, 0, 0, 2),
  (3, .aload_n 0, 0, 0, 0, 0),
  (4, .getfield 75, 10, 6, 0, 0),
  (7, .imul, 0, 0, 0, 0),
  (8, .iadd, 0, 0, 0, 0),
  (9, .aload_n 0, 0, 0, 0, 0),
  (10, .getfield 78, 10, 8, 0, 0),
  (13, .iadd, 0, 0, 0, 0),
  (14, .istore_n 1, 0, 0, 0, 0),
  (15, .iconst 0, 0, 0, 0, 0),
  (16, .istore_n 2, 0, 0, 0, 0),
  (17, .iload_n 2, 0, 0, 0, 0),
  (18, .iload_n 1, 0, 0, 0, 0),
  (19, .if_icmp .ge 17, 21, 0, 0, 0),
  (22, .aload_n 0, 0, 0, 0, 0),
  (23, .invokevirtual 93, 100, 10, 0, 0),
  (26, .ifCond .ne 4, 19, 0, 0, 0),
  (29, .return_, 0, 0, 0, 0),
  (30, .iinc 2 1, 0, 0, 0, 1),
  (33, .goto (-16), 12, 0, 0, 0),
  (36, .aload_n 0, 0, 0, 0, 0),
  (37, .dup, 0, 0, 0, 0),
  (38, .getfield 97, 10, 34, 0, 0),
  (41, .iconst 1, 0, 0, 0, 1),
  (42, .iadd, 0, 0, 0, 0),
  (43, .putfield 97, 10, 34, 0, 0),
  (46, .aload_n 0, 0, 0, 0, 0),
  (47, .dup, 0, 0, 0, 0),
  (48, .getfield 100, 10, 22, 0, 0),
  (51, .aload_n 0, 0, 0, 0, 0),
  (52, .getfield 69, 10, 10, 0, 0),
  (55, .iadd, 0, 0, 0, 0),
  (56, .putfield 100, 10, 22, 0, 0),
  (59, .aload_n 0, 0, 0, 0, 0),
  (60, .iconst 0, 0, 0, 0, 0),
  (61, .putfield 69, 10, 10, 0, 0),
  (64, .iconst 0, 0, 0, 0, 0),
  (65, .istore_n 2, 0, 0, 0, 0),
  (66, .iload_n 2, 0, 0, 0, 0),
  (67, .bipush 16, 0, 0, 0, 16),
  (69, .if_icmp .ge 33, 60, 0, 0, 0),
  (72, .aload_n 0, 0, 0, 0, 0),
  (73, .getfield 31, 10, 12, 0, 0),
  (76, .iload_n 2, 0, 0, 0, 0),
  (77, .aload_n 0, 0, 0, 0, 0),
  (78, .getfield 7, 10, 0, 0, 0),
  (81, .iload_n 2, 0, 0, 0, 0),
  (82, .iaload, 0, 0, 0, 0),
  (83, .iastore, 0, 0, 0, 0),
  (84, .aload_n 0, 0, 0, 0, 0),
  (85, .getfield 34, 10, 13, 0, 0),
  (88, .iload_n 2, 0, 0, 0, 0),
  (89, .aload_n 0, 0, 0, 0, 0),
  (90, .getfield 13, 10, 1, 0, 0),
  (93, .iload_n 2, 0, 0, 0, 0),
  (94, .iaload, 0, 0, 0, 0),
  (95, .iastore, 0, 0, 0, 0),
  (96, .iinc 2 1, 0, 0, 0, 1),
  (99, .goto (-33), 39, 0, 0, 0),
  (102, .aload_n 0, 0, 0, 0, 0),
  (103, .aload_n 0, 0, 0, 0, 0),
  (104, .getfield 75, 10, 6, 0, 0),
  (107, .putfield 103, 10, 16, 0, 0),
  (110, .iconst 0, 0, 0, 0, 0),
  (111, .istore_n 2, 0, 0, 0, 0),
  (112, .iload_n 2, 0, 0, 0, 0),
  (113, .sipush 128, 0, 0, 0, 128),
  (116, .if_icmp .ge 51, 99, 0, 0, 0),
  (119, .aload_n 0, 0, 0, 0, 0),
  (120, .getfield 22, 10, 4, 0, 0),
  (123, .iload_n 2, 0, 0, 0, 0),
  (124, .iaload, 0, 0, 0, 0),
  (125, .ifCond .le 36, 97, 0, 0, 0),
  (128, .aload_n 0, 0, 0, 0, 0),
  (129, .getfield 37, 10, 14, 0, 0),
  (132, .aload_n 0, 0, 0, 0, 0),
  (133, .getfield 22, 10, 4, 0, 0),
  (136, .iload_n 2, 0, 0, 0, 0),
  (137, .iaload, 0, 0, 0, 0),
  (138, .iconst 1, 0, 0, 0, 1),
  (139, .isub, 0, 0, 0, 0),
  (140, .iload_n 2, 0, 0, 0, 0),
  (141, .iastore, 0, 0, 0, 0),
  (142, .aload_n 0, 0, 0, 0, 0),
  (143, .getfield 40, 10, 15, 0, 0),
  (146, .aload_n 0, 0, 0, 0, 0),
  (147, .getfield 22, 10, 4, 0, 0),
  (150, .iload_n 2, 0, 0, 0, 0),
  (151, .iaload, 0, 0, 0, 0),
  (152, .iconst 1, 0, 0, 0, 1),
  (153, .isub, 0, 0, 0, 0),
  (154, .aload_n 0, 0, 0, 0, 0),
  (155, .getfield 25, 10, 5, 0, 0),
  (158, .iload_n 2, 0, 0, 0, 0),
  (159, .iaload, 0, 0, 0, 0),
  (160, .iastore, 0, 0, 0, 0),
  (161, .iinc 2 1, 0, 0, 0, 1),
  (164, .goto (-52), 66, 0, 0, 0),
  (167, .aload_n 0, 0, 0, 0, 0),
  (168, .aload_n 0, 0, 0, 0, 0),
  (169, .getfield 78, 10, 8, 0, 0),
  (172, .putfield 106, 10, 18, 0, 0),
  (175, .iconst 0, 0, 0, 0, 0),
  (176, .istore_n 2, 0, 0, 0, 0),
  (177, .iload_n 2, 0, 0, 0, 0),
  (178, .aload_n 0, 0, 0, 0, 0),
  (179, .getfield 78, 10, 8, 0, 0),
  (182, .if_icmp .ge 21, 119, 0, 0, 0),
  (185, .aload_n 0, 0, 0, 0, 0),
  (186, .getfield 43, 10, 17, 0, 0),
  (189, .iload_n 2, 0, 0, 0, 0),
  (190, .aload_n 0, 0, 0, 0, 0),
  (191, .getfield 28, 10, 7, 0, 0),
  (194, .iload_n 2, 0, 0, 0, 0),
  (195, .iaload, 0, 0, 0, 0),
  (196, .iastore, 0, 0, 0, 0),
  (197, .iinc 2 1, 0, 0, 0, 1),
  (200, .goto (-23), 105, 0, 0, 0),
  (203, .aload_n 0, 0, 0, 0, 0),
  (204, .iconst 0, 0, 0, 0, 0),
  (205, .putfield 109, 10, 19, 0, 0),
  (208, .aload_n 0, 0, 0, 0, 0),
  (209, .aload_n 0, 0, 0, 0, 0),
  (210, .getfield 84, 10, 11, 0, 0),
  (213, .putfield 112, 10, 20, 1, 0),
  (216, .aload_n 0, 0, 0, 0, 0),
  (217, .iconst 1, 0, 0, 0, 1),
  (218, .putfield 115, 10, 21, 1, 0),
  (221, .aload_n 0, 0, 0, 0, 0),
  (222, .invokevirtual 118, 102, 10, 0, 0),
  (225, .return_, 0, 0, 0, 0)]
set_option maxRecDepth 100000 in
def cd_102 : List xE := [(0, .iconst 0, 0, 0, 0, 0),
  (1, .istore_n 1, 0, 0, 0, 0),
  (2, .iload_n 1, 0, 0, 0, 0),
  (3, .aload_n 0, 0, 0, 0, 0),
  (4, .getfield 103, 10, 16, 0, 0),
  (7, .if_icmp .ge 34, 23, 0, 0, 0),
  (10, .aload_n 0, 0, 0, 0, 0),
  (11, .invokevirtual 93, 100, 10, 0, 0),
  (14, .ifCond .ne 4, 10, 0, 0, 0),
  (17, .return_, 0, 0, 0, 0),
  (18, .aload_n 0, 0, 0, 0, 0),
  (19, .getfield 16, 10, 2, 0, 0),
  (22, .aload_n 0, 0, 0, 0, 0),
  (23, .getfield 37, 10, 14, 0, 0),
  (26, .iload_n 1, 0, 0, 0, 0),
  (27, .iaload, 0, 0, 0, 0),
  (28, .aload_n 0, 0, 0, 0, 0),
  (29, .getfield 40, 10, 15, 0, 0),
  (32, .iload_n 1, 0, 0, 0, 0),
  (33, .iaload, 0, 0, 0, 0),
  (34, .iastore, 0, 0, 0, 0),
  (35, .iinc 1 1, 0, 0, 0, 1),
  (38, .goto (-36), 2, 0, 0, 0),
  (41, .aload_n 0, 0, 0, 0, 0),
  (42, .getfield 109, 10, 19, 0, 0),
  (45, .aload_n 0, 0, 0, 0, 0),
  (46, .getfield 106, 10, 18, 0, 0),
  (49, .if_icmp .ge 59, 58, 0, 0, 0),
  (52, .aload_n 0, 0, 0, 0, 0),
  (53, .invokevirtual 93, 100, 10, 0, 0),
  (56, .ifCond .eq 10, 34, 0, 0, 0),
  (59, .aload_n 0, 0, 0, 0, 0),
  (60, .invokevirtual 93, 100, 10, 0, 0),
  (63, .ifCond .ne 4, 35, 0, 0, 0),
  (66, .return_, 0, 0, 0, 0),
  (67, .aload_n 0, 0, 0, 0, 0),
  (68, .getfield 52, 10, 27, 0, 0),
  (71, .aload_n 0, 0, 0, 0, 0),
  (72, .getfield 121, 10, 28, 0, 0),
  (75, .aload_n 0, 0, 0, 0, 0),
  (76, .getfield 43, 10, 17, 0, 0),
  (79, .aload_n 0, 0, 0, 0, 0),
  (80, .getfield 109, 10, 19, 0, 0),
  (83, .iaload, 0, 0, 0, 0),
  (84, .iastore, 0, 0, 0, 0),
  (85, .aload_n 0, 0, 0, 0, 0),
  (86, .dup, 0, 0, 0, 0),
  (87, .getfield 121, 10, 28, 0, 0),
  (90, .iconst 1, 0, 0, 0, 1),
  (91, .iadd, 0, 0, 0, 0),
  (92, .putfield 121, 10, 28, 0, 0),
  (95, .aload_n 0, 0, 0, 0, 0),
  (96, .dup, 0, 0, 0, 0),
  (97, .getfield 109, 10, 19, 0, 0),
  (100, .iconst 1, 0, 0, 0, 1),
  (101, .iadd, 0, 0, 0, 0),
  (102, .putfield 109, 10, 19, 0, 0),
  (105, .goto (-64), 23, 0, 0, 0),
  (108, .aload_n 0, 0, 0, 0, 0),
  (109, .invokevirtual 93, 100, 10, 0, 0),
  (112, .ifCond .ne 4, 62, 0, 0, 0),
  (115, .return_, 0, 0, 0, 0),
  (116, .aload_n 0, 0, 0, 0, 0),
  (117, .iconst 0, 0, 0, 0, 0),
  (118, .putfield 124, 10, 24, 0, 0),
  (121, .aload_n 0, 0, 0, 0, 0),
  (122, .invokevirtual 93, 100, 10, 0, 0),
  (125, .ifCond .ne 4, 69, 0, 0, 0),
  (128, .return_, 0, 0, 0, 0),
  (129, .aload_n 0, 0, 0, 0, 0),
  (130, .iconst 0, 0, 0, 0, 0),
  (131, .putfield 115, 10, 21, 1, 0),
  (134, .aload_n 0, 0, 0, 0, 0),
  (135, .invokevirtual 72, 99, 10, 0, 0),
  (138, .aload_n 0, 0, 0, 0, 0),
  (139, .aload_n 0, 0, 0, 0, 0),
  (140, .getfield 112, 10, 20, 0, 0),
  (143, .ifCond .eq 7, 80, 0, 0, 0),
  (146, .iconst 3, 0, 0, 0, 3),
  (147, .goto 4, 81, 0, 0, 0),
  (150, .iconst 1, 0, 0, 0, 1),
  (151, .putfield 59, 10, 29, 0, 0),
  (154, .return_, 0, 0, 0, 0)]
set_option maxRecDepth 100000 in
def cd_103 : List xE := [(0, .iload_n 0, 0, 0, 0, 0),
  (1, .sipush 512, 0, 0, 0, 512),
  (4, .if_icmp .lt 14, 8, 0, 0, 0),
  (7, .iload_n 0, 0, 0, 0, 0),
  (8, .sipush 543, 0, 0, 0, 543),
  (11, .if_icmp .gt 7, 8, 0, 0, 0),
  (14, .iconst 1, 0, 0, 0, 1),
  (15, .goto 4, 9, 0, 0, 0),
  (18, .iconst 0, 0, 0, 0, 0),
  (19, .ireturn, 0, 0, 0, 0)]
set_option maxRecDepth 100000 in
def cd_104 : List xE := [(0, .iload_n 0, 0, 0, 0, 0),
  (1, .sipush 1024, 0, 0, 0, 1024),
  (4, .if_icmp .lt 14, 8, 0, 0, 0),
  (7, .iload_n 0, 0, 0, 0, 0),
  (8, .sipush 1279, 0, 0, 0, 1279),
  (11, .if_icmp .gt 7, 8, 0, 0, 0),
  (14, .iconst 1, 0, 0, 0, 1),
  (15, .goto 4, 9, 0, 0, 0),
  (18, .iconst 0, 0, 0, 0, 0),
  (19, .ireturn, 0, 0, 0, 0)]
set_option maxRecDepth 100000 in
def cd_105 : List xE := [(0, .aload_n 0, 0, 0, 0, 0),
  (1, .getfield 22, 10, 4, 0, 0),
  (4, .iload_n 1, 0, 0, 0, 0),
  (5, .iaload, 0, 0, 0, 0),
  (6, .ifCond .le 12, 10, 0, 0, 0),
  (9, .aload_n 0, 0, 0, 0, 0),
  (10, .getfield 25, 10, 5, 0, 0),
  (13, .iload_n 1, 0, 0, 0, 0),
  (14, .iaload, 0, 0, 0, 0),
  (15, .goto 9, 14, 0, 0, 0),
  (18, .aload_n 0, 0, 0, 0, 0),
  (19, .getfield 16, 10, 2, 0, 0),
  (22, .iload_n 1, 0, 0, 0, 0),
  (23, .iaload, 0, 0, 0, 0),
  (24, .ireturn, 0, 0, 0, 0)]
set_option maxRecDepth 100000 in
def cd_106 : List xE := [(0, .iload_n 1, 0, 0, 0, 0),
  (1, .invokestatic 127, 104, 0, 0, 0),
  (4, .ifCond .eq 49, 31, 0, 0, 0),
  (7, .iload_n 1, 0, 0, 0, 0),
  (8, .sipush 1024, 0, 0, 0, 1024),
  (11, .isub, 0, 0, 0, 0),
  (12, .iconst 2, 0, 0, 0, 2),
  (13, .idiv, 0, 0, 0, 0),
  (14, .istore_n 2, 0, 0, 0, 0),
  (15, .aload_n 0, 0, 0, 0, 0),
  (16, .getfield 19, 10, 3, 0, 0),
  (19, .iload_n 2, 0, 0, 0, 0),
  (20, .aload_n 0, 0, 0, 0, 0),
  (21, .getfield 55, 10, 30, 0, 0),
  (24, .ifCond .eq 16, 22, 0, 0, 0),
  (27, .aload_n 0, 0, 0, 0, 0),
  (28, .getfield 19, 10, 3, 0, 0),
  (31, .iload_n 2, 0, 0, 0, 0),
  (32, .iaload, 0, 0, 0, 0),
  (33, .ifCond .ne 7, 22, 0, 0, 0),
  (36, .iconst 1, 0, 0, 0, 1),
  (37, .goto 9, 26, 0, 0, 0),
  (40, .aload_n 0, 0, 0, 0, 0),
  (41, .getfield 19, 10, 3, 0, 0),
  (44, .iload_n 2, 0, 0, 0, 0),
  (45, .iaload, 0, 0, 0, 0),
  (46, .iastore, 0, 0, 0, 0),
  (47, .aload_n 0, 0, 0, 0, 0),
  (48, .iload_n 2, 0, 0, 0, 0),
  (49, .invokevirtual 131, 105, 10, 0, 0),
  (52, .ireturn, 0, 0, 0, 0),
  (53, .iload_n 1, 0, 0, 0, 0),
  (54, .invokestatic 135, 103, 0, 0, 0),
  (57, .ifCond .eq 18, 43, 0, 0, 0),
  (60, .aload_n 0, 0, 0, 0, 0),
  (61, .getfield 13, 10, 1, 0, 0),
  (64, .iload_n 1, 0, 0, 0, 0),
  (65, .sipush 512, 0, 0, 0, 512),
  (68, .isub, 0, 0, 0, 0),
  (69, .iconst 2, 0, 0, 0, 2),
  (70, .idiv, 0, 0, 0, 0),
  (71, .iaload, 0, 0, 0, 0),
  (72, .goto 4, 44, 0, 0, 0),
  (75, .iconst 0, 0, 0, 0, 0),
  (76, .ireturn, 0, 0, 0, 0)]
set_option maxRecDepth 100000 in
def cd_107 : List xE := [(0, .aload_n 0, 0, 0, 0, 0),
  (1, .dup, 0, 0, 0, 0),
  (2, .getfield 81, 10, 9, 0, 0),
  (5, .iconst 1, 0, 0, 0, 1),
  (6, .iadd, 0, 0, 0, 0),
  (7, .putfield 81, 10, 9, 0, 0),
  (10, .aload_n 0, 0, 0, 0, 0),
  (11, .getfield 124, 10, 24, 0, 0),
  (14, .aload_n 0, 0, 0, 0, 0),
  (15, .getfield 81, 10, 9, 0, 0),
  (18, .if_icmp .lt 15, 19, 0, 0, 0),
  (21, .aload_n 0, 0, 0, 0, 0),
  (22, .getfield 46, 10, 23, 0, 0),
  (25, .aload_n 0, 0, 0, 0, 0),
  (26, .getfield 81, 10, 9, 0, 0),
  (29, .iconst 1, 0, 0, 0, 1),
  (30, .isub, 0, 0, 0, 0),
  (31, .iaload, 0, 0, 0, 0),
  (32, .ireturn, 0, 0, 0, 0),
  (33, .aload_n 0, 0, 0, 0, 0),
  (34, .getfield 55, 10, 30, 0, 0),
  (37, .ifCond .ne 5, 24, 0, 0, 0),
  (40, .iconst 0, 0, 0, 0, 0),
  (41, .ireturn, 0, 0, 0, 0),
  (42, .aload_n 0, 0, 0, 0, 0),
  (43, .getfield 138, 10, 26, 0, 0),
  (46, .ifCond .le 12, 32, 0, 0, 0),
  (49, .aload_n 0, 0, 0, 0, 0),
  (50, .getfield 49, 10, 25, 0, 0),
  (53, .iconst 0, 0, 0, 0, 0),
  (54, .iaload, 0, 0, 0, 0),
  (55, .goto 5, 33, 0, 0, 0),
  (58, .ldc 141, 0, 0, 0, 65535),
  (60, .istore_n 1, 0, 0, 0, 0),
  (61, .iconst 1, 0, 0, 0, 1),
  (62, .istore_n 2, 0, 0, 0, 0),
  (63, .iload_n 2, 0, 0, 0, 0),
  (64, .aload_n 0, 0, 0, 0, 0),
  (65, .getfield 138, 10, 26, 0, 0),
  (68, .if_icmp .ge 23, 52, 0, 0, 0),
  (71, .aload_n 0, 0, 0, 0, 0),
  (72, .getfield 49, 10, 25, 0, 0),
  (75, .iload_n 2, 0, 0, 0, 0),
  (76, .iconst 1, 0, 0, 0, 1),
  (77, .isub, 0, 0, 0, 0),
  (78, .aload_n 0, 0, 0, 0, 0),
  (79, .getfield 49, 10, 25, 0, 0),
  (82, .iload_n 2, 0, 0, 0, 0),
  (83, .iaload, 0, 0, 0, 0),
  (84, .iastore, 0, 0, 0, 0),
  (85, .iinc 2 1, 0, 0, 0, 1),
  (88, .goto (-25), 36, 0, 0, 0),
  (91, .aload_n 0, 0, 0, 0, 0),
  (92, .aload_n 0, 0, 0, 0, 0),
  (93, .getfield 138, 10, 26, 0, 0),
  (96, .ifCond .le 12, 61, 0, 0, 0),
  (99, .aload_n 0, 0, 0, 0, 0),
  (100, .getfield 138, 10, 26, 0, 0),
  (103, .iconst 1, 0, 0, 0, 1),
  (104, .isub, 0, 0, 0, 0),
  (105, .goto 4, 62, 0, 0, 0),
  (108, .iconst 0, 0, 0, 0, 0),
  (109, .putfield 138, 10, 26, 0, 0),
  (112, .aload_n 0, 0, 0, 0, 0),
  (113, .invokevirtual 93, 100, 10, 0, 0),
  (116, .ifCond .ne 5, 68, 0, 0, 0),
  (119, .iconst 0, 0, 0, 0, 0),
  (120, .ireturn, 0, 0, 0, 0),
  (121, .aload_n 0, 0, 0, 0, 0),
  (122, .getfield 46, 10, 23, 0, 0),
  (125, .aload_n 0, 0, 0, 0, 0),
  (126, .getfield 81, 10, 9, 0, 0),
  (129, .iconst 1, 0, 0, 0, 1),
  (130, .isub, 0, 0, 0, 0),
  (131, .iload_n 1, 0, 0, 0, 0),
  (132, .iastore, 0, 0, 0, 0),
  (133, .aload_n 0, 0, 0, 0, 0),
  (134, .invokevirtual 93, 100, 10, 0, 0),
  (137, .ifCond .ne 5, 81, 0, 0, 0),
  (140, .iconst 0, 0, 0, 0, 0),
  (141, .ireturn, 0, 0, 0, 0),
  (142, .aload_n 0, 0, 0, 0, 0),
  (143, .aload_n 0, 0, 0, 0, 0),
  (144, .getfield 81, 10, 9, 0, 0),
  (147, .putfield 124, 10, 24, 0, 0),
  (150, .iload_n 1, 0, 0, 0, 0),
  (151, .ireturn, 0, 0, 0, 0)]
set_option maxRecDepth 100000 in
def cd_108 : List xE := [(0, .iload_n 1, 0, 0, 0, 0),
  (1, .bipush 16, 0, 0, 0, 16),
  (3, .if_icmp .eq 9, 6, 0, 0, 0),
  (6, .iload_n 1, 0, 0, 0, 0),
  (7, .bipush 17, 0, 0, 0, 17),
  (9, .if_icmp .ne 10, 9, 0, 0, 0),
  (12, .aload_n 0, 0, 0, 0, 0),
  (13, .invokevirtual 142, 107, 10, 0, 0),
  (16, .goto 8, 12, 0, 0, 0),
  (19, .aload_n 0, 0, 0, 0, 0),
  (20, .iload_n 1, 0, 0, 0, 0),
  (21, .invokevirtual 146, 106, 10, 0, 0),
  (24, .istore_n 3, 0, 0, 0, 0),
  (25, .iload_n 2, 0, 0, 0, 0),
  (26, .ifCond .ne 7, 17, 0, 0, 0),
  (29, .iload_n 3, 0, 0, 0, 0),
  (30, .goto 22, 28, 0, 0, 0),
  (33, .iload_n 1, 0, 0, 0, 0),
  (34, .iconst 2, 0, 0, 0, 2),
  (35, .irem, 0, 0, 0, 0),
  (36, .ifCond .ne 11, 25, 0, 0, 0),
  (39, .iload_n 3, 0, 0, 0, 0),
  (40, .sipush 256, 0, 0, 0, 256),
  (43, .irem, 0, 0, 0, 0),
  (44, .goto 8, 28, 0, 0, 0),
  (47, .iload_n 3, 0, 0, 0, 0),
  (48, .sipush 256, 0, 0, 0, 256),
  (51, .idiv, 0, 0, 0, 0),
  (52, .ireturn, 0, 0, 0, 0)]
set_option maxRecDepth 100000 in
def cd_109 : List xE := [(0, .iload_n 3, 0, 0, 0, 0),
  (1, .ifCond .ne 7, 4, 0, 0, 0),
  (4, .iload_n 2, 0, 0, 0, 0),
  (5, .goto 34, 23, 0, 0, 0),
  (8, .iload_n 1, 0, 0, 0, 0),
  (9, .iconst 2, 0, 0, 0, 2),
  (10, .irem, 0, 0, 0, 0),
  (11, .ifCond .ne 17, 16, 0, 0, 0),
  (14, .iload_n 0, 0, 0, 0, 0),
  (15, .sipush 256, 0, 0, 0, 256),
  (18, .idiv, 0, 0, 0, 0),
  (19, .sipush 256, 0, 0, 0, 256),
  (22, .imul, 0, 0, 0, 0),
  (23, .iload_n 2, 0, 0, 0, 0),
  (24, .iadd, 0, 0, 0, 0),
  (25, .goto 14, 23, 0, 0, 0),
  (28, .iload_n 2, 0, 0, 0, 0),
  (29, .sipush 256, 0, 0, 0, 256),
  (32, .imul, 0, 0, 0, 0),
  (33, .iload_n 0, 0, 0, 0, 0),
  (34, .sipush 256, 0, 0, 0, 256),
  (37, .irem, 0, 0, 0, 0),
  (38, .iadd, 0, 0, 0, 0),
  (39, .ireturn, 0, 0, 0, 0)]
set_option maxRecDepth 100000 in
def cd_110 : List xE := [(0, .aload_n 0, 0, 0, 0, 0),
  (1, .getfield 55, 10, 30, 0, 0),
  (4, .ifCond .ne 4, 4, 0, 0, 0),
  (7, .return_, 0, 0, 0, 0),
  (8, .iload_n 1, 0, 0, 0, 0),
  (9, .invokestatic 135, 103, 0, 0, 0),
  (12, .ifCond .eq 35, 26, 0, 0, 0),
  (15, .iload_n 1, 0, 0, 0, 0),
  (16, .sipush 512, 0, 0, 0, 512),
  (19, .isub, 0, 0, 0, 0),
  (20, .iconst 2, 0, 0, 0, 2),
  (21, .idiv, 0, 0, 0, 0),
  (22, .istore 4, 0, 0, 0, 0),
  (24, .aload_n 0, 0, 0, 0, 0),
  (25, .getfield 13, 10, 1, 0, 0),
  (28, .iload 4, 0, 0, 0, 0),
  (30, .aload_n 0, 0, 0, 0, 0),
  (31, .getfield 13, 10, 1, 0, 0),
  (34, .iload 4, 0, 0, 0, 0),
  (36, .iaload, 0, 0, 0, 0),
  (37, .iload_n 1, 0, 0, 0, 0),
  (38, .iload_n 2, 0, 0, 0, 0),
  (39, .iload_n 3, 0, 0, 0, 0),
  (40, .invokestatic 149, 109, 0, 0, 0),
  (43, .iastore, 0, 0, 0, 0),
  (44, .goto 118, 87, 0, 0, 0),
  (47, .iload_n 1, 0, 0, 0, 0),
  (48, .invokestatic 127, 104, 0, 0, 0),
  (51, .ifCond .eq 44, 52, 0, 0, 0),
  (54, .iload_n 1, 0, 0, 0, 0),
  (55, .sipush 1024, 0, 0, 0, 1024),
  (58, .isub, 0, 0, 0, 0),
  (59, .iconst 2, 0, 0, 0, 2),
  (60, .idiv, 0, 0, 0, 0),
  (61, .istore 4, 0, 0, 0, 0),
  (63, .iload_n 3, 0, 0, 0, 0),
  (64, .ifCond .eq 11, 41, 0, 0, 0),
  (67, .aload_n 0, 0, 0, 0, 0),
  (68, .iload_n 1, 0, 0, 0, 0),
  (69, .invokevirtual 146, 106, 10, 0, 0),
  (72, .goto 4, 42, 0, 0, 0),
  (75, .iconst 0, 0, 0, 0, 0),
  (76, .istore 5, 0, 0, 0, 0),
  (78, .aload_n 0, 0, 0, 0, 0),
  (79, .iload 4, 0, 0, 0, 0),
  (81, .iload 5, 0, 0, 0, 0),
  (83, .iload_n 1, 0, 0, 0, 0),
  (84, .iload_n 2, 0, 0, 0, 0),
  (85, .iload_n 3, 0, 0, 0, 0),
  (86, .invokestatic 149, 109, 0, 0, 0),
  (89, .invokevirtual 153, 111, 10, 0, 0),
  (92, .goto 70, 87, 0, 0, 0),
  (95, .iload_n 1, 0, 0, 0, 0),
  (96, .bipush 18, 0, 0, 0, 18),
  (98, .if_icmp .eq 9, 58, 0, 0, 0),
  (101, .iload_n 1, 0, 0, 0, 0),
  (102, .bipush 19, 0, 0, 0, 19),
  (104, .if_icmp .ne 41, 78, 0, 0, 0),
  (107, .aload_n 0, 0, 0, 0, 0),
  (108, .getfield 121, 10, 28, 0, 0),
  (111, .aload_n 0, 0, 0, 0, 0),
  (112, .getfield 78, 10, 8, 0, 0),
  (115, .iadd, 0, 0, 0, 0),
  (116, .sipush 200, 0, 0, 0, 200),
  (119, .if_icmp .ge 43, 87, 0, 0, 0),
  (122, .aload_n 0, 0, 0, 0, 0),
  (123, .getfield 28, 10, 7, 0, 0),
  (126, .aload_n 0, 0, 0, 0, 0),
  (127, .getfield 78, 10, 8, 0, 0),
  (130, .iload_n 2, 0, 0, 0, 0),
  (131, .iastore, 0, 0, 0, 0),
  (132, .aload_n 0, 0, 0, 0, 0),
  (133, .dup, 0, 0, 0, 0),
  (134, .getfield 78, 10, 8, 0, 0),
  (137, .iconst 1, 0, 0, 0, 1),
  (138, .iadd, 0, 0, 0, 0),
  (139, .putfield 78, 10, 8, 0, 0),
  (142, .goto 20, 87, 0, 0, 0),
  (145, .iload_n 1, 0, 0, 0, 0),
  (146, .bipush 20, 0, 0, 0, 20),
  (148, .if_icmp .eq 9, 84, 0, 0, 0),
  (151, .iload_n 1, 0, 0, 0, 0),
  (152, .bipush 21, 0, 0, 0, 21),
  (154, .if_icmp .ne 8, 87, 0, 0, 0),
  (157, .aload_n 0, 0, 0, 0, 0),
  (158, .iconst 1, 0, 0, 0, 1),
  (159, .putfield 84, 10, 11, 1, 0),
  (162, .return_, 0, 0, 0, 0)]
set_option maxRecDepth 100000 in
def cd_111 : List xE := [(0, .aload_n 0, 0, 0, 0, 0),
  (1, .getfield 19, 10, 3, 0, 0),
  (4, .iload_n 1, 0, 0, 0, 0),
  (5, .iaload, 0, 0, 0, 0),
  (6, .iconst 1, 0, 0, 0, 1),
  (7, .if_icmp .ne 40, 29, 0, 0, 0),
  (10, .aload_n 0, 0, 0, 0, 0),
  (11, .getfield 22, 10, 4, 0, 0),
  (14, .iload_n 1, 0, 0, 0, 0),
  (15, .iaload, 0, 0, 0, 0),
  (16, .ifCond .ne 23, 23, 0, 0, 0),
  (19, .aload_n 0, 0, 0, 0, 0),
  (20, .dup, 0, 0, 0, 0),
  (21, .getfield 75, 10, 6, 0, 0),
  (24, .iconst 1, 0, 0, 0, 1),
  (25, .iadd, 0, 0, 0, 0),
  (26, .putfield 75, 10, 6, 0, 0),
  (29, .aload_n 0, 0, 0, 0, 0),
  (30, .getfield 22, 10, 4, 0, 0),
  (33, .iload_n 1, 0, 0, 0, 0),
  (34, .aload_n 0, 0, 0, 0, 0),
  (35, .getfield 75, 10, 6, 0, 0),
  (38, .iastore, 0, 0, 0, 0),
  (39, .aload_n 0, 0, 0, 0, 0),
  (40, .getfield 25, 10, 5, 0, 0),
  (43, .iload_n 1, 0, 0, 0, 0),
  (44, .iload_n 2, 0, 0, 0, 0),
  (45, .iastore, 0, 0, 0, 0),
  (46, .return_, 0, 0, 0, 0),
  (47, .aload_n 0, 0, 0, 0, 0),
  (48, .getfield 19, 10, 3, 0, 0),
  (51, .iload_n 1, 0, 0, 0, 0),
  (52, .iconst 2, 0, 0, 0, 2),
  (53, .iastore, 0, 0, 0, 0),
  (54, .aload_n 0, 0, 0, 0, 0),
  (55, .invokevirtual 93, 100, 10, 0, 0),
  (58, .ifCond .eq 10, 42, 0, 0, 0),
  (61, .aload_n 0, 0, 0, 0, 0),
  (62, .getfield 16, 10, 2, 0, 0),
  (65, .iload_n 1, 0, 0, 0, 0),
  (66, .iload_n 2, 0, 0, 0, 0),
  (67, .iastore, 0, 0, 0, 0),
  (68, .return_, 0, 0, 0, 0)]
set_option maxRecDepth 100000 in
def cd_112 : List xE := [(0, .aload_n 0, 0, 0, 0, 0),
  (1, .aload_n 0, 0, 0, 0, 0),
  (2, .getfield 7, 10, 0, 0, 0),
  (5, .iconst 0, 0, 0, 0, 0),
  (6, .iaload, 0, 0, 0, 0),
  (7, .invokevirtual 146, 106, 10, 0, 0),
  (10, .istore_n 1, 0, 0, 0, 0),
  (11, .aload_n 0, 0, 0, 0, 0),
  (12, .getfield 7, 10, 0, 0, 0),
  (15, .iconst 0, 0, 0, 0, 0),
  (16, .aload_n 0, 0, 0, 0, 0),
  (17, .getfield 7, 10, 0, 0, 0),
  (20, .iconst 0, 0, 0, 0, 0),
  (21, .iaload, 0, 0, 0, 0),
  (22, .iconst 2, 0, 0, 0, 2),
  (23, .iadd, 0, 0, 0, 0),
  (24, .ldc 157, 0, 0, 0, 65536),
  (26, .irem, 0, 0, 0, 0),
  (27, .iastore, 0, 0, 0, 0),
  (28, .iload_n 1, 0, 0, 0, 0),
  (29, .ireturn, 0, 0, 0, 0)]
set_option maxRecDepth 100000 in
def cd_113 : List xE := [(0, .aload_n 0, 0, 0, 0, 0),
  (1, .getfield 7, 10, 0, 0, 0),
  (4, .iload_n 1, 0, 0, 0, 0),
  (5, .iload_n 1, 0, 0, 0, 0),
  (6, .iconst 2, 0, 0, 0, 2),
  (7, .if_icmp .ge 11, 12, 0, 0, 0),
  (10, .iload_n 2, 0, 0, 0, 0),
  (11, .iconst 2, 0, 0, 0, 2),
  (12, .idiv, 0, 0, 0, 0),
  (13, .iconst 2, 0, 0, 0, 2),
  (14, .imul, 0, 0, 0, 0),
  (15, .goto 26, 25, 0, 0, 0),
  (18, .iload_n 1, 0, 0, 0, 0),
  (19, .iconst 2, 0, 0, 0, 2),
  (20, .if_icmp .ne 11, 19, 0, 0, 0),
  (23, .iload_n 2, 0, 0, 0, 0),
  (24, .sipush 263, 0, 0, 0, 263),
  (27, .iand, 0, 0, 0, 0),
  (28, .goto 13, 25, 0, 0, 0),
  (31, .iload_n 1, 0, 0, 0, 0),
  (32, .iconst 3, 0, 0, 0, 3),
  (33, .if_icmp .ne 7, 24, 0, 0, 0),
  (36, .iconst 0, 0, 0, 0, 0),
  (37, .goto 4, 25, 0, 0, 0),
  (40, .iload_n 2, 0, 0, 0, 0),
  (41, .iastore, 0, 0, 0, 0),
  (42, .return_, 0, 0, 0, 0)]
set_option maxRecDepth 100000 in
def cd_114 : List xE := [(0, .aload_n 0, 0, 0, 0, 0),
  (1, .getfield 7, 10, 0, 0, 0),
  (4, .iconst 2, 0, 0, 0, 2),
  (5, .iaload, 0, 0, 0, 0),
  (6, .iload_n 1, 0, 0, 0, 0),
  (7, .iand, 0, 0, 0, 0),
  (8, .ifCond .eq 7, 9, 0, 0, 0),
  (11, .iconst 1, 0, 0, 0, 1),
  (12, .goto 4, 10, 0, 0, 0),
  (15, .iconst 0, 0, 0, 0, 0),
  (16, .ireturn, 0, 0, 0, 0)]
set_option maxRecDepth 100000 in
def cd_115 : List xE := [(0, .iload_n 1, 0, 0, 0, 0),
  (1, .ifCond .ne 12, 7, 0, 0, 0),
  (4, .aload_n 0, 0, 0, 0, 0),
  (5, .getfield 7, 10, 0, 0, 0),
  (8, .iconst 0, 0, 0, 0, 0),
  (9, .iaload, 0, 0, 0, 0),
  (10, .goto 23, 19, 0, 0, 0),
  (13, .iload_n 1, 0, 0, 0, 0),
  (14, .iconst 2, 0, 0, 0, 2),
  (15, .if_icmp .eq 8, 13, 0, 0, 0),
  (18, .iload_n 1, 0, 0, 0, 0),
  (19, .iconst 3, 0, 0, 0, 3),
  (20, .if_icmp .ne 7, 15, 0, 0, 0),
  (23, .iconst 0, 0, 0, 0, 0),
  (24, .goto 9, 19, 0, 0, 0),
  (27, .aload_n 0, 0, 0, 0, 0),
  (28, .getfield 7, 10, 0, 0, 0),
  (31, .iload_n 1, 0, 0, 0, 0),
  (32, .iaload, 0, 0, 0, 0),
  (33, .istore_n 2, 0, 0, 0, 0),
  (34, .aload_n 0, 0, 0, 0, 0),
  (35, .invokevirtual 158, 112, 10, 0, 0),
  (38, .istore_n 3, 0, 0, 0, 0),
  (39, .iload_n 3, 0, 0, 0, 0),
  (40, .iload_n 2, 0, 0, 0, 0),
  (41, .iadd, 0, 0, 0, 0),
  (42, .ldc 157, 0, 0, 0, 65536),
  (44, .irem, 0, 0, 0, 0),
  (45, .ireturn, 0, 0, 0, 0)]
set_option maxRecDepth 100000 in
def cd_116 : List xE := [(0, .iload_n 3, 0, 0, 0, 0),
  (1, .ifCond .eq 9, 4, 0, 0, 0),
  (4, .sipush 256, 0, 0, 0, 256),
  (7, .goto 5, 5, 0, 0, 0),
  (10, .ldc 157, 0, 0, 0, 65536),
  (12, .istore 4, 0, 0, 0, 0),
  (14, .aload_n 0, 0, 0, 0, 0),
  (15, .iconst 0, 0, 0, 0, 0),
  (16, .putfield 161, 10, 35, 0, 0),
  (19, .iload_n 1, 0, 0, 0, 0),
  (20, .iconst 3, 0, 0, 0, 3),
  (21, .if_icmp .ne 18, 21, 0, 0, 0),
  (24, .iload_n 2, 0, 0, 0, 0),
  (25, .iconst 3, 0, 0, 0, 3),
  (26, .if_icmp .ne 8, 17, 0, 0, 0),
  (29, .ldc 141, 0, 0, 0, 65535),
  (31, .goto 4, 18, 0, 0, 0),
  (34, .iload_n 2, 0, 0, 0, 0),
  (35, .iload 4, 0, 0, 0, 0),
  (37, .irem, 0, 0, 0, 0),
  (38, .ireturn, 0, 0, 0, 0),
  (39, .iload_n 1, 0, 0, 0, 0),
  (40, .iconst 2, 0, 0, 0, 2),
  (41, .if_icmp .ne 14, 33, 0, 0, 0),
  (44, .iload_n 2, 0, 0, 0, 0),
  (45, .iconst 1, 0, 0, 0, 1),
  (46, .if_icmp .le 9, 33, 0, 0, 0),
  (49, .iconst 4, 0, 0, 0, 4),
  (50, .iload_n 2, 0, 0, 0, 0),
  (51, .iconst 1, 0, 0, 0, 1),
  (52, .isub, 0, 0, 0, 0),
  (53, .imul, 0, 0, 0, 0),
  (54, .ireturn, 0, 0, 0, 0),
  (55, .iload_n 2, 0, 0, 0, 0),
  (56, .ifCond .ne 23, 48, 0, 0, 0),
  (59, .aload_n 0, 0, 0, 0, 0),
  (60, .iconst 1, 0, 0, 0, 1),
  (61, .putfield 161, 10, 35, 0, 0),
  (64, .aload_n 0, 0, 0, 0, 0),
  (65, .iload_n 1, 0, 0, 0, 0),
  (66, .putfield 164, 10, 36, 0, 0),
  (69, .aload_n 0, 0, 0, 0, 0),
  (70, .getfield 7, 10, 0, 0, 0),
  (73, .iload_n 1, 0, 0, 0, 0),
  (74, .iaload, 0, 0, 0, 0),
  (75, .iload 4, 0, 0, 0, 0),
  (77, .irem, 0, 0, 0, 0),
  (78, .ireturn, 0, 0, 0, 0),
  (79, .iload_n 1, 0, 0, 0, 0),
  (80, .ifCond .ne 16, 58, 0, 0, 0),
  (83, .iload_n 2, 0, 0, 0, 0),
  (84, .iconst 3, 0, 0, 0, 3),
  (85, .if_icmp .ne 11, 58, 0, 0, 0),
  (88, .aload_n 0, 0, 0, 0, 0),
  (89, .invokevirtual 158, 112, 10, 0, 0),
  (92, .iload 4, 0, 0, 0, 0),
  (94, .irem, 0, 0, 0, 0),
  (95, .ireturn, 0, 0, 0, 0),
  (96, .aload_n 0, 0, 0, 0, 0),
  (97, .iconst 2, 0, 0, 0, 2),
  (98, .putfield 161, 10, 35, 0, 0),
  (101, .iload_n 2, 0, 0, 0, 0),
  (102, .iconst 1, 0, 0, 0, 1),
  (103, .if_icmp .ne 11, 68, 0, 0, 0),
  (106, .aload_n 0, 0, 0, 0, 0),
  (107, .iload_n 1, 0, 0, 0, 0),
  (108, .invokevirtual 167, 115, 10, 0, 0),
  (111, .goto 9, 72, 0, 0, 0),
  (114, .aload_n 0, 0, 0, 0, 0),
  (115, .getfield 7, 10, 0, 0, 0),
  (118, .iload_n 1, 0, 0, 0, 0),
  (119, .iaload, 0, 0, 0, 0),
  (120, .istore 5, 0, 0, 0, 0),
  (122, .aload_n 0, 0, 0, 0, 0),
  (123, .iload 5, 0, 0, 0, 0),
  (125, .putfield 164, 10, 36, 0, 0),
  (128, .aload_n 0, 0, 0, 0, 0),
  (129, .iload 5, 0, 0, 0, 0),
  (131, .iload_n 3, 0, 0, 0, 0),
  (132, .invokevirtual 170, 108, 10, 0, 0),
  (135, .istore 6, 0, 0, 0, 0),
  (137, .iload_n 2, 0, 0, 0, 0),
  (138, .iconst 3, 0, 0, 0, 3),
  (139, .if_icmp .ne 29, 100, 0, 0, 0),
  (142, .aload_n 0, 0, 0, 0, 0),
  (143, .getfield 7, 10, 0, 0, 0),
  (146, .iload_n 1, 0, 0, 0, 0),
  (147, .iload 5, 0, 0, 0, 0),
  (149, .iload_n 3, 0, 0, 0, 0),
  (150, .ifCond .eq 12, 95, 0, 0, 0),
  (153, .iload_n 1, 0, 0, 0, 0),
  (154, .iconst 1, 0, 0, 0, 1),
  (155, .if_icmp .eq 7, 95, 0, 0, 0),
  (158, .iconst 1, 0, 0, 0, 1),
  (159, .goto 4, 96, 0, 0, 0),
  (162, .iconst 2, 0, 0, 0, 2),
  (163, .iadd, 0, 0, 0, 0),
  (164, .ldc 157, 0, 0, 0, 65536),
  (166, .irem, 0, 0, 0, 0),
  (167, .iastore, 0, 0, 0, 0),
  (168, .iload 6, 0, 0, 0, 0),
  (170, .ireturn, 0, 0, 0, 0)]
set_option maxRecDepth 100000 in
def cd_117 : List xE := [(0, .aload_n 0, 0, 0, 0, 0),
  (1, .getfield 161, 10, 35, 0, 0),
  (4, .iconst 1, 0, 0, 0, 1),
  (5, .if_icmp .ne 15, 10, 0, 0, 0),
  (8, .aload_n 0, 0, 0, 0, 0),
  (9, .aload_n 0, 0, 0, 0, 0),
  (10, .getfield 164, 10, 36, 0, 0),
  (13, .iload_n 1, 0, 0, 0, 0),
  (14, .invokevirtual 174, 113, 10, 0, 0),
  (17, .goto 21, 20, 0, 0, 0),
  (20, .aload_n 0, 0, 0, 0, 0),
  (21, .getfield 161, 10, 35, 0, 0),
  (24, .iconst 2, 0, 0, 0, 2),
  (25, .if_icmp .ne 13, 20, 0, 0, 0),
  (28, .aload_n 0, 0, 0, 0, 0),
  (29, .aload_n 0, 0, 0, 0, 0),
  (30, .getfield 164, 10, 36, 0, 0),
  (33, .iload_n 1, 0, 0, 0, 0),
  (34, .iload_n 2, 0, 0, 0, 0),
  (35, .invokevirtual 177, 110, 10, 0, 0),
  (38, .return_, 0, 0, 0, 0)]
set_option maxRecDepth 100000 in
def cd_118 : List xE := [(0, .iload_n 3, 0, 0, 0, 0),
  (1, .ifCond .ne 7, 4, 0, 0, 0),
  (4, .iconst 2, 0, 0, 0, 2),
  (5, .goto 4, 5, 0, 0, 0),
  (8, .iconst 0, 0, 0, 0, 0),
  (9, .istore 5, 0, 0, 0, 0),
  (11, .iload_n 3, 0, 0, 0, 0),
  (12, .iload 4, 0, 0, 0, 0),
  (14, .ifCond .eq 9, 11, 0, 0, 0),
  (17, .sipush 128, 0, 0, 0, 128),
  (20, .goto 5, 12, 0, 0, 0),
  (23, .ldc 181, 0, 0, 0, 32768),
  (25, .if_icmp .lt 7, 15, 0, 0, 0),
  (28, .iconst 4, 0, 0, 0, 4),
  (29, .goto 4, 16, 0, 0, 0),
  (32, .iconst 0, 0, 0, 0, 0),
  (33, .istore 6, 0, 0, 0, 0),
  (35, .aload_n 0, 0, 0, 0, 0),
  (36, .getfield 7, 10, 0, 0, 0),
  (39, .iconst 2, 0, 0, 0, 2),
  (40, .iload_n 1, 0, 0, 0, 0),
  (41, .iload 5, 0, 0, 0, 0),
  (43, .iadd, 0, 0, 0, 0),
  (44, .iload 6, 0, 0, 0, 0),
  (46, .iadd, 0, 0, 0, 0),
  (47, .sipush 256, 0, 0, 0, 256),
  (50, .iload_n 2, 0, 0, 0, 0),
  (51, .imul, 0, 0, 0, 0),
  (52, .iadd, 0, 0, 0, 0),
  (53, .iastore, 0, 0, 0, 0),
  (54, .return_, 0, 0, 0, 0)]
set_option maxRecDepth 100000 in
def cd_119 : List xE := [(0, .iload_n 0, 0, 0, 0, 0),
  (1, .iload_n 1, 0, 0, 0, 0),
  (2, .iconst 2, 0, 0, 0, 2),
  (3, .idiv, 0, 0, 0, 0),
  (4, .if_icmp .lt 9, 9, 0, 0, 0),
  (7, .iload_n 0, 0, 0, 0, 0),
  (8, .iload_n 1, 0, 0, 0, 0),
  (9, .isub, 0, 0, 0, 0),
  (10, .goto 4, 10, 0, 0, 0),
  (13, .iload_n 0, 0, 0, 0, 0),
  (14, .ireturn, 0, 0, 0, 0)]
set_option maxRecDepth 100000 in
def cd_120 : List xE := [(0, .aload_n 0, 0, 0, 0, 0),
  (1, .invokevirtual 158, 112, 10, 0, 0),
  (4, .istore_n 1, 0, 0, 0, 0),
  (5, .iload_n 1, 0, 0, 0, 0),
  (6, .sipush 4096, 0, 0, 0, 4096),
  (9, .idiv, 0, 0, 0, 0),
  (10, .istore_n 2, 0, 0, 0, 0),
  (11, .iload_n 2, 0, 0, 0, 0),
  (12, .iconst 3, 0, 0, 0, 3),
  (13, .if_icmp .le 12, 15, 0, 0, 0),
  (16, .aload_n 0, 0, 0, 0, 0),
  (17, .iload_n 2, 0, 0, 0, 0),
  (18, .iload_n 1, 0, 0, 0, 0),
  (19, .invokevirtual 182, 122, 10, 0, 0),
  (22, .goto 38, 35, 0, 0, 0),
  (25, .iload_n 2, 0, 0, 0, 0),
  (26, .iconst 1, 0, 0, 0, 1),
  (27, .if_icmp .le 11, 22, 0, 0, 0),
  (30, .aload_n 0, 0, 0, 0, 0),
  (31, .iload_n 1, 0, 0, 0, 0),
  (32, .invokevirtual 185, 121, 10, 0, 0),
  (35, .goto 25, 35, 0, 0, 0),
  (38, .iload_n 1, 0, 0, 0, 0),
  (39, .sipush 1024, 0, 0, 0, 1024),
  (42, .idiv, 0, 0, 0, 0),
  (43, .iconst 4, 0, 0, 0, 4),
  (44, .if_icmp .ne 16, 35, 0, 0, 0),
  (47, .aload_n 0, 0, 0, 0, 0),
  (48, .iload_n 1, 0, 0, 0, 0),
  (49, .sipush 128, 0, 0, 0, 128),
  (52, .idiv, 0, 0, 0, 0),
  (53, .bipush 8, 0, 0, 0, 8),
  (55, .irem, 0, 0, 0, 0),
  (56, .iload_n 1, 0, 0, 0, 0),
  (57, .invokevirtual 189, 127, 10, 0, 0),
  (60, .return_, 0, 0, 0, 0)]
set_option maxRecDepth 100000 in
def cd_121 : List xE := [(0, .aload_n 0, 0, 0, 0, 0),
  (1, .iconst 4, 0, 0, 0, 4),
  (2, .invokevirtual 192, 114, 10, 0, 0),
  (5, .istore_n 2, 0, 0, 0, 0),
  (6, .aload_n 0, 0, 0, 0, 0),
  (7, .sipush 256, 0, 0, 0, 256),
  (10, .invokevirtual 192, 114, 10, 0, 0),
  (13, .istore_n 3, 0, 0, 0, 0),
  (14, .iload_n 1, 0, 0, 0, 0),
  (15, .sipush 1024, 0, 0, 0, 1024),
  (18, .idiv, 0, 0, 0, 0),
  (19, .bipush 8, 0, 0, 0, 8),
  (21, .irem, 0, 0, 0, 0),
  (22, .istore 4, 0, 0, 0, 0),
  (24, .iload 4, 0, 0, 0, 0),
  (26, .ifCond .ne 19, 24, 0, 0, 0),
  (29, .aload_n 0, 0, 0, 0, 0),
  (30, .iconst 2, 0, 0, 0, 2),
  (31, .invokevirtual 192, 114, 10, 0, 0),
  (34, .ifCond .ne 7, 22, 0, 0, 0),
  (37, .iconst 1, 0, 0, 0, 1),
  (38, .goto 134, 90, 0, 0, 0),
  (41, .iconst 0, 0, 0, 0, 0),
  (42, .goto 130, 90, 0, 0, 0),
  (45, .iload 4, 0, 0, 0, 0),
  (47, .iconst 1, 0, 0, 0, 1),
  (48, .if_icmp .ne 20, 36, 0, 0, 0),
  (51, .aload_n 0, 0, 0, 0, 0),
  (52, .iconst 2, 0, 0, 0, 2),
  (53, .invokevirtual 192, 114, 10, 0, 0),
  (56, .iconst 1, 0, 0, 0, 1),
  (57, .if_icmp .ne 7, 34, 0, 0, 0),
  (60, .iconst 1, 0, 0, 0, 1),
  (61, .goto 111, 90, 0, 0, 0),
  (64, .iconst 0, 0, 0, 0, 0),
  (65, .goto 107, 90, 0, 0, 0),
  (68, .iload 4, 0, 0, 0, 0),
  (70, .iconst 2, 0, 0, 0, 2),
  (71, .if_icmp .ne 19, 47, 0, 0, 0),
  (74, .aload_n 0, 0, 0, 0, 0),
  (75, .iconst 1, 0, 0, 0, 1),
  (76, .invokevirtual 192, 114, 10, 0, 0),
  (79, .ifCond .ne 7, 45, 0, 0, 0),
  (82, .iconst 1, 0, 0, 0, 1),
  (83, .goto 89, 90, 0, 0, 0),
  (86, .iconst 0, 0, 0, 0, 0),
  (87, .goto 85, 90, 0, 0, 0),
  (90, .iload 4, 0, 0, 0, 0),
  (92, .iconst 3, 0, 0, 0, 3),
  (93, .if_icmp .ne 20, 59, 0, 0, 0),
  (96, .aload_n 0, 0, 0, 0, 0),
  (97, .iconst 1, 0, 0, 0, 1),
  (98, .invokevirtual 192, 114, 10, 0, 0),
  (101, .iconst 1, 0, 0, 0, 1),
  (102, .if_icmp .ne 7, 57, 0, 0, 0),
  (105, .iconst 1, 0, 0, 0, 1),
  (106, .goto 66, 90, 0, 0, 0),
  (109, .iconst 0, 0, 0, 0, 0),
  (110, .goto 62, 90, 0, 0, 0),
  (113, .iload 4, 0, 0, 0, 0),
  (115, .iconst 4, 0, 0, 0, 4),
  (116, .if_icmp .ne 16, 69, 0, 0, 0),
  (119, .iload_n 2, 0, 0, 0, 0),
  (120, .iconst 1, 0, 0, 0, 1),
  (121, .if_icmp .ne 7, 67, 0, 0, 0),
  (124, .iconst 1, 0, 0, 0, 1),
  (125, .goto 47, 90, 0, 0, 0),
  (128, .iconst 0, 0, 0, 0, 0),
  (129, .goto 43, 90, 0, 0, 0),
  (132, .iload 4, 0, 0, 0, 0),
  (134, .iconst 5, 0, 0, 0, 5),
  (135, .if_icmp .ne 16, 79, 0, 0, 0),
  (138, .iload_n 2, 0, 0, 0, 0),
  (139, .iload_n 3, 0, 0, 0, 0),
  (140, .if_icmp .ne 7, 77, 0, 0, 0),
  (143, .iconst 1, 0, 0, 0, 1),
  (144, .goto 28, 90, 0, 0, 0),
  (147, .iconst 0, 0, 0, 0, 0),
  (148, .goto 24, 90, 0, 0, 0),
  (151, .iload 4, 0, 0, 0, 0),
  (153, .bipush 6, 0, 0, 0, 6),
  (155, .if_icmp .ne 16, 89, 0, 0, 0),
  (158, .iload_n 2, 0, 0, 0, 0),
  (159, .iload_n 3, 0, 0, 0, 0),
  (160, .if_icmp .eq 7, 87, 0, 0, 0),
  (163, .iconst 1, 0, 0, 0, 1),
  (164, .goto 8, 90, 0, 0, 0),
  (167, .iconst 0, 0, 0, 0, 0),
  (168, .goto 4, 90, 0, 0, 0),
  (171, .iconst 1, 0, 0, 0, 1),
  (172, .istore 5, 0, 0, 0, 0),
  (174, .iload_n 1, 0, 0, 0, 0),
  (175, .sipush 1024, 0, 0, 0, 1024),
  (178, .irem, 0, 0, 0, 0),
  (179, .sipush 1024, 0, 0, 0, 1024),
  (182, .invokestatic 195, 119, 0, 0, 0),
  (185, .istore 6, 0, 0, 0, 0),
  (187, .aload_n 0, 0, 0, 0, 0),
  (188, .getfield 7, 10, 0, 0, 0),
  (191, .iconst 0, 0, 0, 0, 0),
  (192, .iload 5, 0, 0, 0, 0),
  (194, .ifCond .eq 23, 115, 0, 0, 0),
  (197, .aload_n 0, 0, 0, 0, 0),
  (198, .getfield 7, 10, 0, 0, 0),
  (201, .iconst 0, 0, 0, 0, 0),
  (202, .iaload, 0, 0, 0, 0),
  (203, .iconst 2, 0, 0, 0, 2),
  (204, .iload 6, 0, 0, 0, 0),
  (206, .imul, 0, 0, 0, 0),
  (207, .iadd, 0, 0, 0, 0),
  (208, .ldc 157, 0, 0, 0, 65536),
  (210, .iadd, 0, 0, 0, 0),
  (211, .ldc 157, 0, 0, 0, 65536),
  (213, .irem, 0, 0, 0, 0),
  (214, .goto 9, 119, 0, 0, 0),
  (217, .aload_n 0, 0, 0, 0, 0),
  (218, .getfield 7, 10, 0, 0, 0),
  (221, .iconst 0, 0, 0, 0, 0),
  (222, .iaload, 0, 0, 0, 0),
  (223, .iastore, 0, 0, 0, 0),
  (224, .return_, 0, 0, 0, 0)]
set_option maxRecDepth 100000 in
def cd_122 : List xE := [(0, .iload_n 2, 0, 0, 0, 0),
  (1, .bipush 64, 0, 0, 0, 64),
  (3, .idiv, 0, 0, 0, 0),
  (4, .iconst 2, 0, 0, 0, 2),
  (5, .irem, 0, 0, 0, 0),
  (6, .iconst 1, 0, 0, 0, 1),
  (7, .if_icmp .ne 7, 9, 0, 0, 0),
  (10, .iconst 1, 0, 0, 0, 1),
  (11, .goto 4, 10, 0, 0, 0),
  (14, .iconst 0, 0, 0, 0, 0),
  (15, .istore_n 3, 0, 0, 0, 0),
  (16, .iload_n 2, 0, 0, 0, 0),
  (17, .bipush 16, 0, 0, 0, 16),
  (19, .irem, 0, 0, 0, 0),
  (20, .istore 4, 0, 0, 0, 0),
  (22, .aload_n 0, 0, 0, 0, 0),
  (23, .iload_n 2, 0, 0, 0, 0),
  (24, .sipush 256, 0, 0, 0, 256),
  (27, .idiv, 0, 0, 0, 0),
  (28, .bipush 16, 0, 0, 0, 16),
  (30, .irem, 0, 0, 0, 0),
  (31, .iload_n 2, 0, 0, 0, 0),
  (32, .bipush 16, 0, 0, 0, 16),
  (34, .idiv, 0, 0, 0, 0),
  (35, .iconst 4, 0, 0, 0, 4),
  (36, .irem, 0, 0, 0, 0),
  (37, .iload_n 3, 0, 0, 0, 0),
  (38, .invokevirtual 199, 116, 10, 0, 0),
  (41, .istore 5, 0, 0, 0, 0),
  (43, .iload_n 2, 0, 0, 0, 0),
  (44, .sipush 128, 0, 0, 0, 128),
  (47, .idiv, 0, 0, 0, 0),
  (48, .iconst 2, 0, 0, 0, 2),
  (49, .irem, 0, 0, 0, 0),
  (50, .iconst 1, 0, 0, 0, 1),
  (51, .if_icmp .ne 7, 38, 0, 0, 0),
  (54, .iconst 1, 0, 0, 0, 1),
  (55, .goto 4, 39, 0, 0, 0),
  (58, .iconst 0, 0, 0, 0, 0),
  (59, .istore 6, 0, 0, 0, 0),
  (61, .iload_n 3, 0, 0, 0, 0),
  (62, .ifCond .eq 9, 44, 0, 0, 0),
  (65, .sipush 256, 0, 0, 0, 256),
  (68, .goto 5, 45, 0, 0, 0),
  (71, .ldc 157, 0, 0, 0, 65536),
  (73, .istore 7, 0, 0, 0, 0),
  (75, .aload_n 0, 0, 0, 0, 0),
  (76, .iload 6, 0, 0, 0, 0),
  (78, .ifCond .eq 7, 51, 0, 0, 0),
  (81, .iconst 2, 0, 0, 0, 2),
  (82, .goto 4, 52, 0, 0, 0),
  (85, .iconst 1, 0, 0, 0, 1),
  (86, .putfield 161, 10, 35, 0, 0),
  (89, .aload_n 0, 0, 0, 0, 0),
  (90, .iload 4, 0, 0, 0, 0),
  (92, .putfield 164, 10, 36, 0, 0),
  (95, .iconst 0, 0, 0, 0, 0),
  (96, .istore 8, 0, 0, 0, 0),
  (98, .iload 6, 0, 0, 0, 0),
  (100, .ifCond .eq 36, 77, 0, 0, 0),
  (103, .aload_n 0, 0, 0, 0, 0),
  (104, .aload_n 0, 0, 0, 0, 0),
  (105, .iload 4, 0, 0, 0, 0),
  (107, .invokevirtual 167, 115, 10, 0, 0),
  (110, .putfield 164, 10, 36, 0, 0),
  (113, .iload_n 1, 0, 0, 0, 0),
  (114, .iconst 4, 0, 0, 0, 4),
  (115, .if_icmp .ne 7, 70, 0, 0, 0),
  (118, .iconst 0, 0, 0, 0, 0),
  (119, .goto 12, 75, 0, 0, 0),
  (122, .aload_n 0, 0, 0, 0, 0),
  (123, .aload_n 0, 0, 0, 0, 0),
  (124, .getfield 164, 10, 36, 0, 0),
  (127, .iload_n 3, 0, 0, 0, 0),
  (128, .invokevirtual 170, 108, 10, 0, 0),
  (131, .istore 8, 0, 0, 0, 0),
  (133, .goto 15, 84, 0, 0, 0),
  (136, .aload_n 0, 0, 0, 0, 0),
  (137, .getfield 7, 10, 0, 0, 0),
  (140, .iload 4, 0, 0, 0, 0),
  (142, .iaload, 0, 0, 0, 0),
  (143, .iload 7, 0, 0, 0, 0),
  (145, .irem, 0, 0, 0, 0),
  (146, .istore 8, 0, 0, 0, 0),
  (148, .iload_n 1, 0, 0, 0, 0),
  (149, .iconst 4, 0, 0, 0, 4),
  (150, .if_icmp .ne 8, 89, 0, 0, 0),
  (153, .iload 5, 0, 0, 0, 0),
  (155, .goto 50, 114, 0, 0, 0),
  (158, .iload_n 1, 0, 0, 0, 0),
  (159, .bipush 10, 0, 0, 0, 10),
  (161, .if_icmp .ge 16, 99, 0, 0, 0),
  (164, .aload_n 0, 0, 0, 0, 0),
  (165, .iload_n 1, 0, 0, 0, 0),
  (166, .iload 5, 0, 0, 0, 0),
  (168, .iload 8, 0, 0, 0, 0),
  (170, .iload_n 3, 0, 0, 0, 0),
  (171, .invokevirtual 203, 124, 10, 0, 0),
  (174, .goto 31, 114, 0, 0, 0),
  (177, .iload_n 1, 0, 0, 0, 0),
  (178, .bipush 10, 0, 0, 0, 10),
  (180, .if_icmp .ne 15, 108, 0, 0, 0),
  (183, .aload_n 0, 0, 0, 0, 0),
  (184, .iload 5, 0, 0, 0, 0),
  (186, .iload 8, 0, 0, 0, 0),
  (188, .iload_n 3, 0, 0, 0, 0),
  (189, .invokevirtual 206, 125, 10, 0, 0),
  (192, .goto 13, 114, 0, 0, 0),
  (195, .aload_n 0, 0, 0, 0, 0),
  (196, .iload_n 1, 0, 0, 0, 0),
  (197, .iload 5, 0, 0, 0, 0),
  (199, .iload 8, 0, 0, 0, 0),
  (201, .iload_n 3, 0, 0, 0, 0),
  (202, .invokevirtual 209, 126, 10, 0, 0),
  (205, .istore 9, 0, 0, 0, 0),
  (207, .iload_n 1, 0, 0, 0, 0),
  (208, .bipush 9, 0, 0, 0, 9),
  (210, .if_icmp .eq 16, 125, 0, 0, 0),
  (213, .iload_n 1, 0, 0, 0, 0),
  (214, .bipush 11, 0, 0, 0, 11),
  (216, .if_icmp .eq 10, 125, 0, 0, 0),
  (219, .aload_n 0, 0, 0, 0, 0),
  (220, .iload 9, 0, 0, 0, 0),
  (222, .iload_n 3, 0, 0, 0, 0),
  (223, .invokevirtual 212, 117, 10, 0, 0),
  (226, .return_, 0, 0, 0, 0)]
set_option maxRecDepth 100000 in
def cd_123 : List xE := [(0, .iload_n 1, 0, 0, 0, 0),
  (1, .ifCond .eq 23, 12, 0, 0, 0),
  (4, .aload_n 0, 0, 0, 0, 0),
  (5, .getfield 161, 10, 35, 0, 0),
  (8, .iconst 1, 0, 0, 0, 1),
  (9, .if_icmp .ne 15, 12, 0, 0, 0),
  (12, .aload_n 0, 0, 0, 0, 0),
  (13, .getfield 164, 10, 36, 0, 0),
  (16, .iconst 2, 0, 0, 0, 2),
  (17, .if_icmp .ne 7, 12, 0, 0, 0),
  (20, .iconst 1, 0, 0, 0, 1),
  (21, .goto 4, 13, 0, 0, 0),
  (24, .iconst 0, 0, 0, 0, 0),
  (25, .ireturn, 0, 0, 0, 0)]
set_option maxRecDepth 100000 in
def cd_124 : List xE := [(0, .iload 4, 0, 0, 0, 0),
  (2, .ifCond .eq 9, 4, 0, 0, 0),
  (5, .sipush 256, 0, 0, 0, 256),
  (8, .goto 5, 5, 0, 0, 0),
  (11, .ldc 157, 0, 0, 0, 65536),
  (13, .istore 5, 0, 0, 0, 0),
  (15, .iload_n 1, 0, 0, 0, 0),
  (16, .bipush 7, 0, 0, 0, 7),
  (18, .if_icmp .ge 7, 11, 0, 0, 0),
  (21, .iload_n 2, 0, 0, 0, 0),
  (22, .goto 9, 16, 0, 0, 0),
  (25, .iload 5, 0, 0, 0, 0),
  (27, .iconst 1, 0, 0, 0, 1),
  (28, .isub, 0, 0, 0, 0),
  (29, .iload_n 2, 0, 0, 0, 0),
  (30, .isub, 0, 0, 0, 0),
  (31, .istore 6, 0, 0, 0, 0),
  (33, .iload_n 1, 0, 0, 0, 0),
  (34, .bipush 6, 0, 0, 0, 6),
  (36, .if_icmp .eq 9, 23, 0, 0, 0),
  (39, .iload_n 1, 0, 0, 0, 0),
  (40, .bipush 7, 0, 0, 0, 7),
  (42, .if_icmp .ne 11, 27, 0, 0, 0),
  (45, .aload_n 0, 0, 0, 0, 0),
  (46, .iconst 1, 0, 0, 0, 1),
  (47, .invokevirtual 192, 114, 10, 0, 0),
  (50, .goto 13, 33, 0, 0, 0),
  (53, .iload_n 1, 0, 0, 0, 0),
  (54, .iconst 5, 0, 0, 0, 5),
  (55, .if_icmp .ne 7, 32, 0, 0, 0),
  (58, .iconst 0, 0, 0, 0, 0),
  (59, .goto 4, 33, 0, 0, 0),
  (62, .iconst 1, 0, 0, 0, 1),
  (63, .istore 7, 0, 0, 0, 0),
  (65, .iload_n 3, 0, 0, 0, 0),
  (66, .iload 6, 0, 0, 0, 0),
  (68, .iadd, 0, 0, 0, 0),
  (69, .iload 7, 0, 0, 0, 0),
  (71, .iadd, 0, 0, 0, 0),
  (72, .istore 8, 0, 0, 0, 0),
  (74, .iload_n 3, 0, 0, 0, 0),
  (75, .iload 5, 0, 0, 0, 0),
  (77, .invokestatic 195, 119, 0, 0, 0),
  (80, .iload 6, 0, 0, 0, 0),
  (82, .iload 5, 0, 0, 0, 0),
  (84, .invokestatic 195, 119, 0, 0, 0),
  (87, .iadd, 0, 0, 0, 0),
  (88, .iload 7, 0, 0, 0, 0),
  (90, .iadd, 0, 0, 0, 0),
  (91, .istore 9, 0, 0, 0, 0),
  (93, .iload 8, 0, 0, 0, 0),
  (95, .iload 5, 0, 0, 0, 0),
  (97, .irem, 0, 0, 0, 0),
  (98, .istore 10, 0, 0, 0, 0),
  (100, .aload_n 0, 0, 0, 0, 0),
  (101, .iload_n 1, 0, 0, 0, 0),
  (102, .bipush 9, 0, 0, 0, 9),
  (104, .if_icmp .eq 7, 60, 0, 0, 0),
  (107, .iconst 1, 0, 0, 0, 1),
  (108, .goto 4, 61, 0, 0, 0),
  (111, .iconst 0, 0, 0, 0, 0),
  (112, .invokevirtual 216, 123, 10, 0, 0),
  (115, .ifCond .ne 40, 81, 0, 0, 0),
  (118, .aload_n 0, 0, 0, 0, 0),
  (119, .iload 8, 0, 0, 0, 0),
  (121, .iload 5, 0, 0, 0, 0),
  (123, .if_icmp .lt 7, 69, 0, 0, 0),
  (126, .iconst 1, 0, 0, 0, 1),
  (127, .goto 4, 70, 0, 0, 0),
  (130, .iconst 0, 0, 0, 0, 0),
  (131, .iload 9, 0, 0, 0, 0),
  (133, .iload 10, 0, 0, 0, 0),
  (135, .iload 5, 0, 0, 0, 0),
  (137, .invokestatic 195, 119, 0, 0, 0),
  (140, .if_icmp .eq 7, 77, 0, 0, 0),
  (143, .iconst 1, 0, 0, 0, 1),
  (144, .goto 4, 78, 0, 0, 0),
  (147, .iconst 0, 0, 0, 0, 0),
  (148, .iload 10, 0, 0, 0, 0),
  (150, .iload 4, 0, 0, 0, 0),
  (152, .invokevirtual 220, 118, 10, 0, 0),
  (155, .iload 10, 0, 0, 0, 0),
  (157, .ireturn, 0, 0, 0, 0)]
set_option maxRecDepth 100000 in
def cd_125 : List xE := [(0, .aload_n 0, 0, 0, 0, 0),
  (1, .iconst 1, 0, 0, 0, 1),
  (2, .invokevirtual 192, 114, 10, 0, 0),
  (5, .istore 4, 0, 0, 0, 0),
  (7, .iconst 0, 0, 0, 0, 0),
  (8, .istore 5, 0, 0, 0, 0),
  (10, .iconst 1, 0, 0, 0, 1),
  (11, .istore 6, 0, 0, 0, 0),
  (13, .iconst 0, 0, 0, 0, 0),
  (14, .istore 7, 0, 0, 0, 0),
  (16, .iload 7, 0, 0, 0, 0),
  (18, .iload_n 3, 0, 0, 0, 0),
  (19, .ifCond .eq 7, 15, 0, 0, 0),
  (22, .iconst 2, 0, 0, 0, 2),
  (23, .goto 4, 16, 0, 0, 0),
  (26, .iconst 4, 0, 0, 0, 4),
  (27, .if_icmp .ge 78, 59, 0, 0, 0),
  (30, .iload_n 1, 0, 0, 0, 0),
  (31, .iload 6, 0, 0, 0, 0),
  (33, .idiv, 0, 0, 0, 0),
  (34, .bipush 16, 0, 0, 0, 16),
  (36, .irem, 0, 0, 0, 0),
  (37, .iload_n 2, 0, 0, 0, 0),
  (38, .iload 6, 0, 0, 0, 0),
  (40, .idiv, 0, 0, 0, 0),
  (41, .bipush 16, 0, 0, 0, 16),
  (43, .irem, 0, 0, 0, 0),
  (44, .iadd, 0, 0, 0, 0),
  (45, .iload 4, 0, 0, 0, 0),
  (47, .iadd, 0, 0, 0, 0),
  (48, .istore 8, 0, 0, 0, 0),
  (50, .iload 8, 0, 0, 0, 0),
  (52, .bipush 9, 0, 0, 0, 9),
  (54, .if_icmp .le 7, 36, 0, 0, 0),
  (57, .iconst 1, 0, 0, 0, 1),
  (58, .goto 4, 37, 0, 0, 0),
  (61, .iconst 0, 0, 0, 0, 0),
  (62, .istore 4, 0, 0, 0, 0),
  (64, .iload 5, 0, 0, 0, 0),
  (66, .iload 8, 0, 0, 0, 0),
  (68, .bipush 9, 0, 0, 0, 9),
  (70, .if_icmp .le 14, 48, 0, 0, 0),
  (73, .iload 8, 0, 0, 0, 0),
  (75, .bipush 6, 0, 0, 0, 6),
  (77, .iadd, 0, 0, 0, 0),
  (78, .bipush 16, 0, 0, 0, 16),
  (80, .irem, 0, 0, 0, 0),
  (81, .goto 5, 49, 0, 0, 0),
  (84, .iload 8, 0, 0, 0, 0),
  (86, .iload 6, 0, 0, 0, 0),
  (88, .imul, 0, 0, 0, 0),
  (89, .iadd, 0, 0, 0, 0),
  (90, .istore 5, 0, 0, 0, 0),
  (92, .iload 6, 0, 0, 0, 0),
  (94, .bipush 16, 0, 0, 0, 16),
  (96, .imul, 0, 0, 0, 0),
  (97, .istore 6, 0, 0, 0, 0),
  (99, .iinc 7 1, 0, 0, 0, 1),
  (102, .goto (-86), 10, 0, 0, 0),
  (105, .aload_n 0, 0, 0, 0, 0),
  (106, .iconst 1, 0, 0, 0, 1),
  (107, .invokevirtual 216, 123, 10, 0, 0),
  (110, .ifCond .ne 13, 69, 0, 0, 0),
  (113, .aload_n 0, 0, 0, 0, 0),
  (114, .iload 4, 0, 0, 0, 0),
  (116, .iconst 0, 0, 0, 0, 0),
  (117, .iload 5, 0, 0, 0, 0),
  (119, .iload_n 3, 0, 0, 0, 0),
  (120, .invokevirtual 220, 118, 10, 0, 0),
  (123, .iload 5, 0, 0, 0, 0),
  (125, .ireturn, 0, 0, 0, 0)]
set_option maxRecDepth 100000 in
def cd_126 : List xE := [(0, .iload 4, 0, 0, 0, 0),
  (2, .ifCond .eq 9, 4, 0, 0, 0),
  (5, .sipush 256, 0, 0, 0, 256),
  (8, .goto 5, 5, 0, 0, 0),
  (11, .ldc 157, 0, 0, 0, 65536),
  (13, .istore 5, 0, 0, 0, 0),
  (15, .iload_n 1, 0, 0, 0, 0),
  (16, .bipush 12, 0, 0, 0, 12),
  (18, .if_icmp .ne 14, 17, 0, 0, 0),
  (21, .iload_n 3, 0, 0, 0, 0),
  (22, .iload 5, 0, 0, 0, 0),
  (24, .iconst 1, 0, 0, 0, 1),
  (25, .isub, 0, 0, 0, 0),
  (26, .iload_n 2, 0, 0, 0, 0),
  (27, .isub, 0, 0, 0, 0),
  (28, .iand, 0, 0, 0, 0),
  (29, .goto 30, 34, 0, 0, 0),
  (32, .iload_n 1, 0, 0, 0, 0),
  (33, .bipush 13, 0, 0, 0, 13),
  (35, .if_icmp .ne 9, 24, 0, 0, 0),
  (38, .iload_n 3, 0, 0, 0, 0),
  (39, .iload_n 2, 0, 0, 0, 0),
  (40, .ior, 0, 0, 0, 0),
  (41, .goto 18, 34, 0, 0, 0),
  (44, .iload_n 1, 0, 0, 0, 0),
  (45, .bipush 14, 0, 0, 0, 14),
  (47, .if_icmp .ne 9, 31, 0, 0, 0),
  (50, .iload_n 3, 0, 0, 0, 0),
  (51, .iload_n 2, 0, 0, 0, 0),
  (52, .ixor, 0, 0, 0, 0),
  (53, .goto 6, 34, 0, 0, 0),
  (56, .iload_n 3, 0, 0, 0, 0),
  (57, .iload_n 2, 0, 0, 0, 0),
  (58, .iand, 0, 0, 0, 0),
  (59, .istore 6, 0, 0, 0, 0),
  (61, .iload_n 1, 0, 0, 0, 0),
  (62, .bipush 12, 0, 0, 0, 12),
  (64, .if_icmp .eq 13, 43, 0, 0, 0),
  (67, .iload_n 1, 0, 0, 0, 0),
  (68, .bipush 13, 0, 0, 0, 13),
  (70, .if_icmp .eq 7, 43, 0, 0, 0),
  (73, .iconst 1, 0, 0, 0, 1),
  (74, .goto 4, 44, 0, 0, 0),
  (77, .iconst 0, 0, 0, 0, 0),
  (78, .istore 7, 0, 0, 0, 0),
  (80, .iload_n 1, 0, 0, 0, 0),
  (81, .bipush 14, 0, 0, 0, 14),
  (83, .if_icmp .ne 23, 60, 0, 0, 0),
  (86, .iload_n 2, 0, 0, 0, 0),
  (87, .iload 5, 0, 0, 0, 0),
  (89, .iconst 2, 0, 0, 0, 2),
  (90, .idiv, 0, 0, 0, 0),
  (91, .if_icmp .lt 15, 60, 0, 0, 0),
  (94, .iload_n 3, 0, 0, 0, 0),
  (95, .iload 5, 0, 0, 0, 0),
  (97, .iconst 2, 0, 0, 0, 2),
  (98, .idiv, 0, 0, 0, 0),
  (99, .if_icmp .lt 7, 60, 0, 0, 0),
  (102, .iconst 1, 0, 0, 0, 1),
  (103, .goto 4, 61, 0, 0, 0),
  (106, .iconst 0, 0, 0, 0, 0),
  (107, .istore 8, 0, 0, 0, 0),
  (109, .iload 7, 0, 0, 0, 0),
  (111, .ifCond .eq 41, 83, 0, 0, 0),
  (114, .aload_n 0, 0, 0, 0, 0),
  (115, .iload_n 1, 0, 0, 0, 0),
  (116, .bipush 11, 0, 0, 0, 11),
  (118, .if_icmp .eq 7, 70, 0, 0, 0),
  (121, .iconst 1, 0, 0, 0, 1),
  (122, .goto 4, 71, 0, 0, 0),
  (125, .iconst 0, 0, 0, 0, 0),
  (126, .invokevirtual 216, 123, 10, 0, 0),
  (129, .ifCond .ne 23, 83, 0, 0, 0),
  (132, .aload_n 0, 0, 0, 0, 0),
  (133, .iload 6, 0, 0, 0, 0),
  (135, .ifCond .eq 7, 78, 0, 0, 0),
  (138, .iconst 1, 0, 0, 0, 1),
  (139, .goto 4, 79, 0, 0, 0),
  (142, .iconst 0, 0, 0, 0, 0),
  (143, .iload 8, 0, 0, 0, 0),
  (145, .iload 6, 0, 0, 0, 0),
  (147, .iload 4, 0, 0, 0, 0),
  (149, .invokevirtual 220, 118, 10, 0, 0),
  (152, .iload 6, 0, 0, 0, 0),
  (154, .ireturn, 0, 0, 0, 0)]
set_option maxRecDepth 100000 in
def cd_127 : List xE := [(0, .iload_n 1, 0, 0, 0, 0),
  (1, .bipush 7, 0, 0, 0, 7),
  (3, .if_icmp .ne 4, 4, 0, 0, 0),
  (6, .return_, 0, 0, 0, 0),
  (7, .iload_n 1, 0, 0, 0, 0),
  (8, .bipush 6, 0, 0, 0, 6),
  (10, .if_icmp .ne 76, 56, 0, 0, 0),
  (13, .aload_n 0, 0, 0, 0, 0),
  (14, .aload_n 0, 0, 0, 0, 0),
  (15, .getfield 7, 10, 0, 0, 0),
  (18, .iconst 1, 0, 0, 0, 1),
  (19, .iaload, 0, 0, 0, 0),
  (20, .iconst 0, 0, 0, 0, 0),
  (21, .invokevirtual 170, 108, 10, 0, 0),
  (24, .istore_n 3, 0, 0, 0, 0),
  (25, .aload_n 0, 0, 0, 0, 0),
  (26, .iconst 2, 0, 0, 0, 2),
  (27, .iload_n 3, 0, 0, 0, 0),
  (28, .invokevirtual 174, 113, 10, 0, 0),
  (31, .aload_n 0, 0, 0, 0, 0),
  (32, .getfield 7, 10, 0, 0, 0),
  (35, .iconst 1, 0, 0, 0, 1),
  (36, .aload_n 0, 0, 0, 0, 0),
  (37, .getfield 7, 10, 0, 0, 0),
  (40, .iconst 1, 0, 0, 0, 1),
  (41, .iaload, 0, 0, 0, 0),
  (42, .iconst 2, 0, 0, 0, 2),
  (43, .iadd, 0, 0, 0, 0),
  (44, .ldc 157, 0, 0, 0, 65536),
  (46, .irem, 0, 0, 0, 0),
  (47, .iastore, 0, 0, 0, 0),
  (48, .aload_n 0, 0, 0, 0, 0),
  (49, .aload_n 0, 0, 0, 0, 0),
  (50, .getfield 7, 10, 0, 0, 0),
  (53, .iconst 1, 0, 0, 0, 1),
  (54, .iaload, 0, 0, 0, 0),
  (55, .iconst 0, 0, 0, 0, 0),
  (56, .invokevirtual 170, 108, 10, 0, 0),
  (59, .istore 4, 0, 0, 0, 0),
  (61, .aload_n 0, 0, 0, 0, 0),
  (62, .iconst 0, 0, 0, 0, 0),
  (63, .iload 4, 0, 0, 0, 0),
  (65, .invokevirtual 174, 113, 10, 0, 0),
  (68, .aload_n 0, 0, 0, 0, 0),
  (69, .getfield 7, 10, 0, 0, 0),
  (72, .iconst 1, 0, 0, 0, 1),
  (73, .aload_n 0, 0, 0, 0, 0),
  (74, .getfield 7, 10, 0, 0, 0),
  (77, .iconst 1, 0, 0, 0, 1),
  (78, .iaload, 0, 0, 0, 0),
  (79, .iconst 2, 0, 0, 0, 2),
  (80, .iadd, 0, 0, 0, 0),
  (81, .ldc 157, 0, 0, 0, 65536),
  (83, .irem, 0, 0, 0, 0),
  (84, .iastore, 0, 0, 0, 0),
  (85, .return_, 0, 0, 0, 0),
  (86, .iload_n 2, 0, 0, 0, 0),
  (87, .bipush 64, 0, 0, 0, 64),
  (89, .idiv, 0, 0, 0, 0),
  (90, .iconst 2, 0, 0, 0, 2),
  (91, .irem, 0, 0, 0, 0),
  (92, .iconst 1, 0, 0, 0, 1),
  (93, .if_icmp .ne 13, 69, 0, 0, 0),
  (96, .iload_n 1, 0, 0, 0, 0),
  (97, .iconst 2, 0, 0, 0, 2),
  (98, .irem, 0, 0, 0, 0),
  (99, .ifCond .ne 7, 69, 0, 0, 0),
  (102, .iconst 1, 0, 0, 0, 1),
  (103, .goto 4, 70, 0, 0, 0),
  (106, .iconst 0, 0, 0, 0, 0),
  (107, .istore_n 3, 0, 0, 0, 0),
  (108, .aload_n 0, 0, 0, 0, 0),
  (109, .iload_n 2, 0, 0, 0, 0),
  (110, .bipush 16, 0, 0, 0, 16),
  (112, .irem, 0, 0, 0, 0),
  (113, .iload_n 2, 0, 0, 0, 0),
  (114, .bipush 16, 0, 0, 0, 16),
  (116, .idiv, 0, 0, 0, 0),
  (117, .iconst 4, 0, 0, 0, 4),
  (118, .irem, 0, 0, 0, 0),
  (119, .iload_n 3, 0, 0, 0, 0),
  (120, .invokevirtual 199, 116, 10, 0, 0),
  (123, .istore 4, 0, 0, 0, 0),
  (125, .iload_n 3, 0, 0, 0, 0),
  (126, .ifCond .eq 9, 87, 0, 0, 0),
  (129, .sipush 128, 0, 0, 0, 128),
  (132, .goto 5, 88, 0, 0, 0),
  (135, .ldc 181, 0, 0, 0, 32768),
  (137, .istore 5, 0, 0, 0, 0),
  (139, .iload_n 1, 0, 0, 0, 0),
  (140, .iconst 3, 0, 0, 0, 3),
  (141, .if_icmp .le 61, 128, 0, 0, 0),
  (144, .aload_n 0, 0, 0, 0, 0),
  (145, .getfield 7, 10, 0, 0, 0),
  (148, .iconst 1, 0, 0, 0, 1),
  (149, .aload_n 0, 0, 0, 0, 0),
  (150, .getfield 7, 10, 0, 0, 0),
  (153, .iconst 1, 0, 0, 0, 1),
  (154, .iaload, 0, 0, 0, 0),
  (155, .ldc 224, 0, 0, 0, 65534),
  (157, .iadd, 0, 0, 0, 0),
  (158, .ldc 157, 0, 0, 0, 65536),
  (160, .irem, 0, 0, 0, 0),
  (161, .iastore, 0, 0, 0, 0),
  (162, .aload_n 0, 0, 0, 0, 0),
  (163, .aload_n 0, 0, 0, 0, 0),
  (164, .getfield 7, 10, 0, 0, 0),
  (167, .iconst 1, 0, 0, 0, 1),
  (168, .iaload, 0, 0, 0, 0),
  (169, .iload_n 1, 0, 0, 0, 0),
  (170, .iconst 4, 0, 0, 0, 4),
  (171, .if_icmp .ne 8, 114, 0, 0, 0),
  (174, .iload 4, 0, 0, 0, 0),
  (176, .goto 9, 118, 0, 0, 0),
  (179, .aload_n 0, 0, 0, 0, 0),
  (180, .getfield 7, 10, 0, 0, 0),
  (183, .iconst 0, 0, 0, 0, 0),
  (184, .iaload, 0, 0, 0, 0),
  (185, .iload_n 3, 0, 0, 0, 0),
  (186, .invokevirtual 177, 110, 10, 0, 0),
  (189, .iload_n 1, 0, 0, 0, 0),
  (190, .iconst 5, 0, 0, 0, 5),
  (191, .if_icmp .ne 10, 127, 0, 0, 0),
  (194, .aload_n 0, 0, 0, 0, 0),
  (195, .iconst 0, 0, 0, 0, 0),
  (196, .iload 4, 0, 0, 0, 0),
  (198, .invokevirtual 174, 113, 10, 0, 0),
  (201, .return_, 0, 0, 0, 0),
  (202, .iload_n 1, 0, 0, 0, 0),
  (203, .iconst 1, 0, 0, 0, 1),
  (204, .if_icmp .ne 23, 141, 0, 0, 0),
  (207, .iload 4, 0, 0, 0, 0),
  (209, .sipush 256, 0, 0, 0, 256),
  (212, .irem, 0, 0, 0, 0),
  (213, .sipush 256, 0, 0, 0, 256),
  (216, .imul, 0, 0, 0, 0),
  (217, .iload 4, 0, 0, 0, 0),
  (219, .sipush 256, 0, 0, 0, 256),
  (222, .idiv, 0, 0, 0, 0),
  (223, .iadd, 0, 0, 0, 0),
  (224, .goto 62, 172, 0, 0, 0),
  (227, .iload_n 1, 0, 0, 0, 0),
  (228, .iconst 3, 0, 0, 0, 3),
  (229, .if_icmp .ne 24, 154, 0, 0, 0),
  (232, .iload 4, 0, 0, 0, 0),
  (234, .sipush 256, 0, 0, 0, 256),
  (237, .irem, 0, 0, 0, 0),
  (238, .sipush 256, 0, 0, 0, 256),
  (241, .invokestatic 195, 119, 0, 0, 0),
  (244, .ldc 157, 0, 0, 0, 65536),
  (246, .iadd, 0, 0, 0, 0),
  (247, .ldc 157, 0, 0, 0, 65536),
  (249, .irem, 0, 0, 0, 0),
  (250, .goto 36, 172, 0, 0, 0),
  (253, .iload 4, 0, 0, 0, 0),
  (255, .iconst 2, 0, 0, 0, 2),
  (256, .idiv, 0, 0, 0, 0),
  (257, .iload_n 1, 0, 0, 0, 0),
  (258, .ifCond .ne 14, 165, 0, 0, 0),
  (261, .aload_n 0, 0, 0, 0, 0),
  (262, .iconst 1, 0, 0, 0, 1),
  (263, .invokevirtual 192, 114, 10, 0, 0),
  (266, .iload 5, 0, 0, 0, 0),
  (268, .imul, 0, 0, 0, 0),
  (269, .goto 16, 171, 0, 0, 0),
  (272, .iload 4, 0, 0, 0, 0),
  (274, .iload 5, 0, 0, 0, 0),
  (276, .if_icmp .lt 8, 170, 0, 0, 0),
  (279, .iload 5, 0, 0, 0, 0),
  (281, .goto 4, 171, 0, 0, 0),
  (284, .iconst 0, 0, 0, 0, 0),
  (285, .iadd, 0, 0, 0, 0),
  (286, .istore 6, 0, 0, 0, 0),
  (288, .iload_n 1, 0, 0, 0, 0),
  (289, .iconst 1, 0, 0, 0, 1),
  (290, .if_icmp .eq 41, 197, 0, 0, 0),
  (293, .aload_n 0, 0, 0, 0, 0),
  (294, .iconst 1, 0, 0, 0, 1),
  (295, .invokevirtual 216, 123, 10, 0, 0),
  (298, .ifCond .ne 33, 197, 0, 0, 0),
  (301, .aload_n 0, 0, 0, 0, 0),
  (302, .iload_n 1, 0, 0, 0, 0),
  (303, .iconst 3, 0, 0, 0, 3),
  (304, .if_icmp .ne 16, 190, 0, 0, 0),
  (307, .iload 6, 0, 0, 0, 0),
  (309, .ifCond .eq 7, 188, 0, 0, 0),
  (312, .iconst 1, 0, 0, 0, 1),
  (313, .goto 11, 193, 0, 0, 0),
  (316, .iconst 0, 0, 0, 0, 0),
  (317, .goto 7, 193, 0, 0, 0),
  (320, .iload 4, 0, 0, 0, 0),
  (322, .iconst 2, 0, 0, 0, 2),
  (323, .irem, 0, 0, 0, 0),
  (324, .iconst 0, 0, 0, 0, 0),
  (325, .iload 6, 0, 0, 0, 0),
  (327, .iload_n 3, 0, 0, 0, 0),
  (328, .invokevirtual 220, 118, 10, 0, 0),
  (331, .aload_n 0, 0, 0, 0, 0),
  (332, .iload 6, 0, 0, 0, 0),
  (334, .iload_n 3, 0, 0, 0, 0),
  (335, .invokevirtual 212, 117, 10, 0, 0),
  (338, .return_, 0, 0, 0, 0)]
set_option maxRecDepth 100000 in
def cd_128 : List xE := [(0, .iconst 0, 0, 0, 0, 0),
  (1, .istore_n 1, 0, 0, 0, 0),
  (2, .iconst 0, 0, 0, 0, 0),
  (3, .istore_n 2, 0, 0, 0, 0),
  (4, .iload_n 2, 0, 0, 0, 0),
  (5, .sipush 128, 0, 0, 0, 128),
  (8, .if_icmp .ge 26, 20, 0, 0, 0),
  (11, .aload_n 0, 0, 0, 0, 0),
  (12, .getfield 19, 10, 3, 0, 0),
  (15, .iload_n 2, 0, 0, 0, 0),
  (16, .iaload, 0, 0, 0, 0),
  (17, .ifCond .le 9, 16, 0, 0, 0),
  (20, .iload_n 1, 0, 0, 0, 0),
  (21, .iconst 1, 0, 0, 0, 1),
  (22, .iadd, 0, 0, 0, 0),
  (23, .goto 4, 17, 0, 0, 0),
  (26, .iload_n 1, 0, 0, 0, 0),
  (27, .istore_n 1, 0, 0, 0, 0),
  (28, .iinc 2 1, 0, 0, 0, 1),
  (31, .goto (-27), 4, 0, 0, 0),
  (34, .iload_n 1, 0, 0, 0, 0),
  (35, .ireturn, 0, 0, 0, 0)]
set_option maxRecDepth 100000 in
def cd_129 : List xE := [(0, .aload_n 0, 0, 0, 0, 0),
  (1, .getfield 66, 10, 32, 0, 0),
  (4, .iconst 1, 0, 0, 0, 1),
  (5, .if_icmp .ne 9, 8, 0, 0, 0),
  (8, .aload_n 0, 0, 0, 0, 0),
  (9, .invokevirtual 87, 98, 10, 0, 0),
  (12, .iconst 0, 0, 0, 0, 0),
  (13, .ireturn, 0, 0, 0, 0),
  (14, .aload_n 0, 0, 0, 0, 0),
  (15, .aload_n 0, 0, 0, 0, 0),
  (16, .getfield 66, 10, 32, 0, 0),
  (19, .ifCond .le 12, 17, 0, 0, 0),
  (22, .aload_n 0, 0, 0, 0, 0),
  (23, .getfield 66, 10, 32, 0, 0),
  (26, .iconst 1, 0, 0, 0, 1),
  (27, .isub, 0, 0, 0, 0),
  (28, .goto 4, 18, 0, 0, 0),
  (31, .iconst 0, 0, 0, 0, 0),
  (32, .putfield 66, 10, 32, 0, 0),
  (35, .aload_n 0, 0, 0, 0, 0),
  (36, .invokevirtual 225, 128, 10, 0, 0),
  (39, .bipush 11, 0, 0, 0, 11),
  (41, .if_icmp .gt 27, 35, 0, 0, 0),
  (44, .aload_n 0, 0, 0, 0, 0),
  (45, .getfield 75, 10, 6, 0, 0),
  (48, .iconst 4, 0, 0, 0, 4),
  (49, .if_icmp .eq 19, 35, 0, 0, 0),
  (52, .aload_n 0, 0, 0, 0, 0),
  (53, .getfield 78, 10, 8, 0, 0),
  (56, .iconst 4, 0, 0, 0, 4),
  (57, .if_icmp .eq 11, 35, 0, 0, 0),
  (60, .aload_n 0, 0, 0, 0, 0),
  (61, .getfield 81, 10, 9, 0, 0),
  (64, .iconst 2, 0, 0, 0, 2),
  (65, .if_icmp .le 7, 37, 0, 0, 0),
  (68, .aload_n 0, 0, 0, 0, 0),
  (69, .invokevirtual 228, 101, 10, 0, 0),
  (72, .aload_n 0, 0, 0, 0, 0),
  (73, .getfield 55, 10, 30, 0, 0),
  (76, .ifCond .ne 5, 42, 0, 0, 0),
  (79, .iconst 0, 0, 0, 0, 0),
  (80, .ireturn, 0, 0, 0, 0),
  (81, .aload_n 0, 0, 0, 0, 0),
  (82, .invokevirtual 231, 120, 10, 0, 0),
  (85, .aload_n 0, 0, 0, 0, 0),
  (86, .getfield 55, 10, 30, 0, 0),
  (89, .ifCond .ne 5, 49, 0, 0, 0),
  (92, .iconst 0, 0, 0, 0, 0),
  (93, .ireturn, 0, 0, 0, 0),
  (94, .aload_n 0, 0, 0, 0, 0),
  (95, .dup, 0, 0, 0, 0),
  (96, .getfield 69, 10, 10, 0, 0),
  (99, .iconst 1, 0, 0, 0, 1),
  (100, .iadd, 0, 0, 0, 0),
  (101, .putfield 69, 10, 10, 0, 0),
  (104, .aload_n 0, 0, 0, 0, 0),
  (105, .getfield 84, 10, 11, 0, 0),
  (108, .ifCond .eq 7, 60, 0, 0, 0),
  (111, .aload_n 0, 0, 0, 0, 0),
  (112, .invokevirtual 228, 101, 10, 0, 0),
  (115, .aload_n 0, 0, 0, 0, 0),
  (116, .getfield 55, 10, 30, 0, 0),
  (119, .ireturn, 0, 0, 0, 0)]
set_option maxRecDepth 100000 in
def cd_130 : List xE := [(0, .aload_n 0, 0, 0, 0, 0),
  (1, .getfield 59, 10, 29, 0, 0),
  (4, .iconst 1, 0, 0, 0, 1),
  (5, .if_icmp .ne 14, 9, 0, 0, 0),
  (8, .iload_n 1, 0, 0, 0, 0),
  (9, .ifCond .lt 10, 9, 0, 0, 0),
  (12, .iload_n 1, 0, 0, 0, 0),
  (13, .sipush 200, 0, 0, 0, 200),
  (16, .if_icmp .le 5, 11, 0, 0, 0),
  (19, .iconst (-1), 0, 0, 0, (-1)),
  (20, .ireturn, 0, 0, 0, 0),
  (21, .iconst 0, 0, 0, 0, 0),
  (22, .istore_n 2, 0, 0, 0, 0),
  (23, .iconst 0, 0, 0, 0, 0),
  (24, .istore_n 3, 0, 0, 0, 0),
  (25, .iload_n 3, 0, 0, 0, 0),
  (26, .iload_n 1, 0, 0, 0, 0),
  (27, .if_icmp .ge 27, 28, 0, 0, 0),
  (30, .aload_n 0, 0, 0, 0, 0),
  (31, .getfield 59, 10, 29, 0, 0),
  (34, .iconst 1, 0, 0, 0, 1),
  (35, .if_icmp .ne 19, 28, 0, 0, 0),
  (38, .aload_n 0, 0, 0, 0, 0),
  (39, .invokevirtual 234, 129, 10, 0, 0),
  (42, .ifCond .eq 6, 26, 0, 0, 0),
  (45, .iinc 2 1, 0, 0, 0, 1),
  (48, .iinc 3 1, 0, 0, 0, 1),
  (51, .goto (-26), 15, 0, 0, 0),
  (54, .iload_n 2, 0, 0, 0, 0),
  (55, .ireturn, 0, 0, 0, 0)]
set_option maxRecDepth 100000 in
def cd_131 : List xE := [(0, .aload_n 0, 0, 0, 0, 0),
  (1, .getfield 59, 10, 29, 0, 0),
  (4, .iconst 2, 0, 0, 0, 2),
  (5, .if_icmp .eq 5, 6, 0, 0, 0),
  (8, .iconst 0, 0, 0, 0, 0),
  (9, .ireturn, 0, 0, 0, 0),
  (10, .aload_n 0, 0, 0, 0, 0),
  (11, .iconst 1, 0, 0, 0, 1),
  (12, .putfield 55, 10, 30, 1, 0),
  (15, .aload_n 0, 0, 0, 0, 0),
  (16, .iconst 1, 0, 0, 0, 1),
  (17, .putfield 59, 10, 29, 0, 0),
  (20, .aload_n 0, 0, 0, 0, 0),
  (21, .getfield 115, 10, 21, 0, 0),
  (24, .ifCond .eq 7, 17, 0, 0, 0),
  (27, .aload_n 0, 0, 0, 0, 0),
  (28, .invokevirtual 118, 102, 10, 0, 0),
  (31, .aload_n 0, 0, 0, 0, 0),
  (32, .getfield 55, 10, 30, 0, 0),
  (35, .ifCond .ne 5, 22, 0, 0, 0),
  (38, .iconst 0, 0, 0, 0, 0),
  (39, .ireturn, 0, 0, 0, 0),
  (40, .aload_n 0, 0, 0, 0, 0),
  (41, .aload_n 0, 0, 0, 0, 0),
  (42, .getfield 112, 10, 20, 0, 0),
  (45, .ifCond .eq 7, 28, 0, 0, 0),
  (48, .iconst 3, 0, 0, 0, 3),
  (49, .goto 4, 29, 0, 0, 0),
  (52, .iconst 1, 0, 0, 0, 1),
  (53, .putfield 59, 10, 29, 0, 0),
  (56, .iconst 0, 0, 0, 0, 0),
  (57, .istore_n 1, 0, 0, 0, 0),
  (58, .iload_n 1, 0, 0, 0, 0),
  (59, .bipush 16, 0, 0, 0, 16),
  (61, .if_icmp .ge 33, 53, 0, 0, 0),
  (64, .aload_n 0, 0, 0, 0, 0),
  (65, .getfield 7, 10, 0, 0, 0),
  (68, .iload_n 1, 0, 0, 0, 0),
  (69, .aload_n 0, 0, 0, 0, 0),
  (70, .getfield 31, 10, 12, 0, 0),
  (73, .iload_n 1, 0, 0, 0, 0),
  (74, .iaload, 0, 0, 0, 0),
  (75, .iastore, 0, 0, 0, 0),
  (76, .aload_n 0, 0, 0, 0, 0),
  (77, .getfield 13, 10, 1, 0, 0),
  (80, .iload_n 1, 0, 0, 0, 0),
  (81, .aload_n 0, 0, 0, 0, 0),
  (82, .getfield 34, 10, 13, 0, 0),
  (85, .iload_n 1, 0, 0, 0, 0),
  (86, .iaload, 0, 0, 0, 0),
  (87, .iastore, 0, 0, 0, 0),
  (88, .iinc 1 1, 0, 0, 0, 1),
  (91, .goto (-33), 32, 0, 0, 0),
  (94, .aload_n 0, 0, 0, 0, 0),
  (95, .invokevirtual 72, 99, 10, 0, 0),
  (98, .iconst 1, 0, 0, 0, 1),
  (99, .ireturn, 0, 0, 0, 0)]
set_option maxRecDepth 100000 in
def cd_132 : List xE := [(0, .iload_n 1, 0, 0, 0, 0),
  (1, .ifCond .lt 16, 8, 0, 0, 0),
  (4, .iload_n 1, 0, 0, 0, 0),
  (5, .bipush 127, 0, 0, 0, 127),
  (7, .if_icmp .gt 10, 8, 0, 0, 0),
  (10, .aload_n 0, 0, 0, 0, 0),
  (11, .getfield 59, 10, 29, 0, 0),
  (14, .ifCond .eq 5, 10, 0, 0, 0),
  (17, .iconst 0, 0, 0, 0, 0),
  (18, .ireturn, 0, 0, 0, 0),
  (19, .aload_n 0, 0, 0, 0, 0),
  (20, .getfield 16, 10, 2, 0, 0),
  (23, .iload_n 1, 0, 0, 0, 0),
  (24, .iload_n 2, 0, 0, 0, 0),
  (25, .ldc 141, 0, 0, 0, 65535),
  (27, .iand, 0, 0, 0, 0),
  (28, .iastore, 0, 0, 0, 0),
  (29, .iconst 1, 0, 0, 0, 1),
  (30, .ireturn, 0, 0, 0, 0)]
set_option maxRecDepth 100000 in
def cd_133 : List xE := [(0, .aload_n 0, 0, 0, 0, 0),
  (1, .getfield 59, 10, 29, 0, 0),
  (4, .ifCond .eq 5, 5, 0, 0, 0),
  (7, .iconst 0, 0, 0, 0, 0),
  (8, .ireturn, 0, 0, 0, 0),
  (9, .aload_n 0, 0, 0, 0, 0),
  (10, .getfield 7, 10, 0, 0, 0),
  (13, .iconst 0, 0, 0, 0, 0),
  (14, .iload_n 1, 0, 0, 0, 0),
  (15, .ldc 224, 0, 0, 0, 65534),
  (17, .iand, 0, 0, 0, 0),
  (18, .iastore, 0, 0, 0, 0),
  (19, .aload_n 0, 0, 0, 0, 0),
  (20, .getfield 31, 10, 12, 0, 0),
  (23, .iconst 0, 0, 0, 0, 0),
  (24, .aload_n 0, 0, 0, 0, 0),
  (25, .getfield 7, 10, 0, 0, 0),
  (28, .iconst 0, 0, 0, 0, 0),
  (29, .iaload, 0, 0, 0, 0),
  (30, .iastore, 0, 0, 0, 0),
  (31, .aload_n 0, 0, 0, 0, 0),
  (32, .iconst 1, 0, 0, 0, 1),
  (33, .putfield 55, 10, 30, 1, 0),
  (36, .aload_n 0, 0, 0, 0, 0),
  (37, .iconst 1, 0, 0, 0, 1),
  (38, .putfield 59, 10, 29, 0, 0),
  (41, .iconst 1, 0, 0, 0, 1),
  (42, .ireturn, 0, 0, 0, 0)]
set_option maxRecDepth 100000 in
def cd_134 : List xE := [(0, .aload_n 0, 0, 0, 0, 0),
  (1, .getfield 138, 10, 26, 0, 0),
  (4, .bipush 16, 0, 0, 0, 16),
  (6, .if_icmp .ne 5, 6, 0, 0, 0),
  (9, .iconst 0, 0, 0, 0, 0),
  (10, .ireturn, 0, 0, 0, 0),
  (11, .aload_n 0, 0, 0, 0, 0),
  (12, .getfield 49, 10, 25, 0, 0),
  (15, .aload_n 0, 0, 0, 0, 0),
  (16, .getfield 138, 10, 26, 0, 0),
  (19, .iload_n 1, 0, 0, 0, 0),
  (20, .ldc 141, 0, 0, 0, 65535),
  (22, .iand, 0, 0, 0, 0),
  (23, .iastore, 0, 0, 0, 0),
  (24, .aload_n 0, 0, 0, 0, 0),
  (25, .dup, 0, 0, 0, 0),
  (26, .getfield 138, 10, 26, 0, 0),
  (29, .iconst 1, 0, 0, 0, 1),
  (30, .iadd, 0, 0, 0, 0),
  (31, .putfield 138, 10, 26, 0, 0),
  (34, .iconst 1, 0, 0, 0, 1),
  (35, .ireturn, 0, 0, 0, 0)]
set_option maxRecDepth 100000 in
def cd_135 : List xE := [(0, .iload_n 1, 0, 0, 0, 0),
  (1, .ifCond .lt 10, 5, 0, 0, 0),
  (4, .iload_n 1, 0, 0, 0, 0),
  (5, .sipush 1000, 0, 0, 0, 1000),
  (8, .if_icmp .le 5, 7, 0, 0, 0),
  (11, .iconst 0, 0, 0, 0, 0),
  (12, .ireturn, 0, 0, 0, 0),
  (13, .aload_n 0, 0, 0, 0, 0),
  (14, .iload_n 1, 0, 0, 0, 0),
  (15, .putfield 63, 10, 31, 0, 0),
  (18, .iconst 1, 0, 0, 0, 1),
  (19, .ireturn, 0, 0, 0, 0)]
set_option maxRecDepth 100000 in
def cd_136 : List xE := [(0, .iload_n 1, 0, 0, 0, 0),
  (1, .ifCond .lt 10, 5, 0, 0, 0),
  (4, .iload_n 1, 0, 0, 0, 0),
  (5, .sipush 1000, 0, 0, 0, 1000),
  (8, .if_icmp .le 5, 7, 0, 0, 0),
  (11, .iconst 0, 0, 0, 0, 0),
  (12, .ireturn, 0, 0, 0, 0),
  (13, .aload_n 0, 0, 0, 0, 0),
  (14, .iload_n 1, 0, 0, 0, 0),
  (15, .putfield 66, 10, 32, 0, 0),
  (18, .iconst 1, 0, 0, 0, 1),
  (19, .ireturn, 0, 0, 0, 0)]
set_option maxRecDepth 100000 in
def cd_137 : List xE := [(0, .aload_n 0, 0, 0, 0, 0),
  (1, .getfield 59, 10, 29, 0, 0),
  (4, .ireturn, 0, 0, 0, 0)]
set_option maxRecDepth 100000 in
def cd_138 : List xE := [(0, .iload_n 1, 0, 0, 0, 0),
  (1, .ifCond .lt 17, 9, 0, 0, 0),
  (4, .iload_n 1, 0, 0, 0, 0),
  (5, .bipush 15, 0, 0, 0, 15),
  (7, .if_icmp .gt 11, 9, 0, 0, 0),
  (10, .aload_n 0, 0, 0, 0, 0),
  (11, .getfield 59, 10, 29, 0, 0),
  (14, .iconst 2, 0, 0, 0, 2),
  (15, .if_icmp .ne 7, 11, 0, 0, 0),
  (18, .iconst 0, 0, 0, 0, 0),
  (19, .goto 9, 15, 0, 0, 0),
  (22, .aload_n 0, 0, 0, 0, 0),
  (23, .getfield 7, 10, 0, 0, 0),
  (26, .iload_n 1, 0, 0, 0, 0),
  (27, .iaload, 0, 0, 0, 0),
  (28, .ireturn, 0, 0, 0, 0)]
set_option maxRecDepth 100000 in
def cd_139 : List xE := [(0, .iload_n 1, 0, 0, 0, 0),
  (1, .invokestatic 127, 104, 0, 0, 0),
  (4, .ifCond .eq 15, 11, 0, 0, 0),
  (7, .aload_n 0, 0, 0, 0, 0),
  (8, .iload_n 1, 0, 0, 0, 0),
  (9, .sipush 1024, 0, 0, 0, 1024),
  (12, .isub, 0, 0, 0, 0),
  (13, .iconst 2, 0, 0, 0, 2),
  (14, .idiv, 0, 0, 0, 0),
  (15, .invokevirtual 131, 105, 10, 0, 0),
  (18, .ireturn, 0, 0, 0, 0),
  (19, .iload_n 1, 0, 0, 0, 0),
  (20, .invokestatic 135, 103, 0, 0, 0),
  (23, .ifCond .eq 26, 27, 0, 0, 0),
  (26, .aload_n 0, 0, 0, 0, 0),
  (27, .getfield 59, 10, 29, 0, 0),
  (30, .iconst 2, 0, 0, 0, 2),
  (31, .if_icmp .eq 18, 27, 0, 0, 0),
  (34, .aload_n 0, 0, 0, 0, 0),
  (35, .getfield 13, 10, 1, 0, 0),
  (38, .iload_n 1, 0, 0, 0, 0),
  (39, .sipush 512, 0, 0, 0, 512),
  (42, .isub, 0, 0, 0, 0),
  (43, .iconst 2, 0, 0, 0, 2),
  (44, .idiv, 0, 0, 0, 0),
  (45, .iaload, 0, 0, 0, 0),
  (46, .goto 4, 28, 0, 0, 0),
  (49, .iconst 0, 0, 0, 0, 0),
  (50, .ireturn, 0, 0, 0, 0)]
set_option maxRecDepth 100000 in
def cd_140 : List xE := [(0, .iload_n 1, 0, 0, 0, 0),
  (1, .ifCond .lt 9, 5, 0, 0, 0),
  (4, .iload_n 1, 0, 0, 0, 0),
  (5, .bipush 127, 0, 0, 0, 127),
  (7, .if_icmp .le 7, 7, 0, 0, 0),
  (10, .iconst 0, 0, 0, 0, 0),
  (11, .goto 9, 11, 0, 0, 0),
  (14, .aload_n 0, 0, 0, 0, 0),
  (15, .getfield 16, 10, 2, 0, 0),
  (18, .iload_n 1, 0, 0, 0, 0),
  (19, .iaload, 0, 0, 0, 0),
  (20, .ireturn, 0, 0, 0, 0)]
set_option maxRecDepth 100000 in
def cd_141 : List xE := [(0, .iload_n 1, 0, 0, 0, 0),
  (1, .iconst (-1), 0, 0, 0, (-1)),
  (2, .if_icmp .ne 10, 6, 0, 0, 0),
  (5, .aload_n 0, 0, 0, 0, 0),
  (6, .getfield 121, 10, 28, 0, 0),
  (9, .goto 25, 18, 0, 0, 0),
  (12, .iload_n 1, 0, 0, 0, 0),
  (13, .ifCond .lt 11, 12, 0, 0, 0),
  (16, .iload_n 1, 0, 0, 0, 0),
  (17, .aload_n 0, 0, 0, 0, 0),
  (18, .getfield 121, 10, 28, 0, 0),
  (21, .if_icmp .lt 7, 14, 0, 0, 0),
  (24, .iconst 0, 0, 0, 0, 0),
  (25, .goto 9, 18, 0, 0, 0),
  (28, .aload_n 0, 0, 0, 0, 0),
  (29, .getfield 52, 10, 27, 0, 0),
  (32, .iload_n 1, 0, 0, 0, 0),
  (33, .iaload, 0, 0, 0, 0),
  (34, .ireturn, 0, 0, 0, 0)]
set_option maxRecDepth 100000 in
def cd_142 : List xE := [(0, .aload_n 0, 0, 0, 0, 0),
  (1, .getfield 138, 10, 26, 0, 0),
  (4, .ireturn, 0, 0, 0, 0)]
set_option maxRecDepth 100000 in
def cd_143 : List xE := [(0, .aload_n 0, 0, 0, 0, 0),
  (1, .getfield 90, 10, 33, 0, 0),
  (4, .ireturn, 0, 0, 0, 0)]
set_option maxRecDepth 100000 in
def cd_144 : List xE := [(0, .aload_n 0, 0, 0, 0, 0),
  (1, .getfield 97, 10, 34, 0, 0),
  (4, .ireturn, 0, 0, 0, 0)]
set_option maxRecDepth 100000 in
def cd_145 : List xE := [(0, .aload_n 0, 0, 0, 0, 0),
  (1, .getfield 100, 10, 22, 0, 0),
  (4, .aload_n 0, 0, 0, 0, 0),
  (5, .getfield 69, 10, 10, 0, 0),
  (8, .iadd, 0, 0, 0, 0),
  (9, .ireturn, 0, 0, 0, 0)]
set_option maxRecDepth 100000 in
def cd_146 : List xE := [(0, .aload_n 0, 0, 0, 0, 0),
  (1, .invokevirtual 225, 128, 10, 0, 0),
  (4, .bipush 32, 0, 0, 0, 32),
  (6, .aload_n 0, 0, 0, 0, 0),
  (7, .getfield 75, 10, 6, 0, 0),
  (10, .imul, 0, 0, 0, 0),
  (11, .iadd, 0, 0, 0, 0),
  (12, .sipush 256, 0, 0, 0, 256),
  (15, .aload_n 0, 0, 0, 0, 0),
  (16, .getfield 78, 10, 8, 0, 0),
  (19, .imul, 0, 0, 0, 0),
  (20, .iadd, 0, 0, 0, 0),
  (21, .sipush 2048, 0, 0, 0, 2048),
  (24, .aload_n 0, 0, 0, 0, 0),
  (25, .getfield 124, 10, 24, 0, 0),
  (28, .imul, 0, 0, 0, 0),
  (29, .iadd, 0, 0, 0, 0),
  (30, .ireturn, 0, 0, 0, 0)]
set_option maxRecDepth 100000 in
def cd_147 : List xE := [(0, .iconst 0, 0, 0, 0, 0),
  (1, .istore_n 2, 0, 0, 0, 0),
  (2, .aload_n 0, 0, 0, 0, 0),
  (3, .arraylength, 0, 0, 0, 0),
  (4, .istore_n 3, 0, 0, 0, 0),
  (5, .iload_n 2, 0, 0, 0, 0),
  (6, .iload_n 3, 0, 0, 0, 0),
  (7, .if_icmp .ge 13, 14, 0, 0, 0),
  (10, .aload_n 0, 0, 0, 0, 0),
  (11, .iload_n 2, 0, 0, 0, 0),
  (12, .iload_n 1, 0, 0, 0, 0),
  (13, .iastore, 0, 0, 0, 0),
  (14, .iinc 2 1, 0, 0, 0, 1),
  (17, .goto (-12), 5, 0, 0, 0),
  (20, .return_, 0, 0, 0, 0)]
set_option maxRecDepth 100000 in
def cd_148 : List xE := [(0, .new 7, 0, 8, 0, 0),
  (3, .dup, 0, 0, 0, 0),
  (4, .invokespecial 9, 0, 0, 0, 0),
  (7, .astore_n 1, 0, 0, 0, 0),
  (8, .new 10, 10, 37, 0, 0),
  (11, .dup, 0, 0, 0, 0),
  (12, .invokespecial 12, 97, 0, 0, 0),
  (15, .astore_n 2, 0, 0, 0, 0),
  (16, .iconst 0, 0, 0, 0, 0),
  (17, .istore_n 3, 0, 0, 0, 0),
  (18, .iload_n 3, 0, 0, 0, 0),
  (19, .aload_n 0, 0, 0, 0, 0),
  (20, .arraylength, 0, 0, 0, 0),
  (21, .iconst 3, 0, 0, 0, 3),
  (22, .isub, 0, 0, 0, 0),
  (23, .if_icmp .gt 430, 253, 0, 0, 0),
  (26, .aload_n 0, 0, 0, 0, 0),
  (27, .iload_n 3, 0, 0, 0, 0),
  (28, .iaload, 0, 0, 0, 0),
  (29, .bipush 31, 0, 0, 0, 31),
  (31, .iand, 0, 0, 0, 0),
  (32, .tableswitch 415 0 16 #[84, 117, 140, 163, 186, 209, 232, 245, 258, 281, 304, 327, 350, 363, 376, 389, 402], 251, 0, 84, 0),
  (116, .aload_n 1, 0, 0, 0, 0),
  (117, .aload_n 0, 0, 0, 0, 0),
  (118, .iload_n 3, 0, 0, 0, 0),
  (119, .iconst 1, 0, 0, 0, 1),
  (120, .iadd, 0, 0, 0, 0),
  (121, .iaload, 0, 0, 0, 0),
  (122, .aload_n 0, 0, 0, 0, 0),
  (123, .iload_n 3, 0, 0, 0, 0),
  (124, .iconst 2, 0, 0, 0, 2),
  (125, .iadd, 0, 0, 0, 0),
  (126, .iaload, 0, 0, 0, 0),
  (127, .invokevirtual 13, 1, 0, 0, 0),
  (130, .aload_n 2, 0, 0, 0, 0),
  (131, .aload_n 0, 0, 0, 0, 0),
  (132, .iload_n 3, 0, 0, 0, 0),
  (133, .iconst 1, 0, 0, 0, 1),
  (134, .iadd, 0, 0, 0, 0),
  (135, .iaload, 0, 0, 0, 0),
  (136, .aload_n 0, 0, 0, 0, 0),
  (137, .iload_n 3, 0, 0, 0, 0),
  (138, .iconst 2, 0, 0, 0, 2),
  (139, .iadd, 0, 0, 0, 0),
  (140, .iaload, 0, 0, 0, 0),
  (141, .invokevirtual 17, 132, 10, 0, 0),
  (144, .if_icmp .eq 303, 251, 0, 0, 0),
  (147, .iconst 0, 0, 0, 0, 0),
  (148, .ireturn, 0, 0, 0, 0),
  (149, .aload_n 1, 0, 0, 0, 0),
  (150, .aload_n 0, 0, 0, 0, 0),
  (151, .iload_n 3, 0, 0, 0, 0),
  (152, .iconst 1, 0, 0, 0, 1),
  (153, .iadd, 0, 0, 0, 0),
  (154, .iaload, 0, 0, 0, 0),
  (155, .invokevirtual 18, 2, 0, 0, 0),
  (158, .aload_n 2, 0, 0, 0, 0),
  (159, .aload_n 0, 0, 0, 0, 0),
  (160, .iload_n 3, 0, 0, 0, 0),
  (161, .iconst 1, 0, 0, 0, 1),
  (162, .iadd, 0, 0, 0, 0),
  (163, .iaload, 0, 0, 0, 0),
  (164, .invokevirtual 22, 133, 10, 0, 0),
  (167, .if_icmp .eq 280, 251, 0, 0, 0),
  (170, .iconst 0, 0, 0, 0, 0),
  (171, .ireturn, 0, 0, 0, 0),
  (172, .aload_n 1, 0, 0, 0, 0),
  (173, .aload_n 0, 0, 0, 0, 0),
  (174, .iload_n 3, 0, 0, 0, 0),
  (175, .iconst 1, 0, 0, 0, 1),
  (176, .iadd, 0, 0, 0, 0),
  (177, .iaload, 0, 0, 0, 0),
  (178, .invokevirtual 23, 3, 0, 0, 0),
  (181, .aload_n 2, 0, 0, 0, 0),
  (182, .aload_n 0, 0, 0, 0, 0),
  (183, .iload_n 3, 0, 0, 0, 0),
  (184, .iconst 1, 0, 0, 0, 1),
  (185, .iadd, 0, 0, 0, 0),
  (186, .iaload, 0, 0, 0, 0),
  (187, .invokevirtual 26, 134, 10, 0, 0),
  (190, .if_icmp .eq 257, 251, 0, 0, 0),
  (193, .iconst 0, 0, 0, 0, 0),
  (194, .ireturn, 0, 0, 0, 0),
  (195, .aload_n 1, 0, 0, 0, 0),
  (196, .aload_n 0, 0, 0, 0, 0),
  (197, .iload_n 3, 0, 0, 0, 0),
  (198, .iconst 1, 0, 0, 0, 1),
  (199, .iadd, 0, 0, 0, 0),
  (200, .iaload, 0, 0, 0, 0),
  (201, .invokevirtual 27, 4, 0, 0, 0),
  (204, .aload_n 2, 0, 0, 0, 0),
  (205, .aload_n 0, 0, 0, 0, 0),
  (206, .iload_n 3, 0, 0, 0, 0),
  (207, .iconst 1, 0, 0, 0, 1),
  (208, .iadd, 0, 0, 0, 0),
  (209, .iaload, 0, 0, 0, 0),
  (210, .invokevirtual 30, 135, 10, 0, 0),
  (213, .if_icmp .eq 234, 251, 0, 0, 0),
  (216, .iconst 0, 0, 0, 0, 0),
  (217, .ireturn, 0, 0, 0, 0),
  (218, .aload_n 1, 0, 0, 0, 0),
  (219, .aload_n 0, 0, 0, 0, 0),
  (220, .iload_n 3, 0, 0, 0, 0),
  (221, .iconst 1, 0, 0, 0, 1),
  (222, .iadd, 0, 0, 0, 0),
  (223, .iaload, 0, 0, 0, 0),
  (224, .invokevirtual 31, 5, 0, 0, 0),
  (227, .aload_n 2, 0, 0, 0, 0),
  (228, .aload_n 0, 0, 0, 0, 0),
  (229, .iload_n 3, 0, 0, 0, 0),
  (230, .iconst 1, 0, 0, 0, 1),
  (231, .iadd, 0, 0, 0, 0),
  (232, .iaload, 0, 0, 0, 0),
  (233, .invokevirtual 34, 136, 10, 0, 0),
  (236, .if_icmp .eq 211, 251, 0, 0, 0),
  (239, .iconst 0, 0, 0, 0, 0),
  (240, .ireturn, 0, 0, 0, 0),
  (241, .aload_n 1, 0, 0, 0, 0),
  (242, .aload_n 0, 0, 0, 0, 0),
  (243, .iload_n 3, 0, 0, 0, 0),
  (244, .iconst 1, 0, 0, 0, 1),
  (245, .iadd, 0, 0, 0, 0),
  (246, .iaload, 0, 0, 0, 0),
  (247, .invokevirtual 35, 6, 0, 0, 0),
  (250, .aload_n 2, 0, 0, 0, 0),
  (251, .aload_n 0, 0, 0, 0, 0),
  (252, .iload_n 3, 0, 0, 0, 0),
  (253, .iconst 1, 0, 0, 0, 1),
  (254, .iadd, 0, 0, 0, 0),
  (255, .iaload, 0, 0, 0, 0),
  (256, .invokevirtual 39, 130, 10, 0, 0),
  (259, .if_icmp .eq 188, 251, 0, 0, 0),
  (262, .iconst 0, 0, 0, 0, 0),
  (263, .ireturn, 0, 0, 0, 0),
  (264, .aload_n 1, 0, 0, 0, 0),
  (265, .invokevirtual 40, 7, 0, 0, 0),
  (268, .aload_n 2, 0, 0, 0, 0),
  (269, .invokevirtual 44, 131, 10, 0, 0),
  (272, .if_icmp .eq 175, 251, 0, 0, 0),
  (275, .iconst 0, 0, 0, 0, 0),
  (276, .ireturn, 0, 0, 0, 0),
  (277, .aload_n 1, 0, 0, 0, 0),
  (278, .invokevirtual 45, 8, 0, 0, 0),
  (281, .aload_n 2, 0, 0, 0, 0),
  (282, .invokevirtual 49, 137, 10, 0, 0),
  (285, .if_icmp .eq 162, 251, 0, 0, 0),
  (288, .iconst 0, 0, 0, 0, 0),
  (289, .ireturn, 0, 0, 0, 0),
  (290, .aload_n 1, 0, 0, 0, 0),
  (291, .aload_n 0, 0, 0, 0, 0),
  (292, .iload_n 3, 0, 0, 0, 0),
  (293, .iconst 1, 0, 0, 0, 1),
  (294, .iadd, 0, 0, 0, 0),
  (295, .iaload, 0, 0, 0, 0),
  (296, .invokevirtual 50, 9, 0, 0, 0),
  (299, .aload_n 2, 0, 0, 0, 0),
  (300, .aload_n 0, 0, 0, 0, 0),
  (301, .iload_n 3, 0, 0, 0, 0),
  (302, .iconst 1, 0, 0, 0, 1),
  (303, .iadd, 0, 0, 0, 0),
  (304, .iaload, 0, 0, 0, 0),
  (305, .invokevirtual 53, 138, 10, 0, 0),
  (308, .if_icmp .eq 139, 251, 0, 0, 0),
  (311, .iconst 0, 0, 0, 0, 0),
  (312, .ireturn, 0, 0, 0, 0),
  (313, .aload_n 1, 0, 0, 0, 0),
  (314, .aload_n 0, 0, 0, 0, 0),
  (315, .iload_n 3, 0, 0, 0, 0),
  (316, .iconst 1, 0, 0, 0, 1),
  (317, .iadd, 0, 0, 0, 0),
  (318, .iaload, 0, 0, 0, 0),
  (319, .invokevirtual 54, 10, 0, 0, 0),
  (322, .aload_n 2, 0, 0, 0, 0),
  (323, .aload_n 0, 0, 0, 0, 0),
  (324, .iload_n 3, 0, 0, 0, 0),
  (325, .iconst 1, 0, 0, 0, 1),
  (326, .iadd, 0, 0, 0, 0),
  (327, .iaload, 0, 0, 0, 0),
  (328, .invokevirtual 57, 139, 10, 0, 0),
  (331, .if_icmp .eq 116, 251, 0, 0, 0),
  (334, .iconst 0, 0, 0, 0, 0),
  (335, .ireturn, 0, 0, 0, 0),
  (336, .aload_n 1, 0, 0, 0, 0),
  (337, .aload_n 0, 0, 0, 0, 0),
  (338, .iload_n 3, 0, 0, 0, 0),
  (339, .iconst 1, 0, 0, 0, 1),
  (340, .iadd, 0, 0, 0, 0),
  (341, .iaload, 0, 0, 0, 0),
  (342, .invokevirtual 58, 11, 0, 0, 0),
  (345, .aload_n 2, 0, 0, 0, 0),
  (346, .aload_n 0, 0, 0, 0, 0),
  (347, .iload_n 3, 0, 0, 0, 0),
  (348, .iconst 1, 0, 0, 0, 1),
  (349, .iadd, 0, 0, 0, 0),
  (350, .iaload, 0, 0, 0, 0),
  (351, .invokevirtual 61, 140, 10, 0, 0),
  (354, .if_icmp .eq 93, 251, 0, 0, 0),
  (357, .iconst 0, 0, 0, 0, 0),
  (358, .ireturn, 0, 0, 0, 0),
  (359, .aload_n 1, 0, 0, 0, 0),
  (360, .aload_n 0, 0, 0, 0, 0),
  (361, .iload_n 3, 0, 0, 0, 0),
  (362, .iconst 1, 0, 0, 0, 1),
  (363, .iadd, 0, 0, 0, 0),
  (364, .iaload, 0, 0, 0, 0),
  (365, .invokevirtual 62, 12, 0, 0, 0),
  (368, .aload_n 2, 0, 0, 0, 0),
  (369, .aload_n 0, 0, 0, 0, 0),
  (370, .iload_n 3, 0, 0, 0, 0),
  (371, .iconst 1, 0, 0, 0, 1),
  (372, .iadd, 0, 0, 0, 0),
  (373, .iaload, 0, 0, 0, 0),
  (374, .invokevirtual 65, 141, 10, 0, 0),
  (377, .if_icmp .eq 70, 251, 0, 0, 0),
  (380, .iconst 0, 0, 0, 0, 0),
  (381, .ireturn, 0, 0, 0, 0),
  (382, .aload_n 1, 0, 0, 0, 0),
  (383, .invokevirtual 66, 13, 0, 0, 0),
  (386, .aload_n 2, 0, 0, 0, 0),
  (387, .invokevirtual 69, 142, 10, 0, 0),
  (390, .if_icmp .eq 57, 251, 0, 0, 0),
  (393, .iconst 0, 0, 0, 0, 0),
  (394, .ireturn, 0, 0, 0, 0),
  (395, .aload_n 1, 0, 0, 0, 0),
  (396, .invokevirtual 70, 14, 0, 0, 0),
  (399, .aload_n 2, 0, 0, 0, 0),
  (400, .invokevirtual 73, 143, 10, 0, 0),
  (403, .if_icmp .eq 44, 251, 0, 0, 0),
  (406, .iconst 0, 0, 0, 0, 0),
  (407, .ireturn, 0, 0, 0, 0),
  (408, .aload_n 1, 0, 0, 0, 0),
  (409, .invokevirtual 74, 15, 0, 0, 0),
  (412, .aload_n 2, 0, 0, 0, 0),
  (413, .invokevirtual 77, 144, 10, 0, 0),
  (416, .if_icmp .eq 31, 251, 0, 0, 0),
  (419, .iconst 0, 0, 0, 0, 0),
  (420, .ireturn, 0, 0, 0, 0),
  (421, .aload_n 1, 0, 0, 0, 0),
  (422, .invokevirtual 78, 16, 0, 0, 0),
  (425, .aload_n 2, 0, 0, 0, 0),
  (426, .invokevirtual 81, 145, 10, 0, 0),
  (429, .if_icmp .eq 18, 251, 0, 0, 0),
  (432, .iconst 0, 0, 0, 0, 0),
  (433, .ireturn, 0, 0, 0, 0),
  (434, .aload_n 1, 0, 0, 0, 0),
  (435, .invokevirtual 82, 17, 0, 0, 0),
  (438, .aload_n 2, 0, 0, 0, 0),
  (439, .invokevirtual 85, 146, 10, 0, 0),
  (442, .if_icmp .eq 5, 251, 0, 0, 0),
  (445, .iconst 0, 0, 0, 0, 0),
  (446, .ireturn, 0, 0, 0, 0),
  (447, .iinc 3 3, 0, 0, 0, 3),
  (450, .goto (-432), 10, 0, 0, 0),
  (453, .iconst 1, 0, 0, 0, 1),
  (454, .ireturn, 0, 0, 0, 0)]
def xcdL : List (List xE) := [cd_0, cd_1, cd_2, cd_3, cd_4, cd_5, cd_6, cd_7, cd_8, cd_9, cd_10, cd_11, cd_12, cd_13, cd_14, cd_15, cd_16, cd_17, cd_18, cd_19, cd_20, cd_21, cd_22, cd_23, cd_24, cd_25, cd_26, cd_27, cd_28, cd_29, cd_30, cd_31, cd_32, cd_33, cd_34, cd_35, cd_36, cd_37, cd_38, cd_39, cd_40, cd_41, cd_42, cd_43, cd_44, cd_45, cd_46, cd_47, cd_48, cd_49, cd_50, cd_51, cd_52, cd_53, cd_54, cd_55, cd_56, cd_57, cd_58, cd_59, cd_60, cd_61, cd_62, cd_63, cd_64, cd_65, cd_66, cd_67, cd_68, cd_69, cd_70, cd_71, cd_72, cd_73, cd_74, cd_75, cd_76, cd_77, cd_78, cd_79, cd_80, cd_81, cd_82, cd_83, cd_84, cd_85, cd_86, cd_87, cd_88, cd_89, cd_90, cd_91, cd_92, cd_93, cd_94, cd_95, cd_96, cd_97, cd_98, cd_99, cd_100, cd_101, cd_102, cd_103, cd_104, cd_105, cd_106, cd_107, cd_108, cd_109, cd_110, cd_111, cd_112, cd_113, cd_114, cd_115, cd_116, cd_117, cd_118, cd_119, cd_120, cd_121, cd_122, cd_123, cd_124, cd_125, cd_126, cd_127, cd_128, cd_129, cd_130, cd_131, cd_132, cd_133, cd_134, cd_135, cd_136, cd_137, cd_138, cd_139, cd_140, cd_141, cd_142, cd_143, cd_144, cd_145, cd_146, cd_147, cd_148]
def xcd (k : Nat) : List xE := (xnth xcdL k).getD []
def xnw : List (String × Nat × MethodName × String) := [("BrownoutCore", 9, ⟨"BrownoutCore$Power", "<init>", "()V"⟩, "BrownoutCore"), ("BrownoutCore", 18, ⟨"BrownoutCore$Lasting", "<init>", "()V"⟩, "BrownoutCore"), ("BrownoutCore", 25, ⟨"BrownoutCore$Samples", "<init>", "()V"⟩, "BrownoutCore"), ("BrownoutCore", 32, ⟨"BrownoutCore$Section", "<init>", "()V"⟩, "BrownoutCore"), ("BrownoutCore$Section", 17, ⟨"BrownoutCore$Held", "<init>", "()V"⟩, "BrownoutCore"), ("BrownoutCore$Kept", 20, ⟨"BrownoutCore$Held", "<init>", "()V"⟩, "BrownoutCore"), ("BrownoutCore$Keeper", 11, ⟨"BrownoutCore$Kept", "<init>", "()V"⟩, "BrownoutCore")]
theorem e_0 : xcd 0 = cd_0 := rfl
theorem hk_0 : 0 < xN := by decide
theorem e_1 : xcd 1 = cd_1 := rfl
theorem hk_1 : 1 < xN := by decide
theorem e_2 : xcd 2 = cd_2 := rfl
theorem hk_2 : 2 < xN := by decide
theorem e_3 : xcd 3 = cd_3 := rfl
theorem hk_3 : 3 < xN := by decide
theorem e_4 : xcd 4 = cd_4 := rfl
theorem hk_4 : 4 < xN := by decide
theorem e_5 : xcd 5 = cd_5 := rfl
theorem hk_5 : 5 < xN := by decide
theorem e_6 : xcd 6 = cd_6 := rfl
theorem hk_6 : 6 < xN := by decide
theorem e_7 : xcd 7 = cd_7 := rfl
theorem hk_7 : 7 < xN := by decide
theorem e_8 : xcd 8 = cd_8 := rfl
theorem hk_8 : 8 < xN := by decide
theorem e_9 : xcd 9 = cd_9 := rfl
theorem hk_9 : 9 < xN := by decide
theorem e_10 : xcd 10 = cd_10 := rfl
theorem hk_10 : 10 < xN := by decide
theorem e_11 : xcd 11 = cd_11 := rfl
theorem hk_11 : 11 < xN := by decide
theorem e_12 : xcd 12 = cd_12 := rfl
theorem hk_12 : 12 < xN := by decide
theorem e_13 : xcd 13 = cd_13 := rfl
theorem hk_13 : 13 < xN := by decide
theorem e_14 : xcd 14 = cd_14 := rfl
theorem hk_14 : 14 < xN := by decide
theorem e_15 : xcd 15 = cd_15 := rfl
theorem hk_15 : 15 < xN := by decide
theorem e_16 : xcd 16 = cd_16 := rfl
theorem hk_16 : 16 < xN := by decide
theorem e_17 : xcd 17 = cd_17 := rfl
theorem hk_17 : 17 < xN := by decide
theorem e_18 : xcd 18 = cd_18 := rfl
theorem hk_18 : 18 < xN := by decide
theorem e_19 : xcd 19 = cd_19 := rfl
theorem hk_19 : 19 < xN := by decide
theorem e_20 : xcd 20 = cd_20 := rfl
theorem hk_20 : 20 < xN := by decide
theorem e_21 : xcd 21 = cd_21 := rfl
theorem hk_21 : 21 < xN := by decide
theorem e_22 : xcd 22 = cd_22 := rfl
theorem hk_22 : 22 < xN := by decide
theorem e_23 : xcd 23 = cd_23 := rfl
theorem hk_23 : 23 < xN := by decide
theorem e_24 : xcd 24 = cd_24 := rfl
theorem hk_24 : 24 < xN := by decide
theorem e_25 : xcd 25 = cd_25 := rfl
theorem hk_25 : 25 < xN := by decide
theorem e_26 : xcd 26 = cd_26 := rfl
theorem hk_26 : 26 < xN := by decide
theorem e_27 : xcd 27 = cd_27 := rfl
theorem hk_27 : 27 < xN := by decide
theorem e_28 : xcd 28 = cd_28 := rfl
theorem hk_28 : 28 < xN := by decide
theorem e_29 : xcd 29 = cd_29 := rfl
theorem hk_29 : 29 < xN := by decide
theorem e_30 : xcd 30 = cd_30 := rfl
theorem hk_30 : 30 < xN := by decide
theorem e_31 : xcd 31 = cd_31 := rfl
theorem hk_31 : 31 < xN := by decide
theorem e_32 : xcd 32 = cd_32 := rfl
theorem hk_32 : 32 < xN := by decide
theorem e_33 : xcd 33 = cd_33 := rfl
theorem hk_33 : 33 < xN := by decide
theorem e_34 : xcd 34 = cd_34 := rfl
theorem hk_34 : 34 < xN := by decide
theorem e_35 : xcd 35 = cd_35 := rfl
theorem hk_35 : 35 < xN := by decide
theorem e_36 : xcd 36 = cd_36 := rfl
theorem hk_36 : 36 < xN := by decide
theorem e_37 : xcd 37 = cd_37 := rfl
theorem hk_37 : 37 < xN := by decide
theorem e_38 : xcd 38 = cd_38 := rfl
theorem hk_38 : 38 < xN := by decide
theorem e_39 : xcd 39 = cd_39 := rfl
theorem hk_39 : 39 < xN := by decide
theorem e_40 : xcd 40 = cd_40 := rfl
theorem hk_40 : 40 < xN := by decide
theorem e_41 : xcd 41 = cd_41 := rfl
theorem hk_41 : 41 < xN := by decide
theorem e_42 : xcd 42 = cd_42 := rfl
theorem hk_42 : 42 < xN := by decide
theorem e_43 : xcd 43 = cd_43 := rfl
theorem hk_43 : 43 < xN := by decide
theorem e_44 : xcd 44 = cd_44 := rfl
theorem hk_44 : 44 < xN := by decide
theorem e_45 : xcd 45 = cd_45 := rfl
theorem hk_45 : 45 < xN := by decide
theorem e_46 : xcd 46 = cd_46 := rfl
theorem hk_46 : 46 < xN := by decide
theorem e_47 : xcd 47 = cd_47 := rfl
theorem hk_47 : 47 < xN := by decide
theorem e_48 : xcd 48 = cd_48 := rfl
theorem hk_48 : 48 < xN := by decide
theorem e_49 : xcd 49 = cd_49 := rfl
theorem hk_49 : 49 < xN := by decide
theorem e_50 : xcd 50 = cd_50 := rfl
theorem hk_50 : 50 < xN := by decide
theorem e_51 : xcd 51 = cd_51 := rfl
theorem hk_51 : 51 < xN := by decide
theorem e_52 : xcd 52 = cd_52 := rfl
theorem hk_52 : 52 < xN := by decide
theorem e_53 : xcd 53 = cd_53 := rfl
theorem hk_53 : 53 < xN := by decide
theorem e_54 : xcd 54 = cd_54 := rfl
theorem hk_54 : 54 < xN := by decide
theorem e_55 : xcd 55 = cd_55 := rfl
theorem hk_55 : 55 < xN := by decide
theorem e_56 : xcd 56 = cd_56 := rfl
theorem hk_56 : 56 < xN := by decide
theorem e_57 : xcd 57 = cd_57 := rfl
theorem hk_57 : 57 < xN := by decide
theorem e_58 : xcd 58 = cd_58 := rfl
theorem hk_58 : 58 < xN := by decide
theorem e_59 : xcd 59 = cd_59 := rfl
theorem hk_59 : 59 < xN := by decide
theorem e_60 : xcd 60 = cd_60 := rfl
theorem hk_60 : 60 < xN := by decide
theorem e_61 : xcd 61 = cd_61 := rfl
theorem hk_61 : 61 < xN := by decide
theorem e_62 : xcd 62 = cd_62 := rfl
theorem hk_62 : 62 < xN := by decide
theorem e_63 : xcd 63 = cd_63 := rfl
theorem hk_63 : 63 < xN := by decide
theorem e_64 : xcd 64 = cd_64 := rfl
theorem hk_64 : 64 < xN := by decide
theorem e_65 : xcd 65 = cd_65 := rfl
theorem hk_65 : 65 < xN := by decide
theorem e_66 : xcd 66 = cd_66 := rfl
theorem hk_66 : 66 < xN := by decide
theorem e_67 : xcd 67 = cd_67 := rfl
theorem hk_67 : 67 < xN := by decide
theorem e_68 : xcd 68 = cd_68 := rfl
theorem hk_68 : 68 < xN := by decide
theorem e_69 : xcd 69 = cd_69 := rfl
theorem hk_69 : 69 < xN := by decide
theorem e_70 : xcd 70 = cd_70 := rfl
theorem hk_70 : 70 < xN := by decide
theorem e_71 : xcd 71 = cd_71 := rfl
theorem hk_71 : 71 < xN := by decide
theorem e_72 : xcd 72 = cd_72 := rfl
theorem hk_72 : 72 < xN := by decide
theorem e_73 : xcd 73 = cd_73 := rfl
theorem hk_73 : 73 < xN := by decide
theorem e_74 : xcd 74 = cd_74 := rfl
theorem hk_74 : 74 < xN := by decide
theorem e_75 : xcd 75 = cd_75 := rfl
theorem hk_75 : 75 < xN := by decide
theorem e_76 : xcd 76 = cd_76 := rfl
theorem hk_76 : 76 < xN := by decide
theorem e_77 : xcd 77 = cd_77 := rfl
theorem hk_77 : 77 < xN := by decide
theorem e_78 : xcd 78 = cd_78 := rfl
theorem hk_78 : 78 < xN := by decide
theorem e_79 : xcd 79 = cd_79 := rfl
theorem hk_79 : 79 < xN := by decide
theorem e_80 : xcd 80 = cd_80 := rfl
theorem hk_80 : 80 < xN := by decide
theorem e_81 : xcd 81 = cd_81 := rfl
theorem hk_81 : 81 < xN := by decide
theorem e_82 : xcd 82 = cd_82 := rfl
theorem hk_82 : 82 < xN := by decide
theorem e_83 : xcd 83 = cd_83 := rfl
theorem hk_83 : 83 < xN := by decide
theorem e_84 : xcd 84 = cd_84 := rfl
theorem hk_84 : 84 < xN := by decide
theorem e_85 : xcd 85 = cd_85 := rfl
theorem hk_85 : 85 < xN := by decide
theorem e_86 : xcd 86 = cd_86 := rfl
theorem hk_86 : 86 < xN := by decide
theorem e_87 : xcd 87 = cd_87 := rfl
theorem hk_87 : 87 < xN := by decide
theorem e_88 : xcd 88 = cd_88 := rfl
theorem hk_88 : 88 < xN := by decide
theorem e_89 : xcd 89 = cd_89 := rfl
theorem hk_89 : 89 < xN := by decide
theorem e_90 : xcd 90 = cd_90 := rfl
theorem hk_90 : 90 < xN := by decide
theorem e_91 : xcd 91 = cd_91 := rfl
theorem hk_91 : 91 < xN := by decide
theorem e_92 : xcd 92 = cd_92 := rfl
theorem hk_92 : 92 < xN := by decide
theorem e_93 : xcd 93 = cd_93 := rfl
theorem hk_93 : 93 < xN := by decide
theorem e_94 : xcd 94 = cd_94 := rfl
theorem hk_94 : 94 < xN := by decide
theorem e_95 : xcd 95 = cd_95 := rfl
theorem hk_95 : 95 < xN := by decide
theorem e_96 : xcd 96 = cd_96 := rfl
theorem hk_96 : 96 < xN := by decide
theorem e_97 : xcd 97 = cd_97 := rfl
theorem hk_97 : 97 < xN := by decide
theorem e_98 : xcd 98 = cd_98 := rfl
theorem hk_98 : 98 < xN := by decide
theorem e_99 : xcd 99 = cd_99 := rfl
theorem hk_99 : 99 < xN := by decide
theorem e_100 : xcd 100 = cd_100 := rfl
theorem hk_100 : 100 < xN := by decide
theorem e_101 : xcd 101 = cd_101 := rfl
theorem hk_101 : 101 < xN := by decide
theorem e_102 : xcd 102 = cd_102 := rfl
theorem hk_102 : 102 < xN := by decide
theorem e_103 : xcd 103 = cd_103 := rfl
theorem hk_103 : 103 < xN := by decide
theorem e_104 : xcd 104 = cd_104 := rfl
theorem hk_104 : 104 < xN := by decide
theorem e_105 : xcd 105 = cd_105 := rfl
theorem hk_105 : 105 < xN := by decide
theorem e_106 : xcd 106 = cd_106 := rfl
theorem hk_106 : 106 < xN := by decide
theorem e_107 : xcd 107 = cd_107 := rfl
theorem hk_107 : 107 < xN := by decide
theorem e_108 : xcd 108 = cd_108 := rfl
theorem hk_108 : 108 < xN := by decide
theorem e_109 : xcd 109 = cd_109 := rfl
theorem hk_109 : 109 < xN := by decide
theorem e_110 : xcd 110 = cd_110 := rfl
theorem hk_110 : 110 < xN := by decide
theorem e_111 : xcd 111 = cd_111 := rfl
theorem hk_111 : 111 < xN := by decide
theorem e_112 : xcd 112 = cd_112 := rfl
theorem hk_112 : 112 < xN := by decide
theorem e_113 : xcd 113 = cd_113 := rfl
theorem hk_113 : 113 < xN := by decide
theorem e_114 : xcd 114 = cd_114 := rfl
theorem hk_114 : 114 < xN := by decide
theorem e_115 : xcd 115 = cd_115 := rfl
theorem hk_115 : 115 < xN := by decide
theorem e_116 : xcd 116 = cd_116 := rfl
theorem hk_116 : 116 < xN := by decide
theorem e_117 : xcd 117 = cd_117 := rfl
theorem hk_117 : 117 < xN := by decide
theorem e_118 : xcd 118 = cd_118 := rfl
theorem hk_118 : 118 < xN := by decide
theorem e_119 : xcd 119 = cd_119 := rfl
theorem hk_119 : 119 < xN := by decide
theorem e_120 : xcd 120 = cd_120 := rfl
theorem hk_120 : 120 < xN := by decide
theorem e_121 : xcd 121 = cd_121 := rfl
theorem hk_121 : 121 < xN := by decide
theorem e_122 : xcd 122 = cd_122 := rfl
theorem hk_122 : 122 < xN := by decide
theorem e_123 : xcd 123 = cd_123 := rfl
theorem hk_123 : 123 < xN := by decide
theorem e_124 : xcd 124 = cd_124 := rfl
theorem hk_124 : 124 < xN := by decide
theorem e_125 : xcd 125 = cd_125 := rfl
theorem hk_125 : 125 < xN := by decide
theorem e_126 : xcd 126 = cd_126 := rfl
theorem hk_126 : 126 < xN := by decide
theorem e_127 : xcd 127 = cd_127 := rfl
theorem hk_127 : 127 < xN := by decide
theorem e_128 : xcd 128 = cd_128 := rfl
theorem hk_128 : 128 < xN := by decide
theorem e_129 : xcd 129 = cd_129 := rfl
theorem hk_129 : 129 < xN := by decide
theorem e_130 : xcd 130 = cd_130 := rfl
theorem hk_130 : 130 < xN := by decide
theorem e_131 : xcd 131 = cd_131 := rfl
theorem hk_131 : 131 < xN := by decide
theorem e_132 : xcd 132 = cd_132 := rfl
theorem hk_132 : 132 < xN := by decide
theorem e_133 : xcd 133 = cd_133 := rfl
theorem hk_133 : 133 < xN := by decide
theorem e_134 : xcd 134 = cd_134 := rfl
theorem hk_134 : 134 < xN := by decide
theorem e_135 : xcd 135 = cd_135 := rfl
theorem hk_135 : 135 < xN := by decide
theorem e_136 : xcd 136 = cd_136 := rfl
theorem hk_136 : 136 < xN := by decide
theorem e_137 : xcd 137 = cd_137 := rfl
theorem hk_137 : 137 < xN := by decide
theorem e_138 : xcd 138 = cd_138 := rfl
theorem hk_138 : 138 < xN := by decide
theorem e_139 : xcd 139 = cd_139 := rfl
theorem hk_139 : 139 < xN := by decide
theorem e_140 : xcd 140 = cd_140 := rfl
theorem hk_140 : 140 < xN := by decide
theorem e_141 : xcd 141 = cd_141 := rfl
theorem hk_141 : 141 < xN := by decide
theorem e_142 : xcd 142 = cd_142 := rfl
theorem hk_142 : 142 < xN := by decide
theorem e_143 : xcd 143 = cd_143 := rfl
theorem hk_143 : 143 < xN := by decide
theorem e_144 : xcd 144 = cd_144 := rfl
theorem hk_144 : 144 < xN := by decide
theorem e_145 : xcd 145 = cd_145 := rfl
theorem hk_145 : 145 < xN := by decide
theorem e_146 : xcd 146 = cd_146 := rfl
theorem hk_146 : 146 < xN := by decide
theorem e_147 : xcd 147 = cd_147 := rfl
theorem hk_147 : 147 < xN := by decide
theorem e_148 : xcd 148 = cd_148 := rfl
theorem hk_148 : 148 < xN := by decide
end
section
-- the small machine: cells by number, values, one step
abbrev xC : Type := (Nat × (Nat → Int32)) ⊕ (Nat × List Value)
abbrev xW : Type := List xC
abbrev xF : Type := Nat × List (Option Value) × List Value
def xscr : Nat := 1000000
def xr (ρ : Nat → Nat) : Value → Value
  | .ref k => .ref (ρ k)
  | v => v
def xcell (cA : ClassId) (ρ : Nat → Nat) : xC → va_E
  | .inl q => .inl (cA, q.1, .inl q.2)
  | .inr q => .inr (q.1, q.2.map (xr ρ))
def xwd (cA : ClassId) (ρ : Nat → Nat) (w : xW) : va_W := w.mapIdx (fun k c => (ρ k, xcell cA ρ c))
theorem xnth_eq {α : Type} : ∀ (l : List α) (n : Nat), xnth l n = l[n]?
  | [], n => by simp [xnth]
  | a :: l, 0 => by simp [xnth]
  | a :: l, n + 1 => by simp [xnth, xnth_eq l n]
def xin (i : Int32) (n : Nat) : Bool := !(decide (i < 0)) && Nat.blt i.toNatClampNeg n
theorem xin_ok {i : Int32} {n : Nat} (h : xin i n = true) : vp_in i n := by
  unfold xin at h
  rw [Bool.and_eq_true] at h
  obtain ⟨h1, h2⟩ := h
  have h2 := Nat.blt_eq.mp h2
  have h1 : ¬ i < 0 := by simpa using h1
  unfold vp_in
  rintro (q | q)
  · exact h1 q
  · omega
def xbl (x : Int32) : Bool := x == 0 || x == 1
theorem xbl_ok {x : Int32} (h : xbl x = true) : x = 0 ∨ x = 1 := by
  unfold xbl at h
  rw [Bool.or_eq_true] at h
  simpa using h
def xrem (x y : Int32) : Int32 := x - x / y * y
def xfv (n : Nat) : Value → Bool
  | .ref j => Nat.blt j n || Nat.beq j xscr
  | _ => true
def xfo (n : Nat) : Option Value → Bool
  | none => true
  | some v => xfv n v
def xfc (n : Nat) : xC → Bool
  | .inl _ => true
  | .inr q => q.2.all (xfv n)
def xfit (L : List (Option Value)) (st : List Value) (w : xW) : Bool := L.all (xfo w.length) && (st.all (xfv w.length) && (w.all (xfc w.length) && Nat.blt w.length xscr))
def xpc (cd : List xE) (i : Nat) : Nat := match xnth cd i with
  | some e => e.1
  | none => 0
-- what a step gives: the next frame, the cells, what has to hold for it
abbrev xR : Type := Option (xF × xW × Bool)
def xpush (v : Value) (i : Nat) (L : List (Option Value)) (st : List Value) (w : xW) : xR := some ((i + 1, L, v :: st), w, true)
def xld (n i : Nat) (L : List (Option Value)) (st : List Value) (w : xW) : xR := match xnth L n with
  | some (some v) => some ((i + 1, L, v :: st), w, true)
  | _ => none
def xldi (n i : Nat) (L : List (Option Value)) (st : List Value) (w : xW) : xR := match xnth L n with
  | some (some (.int x)) => some ((i + 1, L, .int x :: st), w, true)
  | _ => none
def xlda (n i : Nat) (L : List (Option Value)) (st : List Value) (w : xW) : xR := match xnth L n with
  | some (some (.ref x)) => some ((i + 1, L, .ref x :: st), w, true)
  | _ => none
def xsti (n i : Nat) (L : List (Option Value)) (w : xW) : List Value → xR
  | .int x :: r => some ((i + 1, L.set n (some (.int x)), r), w, true)
  | _ => none
def xsta (n i : Nat) (L : List (Option Value)) (w : xW) : List Value → xR
  | .ref x :: r => some ((i + 1, L.set n (some (.ref x)), r), w, true)
  | _ => none
def xinc (n : Nat) (v : Int32) (i : Nat) (L : List (Option Value)) (st : List Value) (w : xW) : xR := match xnth L n with
  | some (some (.int x)) => some ((i + 1, L.set n (some (.int (x + v))), st), w, true)
  | _ => none
def xbin (g : Int32 → Int32 → Int32) (i : Nat) (L : List (Option Value)) (w : xW) : List Value → xR
  | .int y :: .int x :: r => some ((i + 1, L, .int (g x y) :: r), w, true)
  | _ => none
def xdiv (g : Int32 → Int32 → Int32) (i : Nat) (L : List (Option Value)) (w : xW) : List Value → xR
  | .int y :: .int x :: r => some ((i + 1, L, .int (g x y) :: r), w, !(y == 0))
  | _ => none
def xun (g : Int32 → Int32) (i : Nat) (L : List (Option Value)) (w : xW) : List Value → xR
  | .int x :: r => some ((i + 1, L, .int (g x) :: r), w, true)
  | _ => none
def xdup (i : Nat) (L : List (Option Value)) (w : xW) : List Value → xR
  | .int x :: r => some ((i + 1, L, .int x :: .int x :: r), w, true)
  | .ref x :: r => some ((i + 1, L, .ref x :: .ref x :: r), w, true)
  | _ => none
def xdup2 (i : Nat) (L : List (Option Value)) (w : xW) : List Value → xR
  | .int y :: .ref x :: r => some ((i + 1, L, .int y :: .ref x :: .int y :: .ref x :: r), w, true)
  | _ => none
def xpop (i : Nat) (L : List (Option Value)) (w : xW) : List Value → xR
  | .int _ :: r => some ((i + 1, L, r), w, true)
  | _ => none
def xgetf (ci k i : Nat) (L : List (Option Value)) (w : xW) : List Value → xR
  | .ref q :: r => match xnth w q with
    | some (.inr (cj, fs)) => if Nat.beq cj ci then (match xnth fs k with
      | some v => some ((i + 1, L, v :: r), w, true)
      | none => none) else none
    | _ => none
  | _ => none
def xputf (ci k i : Nat) (z : Bool) (L : List (Option Value)) (w : xW) : List Value → xR
  | .int x :: .ref q :: r => match xnth w q with
    | some (.inr (cj, fs)) => if Nat.beq cj ci then (match xnth fs k with
      | some _ => some ((i + 1, L, r), w.set q (.inr (cj, fs.set k (.int x))), (match z with
        | true => xbl x
        | false => true))
      | none => none) else none
    | _ => none
  | _ => none
def xputa (ci k i : Nat) (L : List (Option Value)) (w : xW) : List Value → xR
  | .ref x :: .ref q :: r => match xnth w q with
    | some (.inr (cj, fs)) => if Nat.beq cj ci then (match xnth fs k with
      | some _ => some ((i + 1, L, r), w.set q (.inr (cj, fs.set k (.ref x))), true)
      | none => none) else none
    | _ => none
  | _ => none
def xald (sc : Option (Nat × (Nat → Int32))) (i : Nat) (L : List (Option Value)) (w : xW) : List Value → xR
  | .int j :: .ref q :: r => match xnth w q with
    | some (.inl (n, f)) => some ((i + 1, L, .int (f j.toNatClampNeg) :: r), w, xin j n)
    | some (.inr _) => none
    | none => if Nat.beq q xscr then (match sc with
      | some (n, f) => some ((i + 1, L, .int (f j.toNatClampNeg) :: r), w, xin j n)
      | none => none) else none
  | _ => none
def xast (i : Nat) (L : List (Option Value)) (w : xW) : List Value → xR
  | .int x :: .int j :: .ref q :: r => match xnth w q with
    | some (.inl (n, f)) => some ((i + 1, L, r), w.set q (.inl (n, upd f j.toNatClampNeg x)), xin j n)
    | _ => none
  | _ => none
def xlen (sc : Option (Nat × (Nat → Int32))) (i : Nat) (L : List (Option Value)) (w : xW) : List Value → xR
  | .ref q :: r => match xnth w q with
    | some (.inl (n, _)) => some ((i + 1, L, .int (Int32.ofNat n) :: r), w, true)
    | some (.inr _) => none
    | none => if Nat.beq q xscr then (match sc with
      | some (n, _) => some ((i + 1, L, .int (Int32.ofNat n) :: r), w, true)
      | none => none) else none
  | _ => none
end
section
-- words of an instruction, and what is checked of each once and for all
def xword (k : Nat) (en : xE) : List Cond :=
  match en with
  | (_, ins, a, b, d, v) => match ins with
    | .ldc idx => [.constant (xy k).cls idx v]
    | .getfield idx => match xcl[a]? with
      | some r => [.fieldLink (xy k).cls idx (r.2.1 b).1 (r.2.1 b).2.1 (r.2.1 b).2.2.1]
      | none => []
    | .putfield idx => match xcl[a]? with
      | some r => [.fieldLink (xy k).cls idx (r.2.1 b).1 (r.2.1 b).2.1 (r.2.1 b).2.2.1]
      | none => []
    | .invokevirtual idx => [.methodLink (xy k).cls idx (xy a), .instanceMethod (xy a), .selects (xy a).cls (xy a) (xy a), .initialized (xy a).cls]
    | .invokestatic idx => match d with
      | 0 => [.methodLink (xy k).cls idx (xy a), .static (xy a), .initialized (xy a).cls]
      | 1 => []
      | 2 => [.methodLink (xy k).cls idx Lib.Math.max.name, .static Lib.Math.max.name, .initialized "java/lang/Math", .code Lib.Math.max.name Lib.Math.max.code 2 (some .int)]
      | _ => [.methodLink (xy k).cls idx arraycopyName, .native arraycopyName, .static arraycopyName, .initialized "java/lang/System"]
    | .invokespecial idx => match d with
      | 0 => [.methodLink (xy k).cls idx (xy a), .instanceMethod (xy a), .initialized (xy a).cls]
      | 1 => [.instanceMethod (xy a), .initialized (xy a).cls]
      | _ => [.methodLink (xy k).cls idx objectInit, .instanceMethod objectInit, .code objectInit ⟨#[0xb1]⟩ 1 none]
    | .new idx => match xcl[a]? with
      | some r => [.classLink (xy k).cls idx r.1, .instantiable r.1 r.2.2, .initialized r.1]
      | none => []
    | .newarray _ => [.arrayClass .int]
    | _ => []
def xlays : List Cond := xcl.flatMap (fun r => u_ws r.1 r.2.1 r.2.2)
def xcodes : List Cond := (List.range xM).map (fun k => Cond.code (xy k) (xby k) (xnl k) (xrt k))
def xinsw : List Cond := (List.range xN).flatMap (fun k => (xcd k).flatMap (xword k))
def xall : List Cond := xlays ++ (xcodes ++ xinsw)
def xws (k : Nat) : List Cond := Cond.code (xy k) (xby k) (xnl k) (xrt k) :: xall
def xilen : Instr → Nat → Nat
  | .bipush _, _ => 2
  | .sipush _, _ => 3
  | .ldc _, _ => 2
  | .iload _, _ => 2
  | .aload _, _ => 2
  | .istore _, _ => 2
  | .iinc _ _, _ => 3
  | .goto _, _ => 3
  | .ifCond _ _, _ => 3
  | .if_icmp _ _, _ => 3
  | .getfield _, _ => 3
  | .putfield _, _ => 3
  | .new _, _ => 3
  | .newarray _, _ => 2
  | .invokevirtual _, _ => 3
  | .invokestatic _, _ => 3
  | .invokespecial _, _ => 3
  | .tableswitch _ _ _ _, d => d
  | _, _ => 1
def xjmp : Instr → Bool
  | .goto _ => true
  | .return_ => true
  | .ireturn => true
  | .tableswitch _ _ _ _ => true
  | _ => false
def xfk : Nat → FieldType → Bool
  | 0, .int => true
  | 1, .boolean => true
  | 2, .array _ => true
  | 2, .object _ => true
  | _, _ => false
def xfits : Nat → Value → Bool
  | 0, .int _ => true
  | 1, .int x => xbl x
  | 2, .ref _ => true
  | _, _ => false
def xroomB (a k : Nat) : Bool := Nat.blt a xM && (Nat.ble ((xrm a).frames + 1) (xrm k).frames && Nat.ble (8 + (xnl a + 11) + (xrm a).locals) (xrm k).locals)
def xwf2 (k pc : Nat) (ins : Instr) (a b d : Nat) (v : Int32) : Bool := match ins with
  | .iconst n => decide (Int32.ofInt n = v)
  | .bipush n => decide ((Int8.ofInt n).toInt32 = v)
  | .sipush n => decide ((Int16.ofInt n).toInt32 = v)
  | .istore_n n => Nat.blt n.val (xnl k)
  | .istore n => Nat.blt n (xnl k)
  | .astore_n n => Nat.blt n.val (xnl k)
  | .iinc n z => Nat.blt n (xnl k) && decide (Int32.ofInt z = v)
  | .goto off => decide ((pc : Int) + off = (xpc (xcd k) a : Int))
  | .ifCond _ off => decide ((pc : Int) + off = (xpc (xcd k) a : Int))
  | .if_icmp _ off => decide ((pc : Int) + off = (xpc (xcd k) a : Int))
  | .getfield _ => match xcl[a]? with
    | some r => Nat.blt b r.2.2
    | none => false
  | .putfield _ => match xcl[a]? with
    | some r => Nat.blt b r.2.2 && (xfk d (xty a b) && (!(r.2.1 b).2.2.2 || (decide ((xy k).name = "<init>") && decide ((r.2.1 b).1 = (xy k).cls))))
    | none => false
  | .invokevirtual _ => xroomB a k && (match xcl[b]? with
    | some r => decide (r.1 = (xy a).cls)
    | none => false)
  | .invokestatic _ => match d with
    | 0 => xroomB a k
    | _ => Nat.ble 1 (xrm k).frames && Nat.ble 40 (xrm k).locals
  | .invokespecial idx => match d with
    | 0 => xroomB a k && (decide (xrt a = none) && decide ((xy a).name = "<init>"))
    | 1 => xroomB a k && (decide (xrt a = none) && (decide ((xy a).name = "<init>") && decide (((xy k).cls, idx, xy a, xhost) ∈ xnw)))
    | _ => Nat.ble 1 (xrm k).frames && Nat.ble 40 (xrm k).locals
  | .new _ => match xcl[a]? with
    | some r => Nat.beq r.2.2 b
    | none => false
  | .return_ => decide (xrt k = none)
  | .ireturn => match xrt k with
    | some .int => true
    | some .boolean => true
    | _ => false
  | _ => true
def xwf1 (k i : Nat) (en : xE) : Bool := match en with
  | (pc, ins, a, b, d, v) => decide (decode (xby k) pc = .ok (ins, xilen ins d)) && ((xjmp ins || decide (xpc (xcd k) (i + 1) = pc + xilen ins d)) && xwf2 k pc ins a b d v)
def xrb (k : Nat) (x : Int32) : Bool := match xrt k with
  | some .boolean => xbl x
  | _ => true
end
section
theorem xty_all : (List.range xcl.length).all (fun ci => match xcl[ci]? with
    | some r => (List.range r.2.2).all (fun k => decide (parseFieldDescriptor (r.2.1 k).2.2.1 = some (xty ci k)) && ((List.range r.2.2).all (fun j => decide (k = j) || !decide ((r.2.1 k).2.1 = (r.2.1 j).2.1)) && decide (vp_V (xdf ci) k = defaultValue (xty ci k)))) && (xdf ci).all (fun v => match v with
      | .ref _ => false
      | _ => true)
    | none => false) = true := by decide +kernel
theorem xty_at {ci : Nat} {r : vw_C} (h : xcl[ci]? = some r) : (List.range r.2.2).all (fun k => decide (parseFieldDescriptor (r.2.1 k).2.2.1 = some (xty ci k)) && ((List.range r.2.2).all (fun j => decide (k = j) || !decide ((r.2.1 k).2.1 = (r.2.1 j).2.1)) && decide (vp_V (xdf ci) k = defaultValue (xty ci k)))) = true ∧ (xdf ci).all (fun v => match v with
      | .ref _ => false
      | _ => true) = true := by
  have hl := (List.getElem?_eq_some_iff.mp h).1
  have h1 := List.all_eq_true.mp xty_all ci (List.mem_range.mpr hl)
  simp only [h, Bool.and_eq_true] at h1
  exact h1
theorem xty_ok {ci : Nat} {C : String} {T : u_T} {N : Nat} (h : xcl[ci]? = some (C, T, N)) : ∀ k, k < N → parseFieldDescriptor (T k).2.2.1 = some (xty ci k) := by
  intro k hk
  have h1 := List.all_eq_true.mp (xty_at h).1 k (List.mem_range.mpr hk)
  simp only [Bool.and_eq_true, decide_eq_true_eq] at h1
  exact h1.1
theorem xnm_ok {ci : Nat} {C : String} {T : u_T} {N : Nat} (h : xcl[ci]? = some (C, T, N)) : ∀ a, a < N → ∀ b, b < N → a ≠ b → (T a).2.1 ≠ (T b).2.1 := by
  intro a ha b hb hab
  have h1 := List.all_eq_true.mp (xty_at h).1 a (List.mem_range.mpr ha)
  simp only [Bool.and_eq_true] at h1
  have h2 := List.all_eq_true.mp h1.2.1 b (List.mem_range.mpr hb)
  simp only [Bool.or_eq_true, decide_eq_true_eq, Bool.not_eq_true', decide_eq_false_iff_not] at h2
  rcases h2 with q | q
  · exact absurd q hab
  · exact q
theorem xdf_ok {ci : Nat} {C : String} {T : u_T} {N : Nat} (h : xcl[ci]? = some (C, T, N)) : (∀ j, j < N → defaultValue (xty ci j) = vp_V (xdf ci) j) ∧ ∀ ρ : Nat → Nat, (xdf ci).map (xr ρ) = xdf ci := by
  refine ⟨fun j hj => ?_, fun ρ => ?_⟩
  · have h1 := List.all_eq_true.mp (xty_at h).1 j (List.mem_range.mpr hj)
    simp only [Bool.and_eq_true, decide_eq_true_eq] at h1
    exact h1.2.2.symm
  · have h2 := (xty_at h).2
    have : ∀ v ∈ xdf ci, xr ρ v = v := by
      intro v hv
      have h3 := List.all_eq_true.mp h2 v hv
      cases v with
      | ref j => cases h3
      | _ => rfl
    rw [List.map_congr_left this]
    simp
theorem xdesc_all : (List.range xN).all (fun k => !decide ((xy k).cls = "java/lang/invoke/MethodHandle") && (!decide ((xy k).cls = "java/lang/invoke/VarHandle") && (decide ((parseMethodDescriptor (xy k).desc).map (fun d => d.parameters.length) = some (xnp k)) && (plainName (xy k).cls && decide (xpc (xcd k) 0 = 0))))) = true := by decide +kernel
theorem xdesc_at {k : Nat} (hk : k < xN) : ¬ (xy k).cls = "java/lang/invoke/MethodHandle" ∧ ¬ (xy k).cls = "java/lang/invoke/VarHandle" ∧ (parseMethodDescriptor (xy k).desc).map (fun d => d.parameters.length) = some (xnp k) ∧ plainName (xy k).cls = true ∧ xpc (xcd k) 0 = 0 := by
  have h := List.all_eq_true.mp xdesc_all k (List.mem_range.mpr hk)
  simp only [Bool.and_eq_true, decide_eq_true_eq, Bool.not_eq_true', decide_eq_false_iff_not] at h
  exact h
theorem xdesc_ok {k : Nat} (hk : k < xN) : (xy k).cls ≠ "java/lang/invoke/MethodHandle" ∧ (xy k).cls ≠ "java/lang/invoke/VarHandle" ∧ (parseMethodDescriptor (xy k).desc).map (fun d => d.parameters.length) = some (xnp k) := ⟨(xdesc_at hk).1, (xdesc_at hk).2.1, (xdesc_at hk).2.2.1⟩
theorem xplain {k : Nat} (hk : k < xN) : plainName (xy k).cls = true := (xdesc_at hk).2.2.2.1
theorem xpc0 {k : Nat} (hk : k < xN) : xpc (xcd k) 0 = 0 := (xdesc_at hk).2.2.2.2
theorem xgood_all : xall.all (fun w => (w.onTables && w.keeps) || (match w with
    | .arrayClass _ => true
    | _ => false)) = true := by decide +kernel
theorem xgood : ∀ w ∈ xall, (w.onTables && w.keeps) = true ∨ ∃ ty, w = .arrayClass ty := by
  intro w hw
  have h := List.all_eq_true.mp xgood_all w hw
  rw [Bool.or_eq_true] at h
  rcases h with q | q
  · exact Or.inl q
  · cases w <;> first | exact Or.inr ⟨_, rfl⟩ | cases q
end
section
def xwfP (k : Nat) : Bool := (xcd k).zipIdx.all (fun q => xwf1 k q.2 q.1)
set_option maxRecDepth 100000 in
theorem xwf_c0 : ([0, 1, 2, 3, 4, 5] : List Nat).all xwfP = true := by decide +kernel
set_option maxRecDepth 100000 in
theorem xwf_c1 : ([6, 7, 8, 9, 10, 11] : List Nat).all xwfP = true := by decide +kernel
set_option maxRecDepth 100000 in
theorem xwf_c2 : ([12, 13, 14, 15, 16, 17] : List Nat).all xwfP = true := by decide +kernel
set_option maxRecDepth 100000 in
theorem xwf_c3 : ([18, 19, 20, 21, 22, 23] : List Nat).all xwfP = true := by decide +kernel
set_option maxRecDepth 100000 in
theorem xwf_c4 : ([24, 25, 26, 27, 28, 29] : List Nat).all xwfP = true := by decide +kernel
set_option maxRecDepth 100000 in
theorem xwf_c5 : ([30, 31, 32, 33, 34, 35] : List Nat).all xwfP = true := by decide +kernel
set_option maxRecDepth 100000 in
theorem xwf_c6 : ([36, 37, 38, 39, 40, 41] : List Nat).all xwfP = true := by decide +kernel
set_option maxRecDepth 100000 in
theorem xwf_c7 : ([42, 43, 44, 45, 46, 47] : List Nat).all xwfP = true := by decide +kernel
set_option maxRecDepth 100000 in
theorem xwf_c8 : ([48, 49, 50, 51, 52, 53] : List Nat).all xwfP = true := by decide +kernel
set_option maxRecDepth 100000 in
theorem xwf_c9 : ([54, 55, 56, 57, 58, 59] : List Nat).all xwfP = true := by decide +kernel
set_option maxRecDepth 100000 in
theorem xwf_c10 : ([60, 61, 62, 63, 64, 65] : List Nat).all xwfP = true := by decide +kernel
set_option maxRecDepth 100000 in
theorem xwf_c11 : ([66, 67, 68, 69, 70, 71] : List Nat).all xwfP = true := by decide +kernel
set_option maxRecDepth 100000 in
theorem xwf_c12 : ([72, 73, 74, 75, 76, 77] : List Nat).all xwfP = true := by decide +kernel
set_option maxRecDepth 100000 in
theorem xwf_c13 : ([78, 79, 80, 81, 82, 83] : List Nat).all xwfP = true := by decide +kernel
set_option maxRecDepth 100000 in
theorem xwf_c14 : ([84, 85, 86, 87, 88, 89] : List Nat).all xwfP = true := by decide +kernel
set_option maxRecDepth 100000 in
theorem xwf_c15 : ([90, 91, 92, 93, 94, 95] : List Nat).all xwfP = true := by decide +kernel
set_option maxRecDepth 100000 in
theorem xwf_c16 : ([96, 97, 98, 99, 100, 101] : List Nat).all xwfP = true := by decide +kernel
set_option maxRecDepth 100000 in
theorem xwf_c17 : ([102, 103, 104, 105, 106, 107] : List Nat).all xwfP = true := by decide +kernel
set_option maxRecDepth 100000 in
theorem xwf_c18 : ([108, 109, 110, 111, 112, 113] : List Nat).all xwfP = true := by decide +kernel
set_option maxRecDepth 100000 in
theorem xwf_c19 : ([114, 115, 116, 117, 118, 119] : List Nat).all xwfP = true := by decide +kernel
set_option maxRecDepth 100000 in
theorem xwf_c20 : ([120, 121, 122, 123, 124, 125] : List Nat).all xwfP = true := by decide +kernel
set_option maxRecDepth 100000 in
theorem xwf_c21 : ([126, 127, 128, 129, 130, 131] : List Nat).all xwfP = true := by decide +kernel
set_option maxRecDepth 100000 in
theorem xwf_c22 : ([132, 133, 134, 135, 136, 137] : List Nat).all xwfP = true := by decide +kernel
set_option maxRecDepth 100000 in
theorem xwf_c23 : ([138, 139, 140, 141, 142, 143] : List Nat).all xwfP = true := by decide +kernel
set_option maxRecDepth 100000 in
theorem xwf_c24 : ([144, 145, 146, 147, 148] : List Nat).all xwfP = true := by decide +kernel
theorem xwf_all : (([0, 1, 2, 3, 4, 5] : List Nat) ++ (([6, 7, 8, 9, 10, 11] : List Nat) ++ (([12, 13, 14, 15, 16, 17] : List Nat) ++ (([18, 19, 20, 21, 22, 23] : List Nat) ++ (([24, 25, 26, 27, 28, 29] : List Nat) ++ (([30, 31, 32, 33, 34, 35] : List Nat) ++ (([36, 37, 38, 39, 40, 41] : List Nat) ++ (([42, 43, 44, 45, 46, 47] : List Nat) ++ (([48, 49, 50, 51, 52, 53] : List Nat) ++ (([54, 55, 56, 57, 58, 59] : List Nat) ++ (([60, 61, 62, 63, 64, 65] : List Nat) ++ (([66, 67, 68, 69, 70, 71] : List Nat) ++ (([72, 73, 74, 75, 76, 77] : List Nat) ++ (([78, 79, 80, 81, 82, 83] : List Nat) ++ (([84, 85, 86, 87, 88, 89] : List Nat) ++ (([90, 91, 92, 93, 94, 95] : List Nat) ++ (([96, 97, 98, 99, 100, 101] : List Nat) ++ (([102, 103, 104, 105, 106, 107] : List Nat) ++ (([108, 109, 110, 111, 112, 113] : List Nat) ++ (([114, 115, 116, 117, 118, 119] : List Nat) ++ (([120, 121, 122, 123, 124, 125] : List Nat) ++ (([126, 127, 128, 129, 130, 131] : List Nat) ++ (([132, 133, 134, 135, 136, 137] : List Nat) ++ (([138, 139, 140, 141, 142, 143] : List Nat) ++ (([144, 145, 146, 147, 148] : List Nat)))))))))))))))))))))))))).all xwfP = true := by
  simp only [List.all_append, xwf_c0, xwf_c1, xwf_c2, xwf_c3, xwf_c4, xwf_c5, xwf_c6, xwf_c7, xwf_c8, xwf_c9, xwf_c10, xwf_c11, xwf_c12, xwf_c13, xwf_c14, xwf_c15, xwf_c16, xwf_c17, xwf_c18, xwf_c19, xwf_c20, xwf_c21, xwf_c22, xwf_c23, xwf_c24, Bool.and_self]
set_option maxRecDepth 100000 in
theorem xwf {k : Nat} (hk : k < xN) : xwfP k = true := by
  refine List.all_eq_true.mp xwf_all k ?_
  have h : k ∈ List.range xN := List.mem_range.mpr hk
  exact h
end
section
theorem xroomB_ok {a k : Nat} (h : xroomB a k = true) : a < xM ∧ (xrm a).frames + 1 ≤ (xrm k).frames ∧ 8 + (xnl a + 11) + (xrm a).locals ≤ (xrm k).locals := by
  unfold xroomB at h
  simp only [Bool.and_eq_true] at h
  exact ⟨Nat.blt_eq.mp h.1, Nat.le_of_ble_eq_true h.2.1, Nat.le_of_ble_eq_true h.2.2⟩
section XWL
variable {k pc a b d idx : Nat} {v : Int32}
theorem xfld_ok (h : xwf2 k pc (.getfield idx) a b d v = true) : ∃ r : vw_C, xcl[a]? = some r ∧ b < r.2.2 := by
  unfold xwf2 at h
  dsimp only at h
  split at h
  · next r hr => exact ⟨r, hr, Nat.blt_eq.mp h⟩
  · cases h
theorem xput_ok (h : xwf2 k pc (.putfield idx) a b d v = true) : ∃ r : vw_C, xcl[a]? = some r ∧ b < r.2.2 ∧ ((r.2.1 b).2.2.2 = false ∨ ((r.2.1 b).2.2.2 = true ∧ (xy k).name = "<init>" ∧ (r.2.1 b).1 = (xy k).cls)) := by
  unfold xwf2 at h
  dsimp only at h
  split at h
  · next r hr =>
    simp only [Bool.and_eq_true, Bool.or_eq_true, decide_eq_true_eq] at h
    refine ⟨r, hr, Nat.blt_eq.mp h.1, ?_⟩
    cases hf : (r.2.1 b).2.2.2 with
    | false => exact Or.inl rfl
    | true =>
      rcases h.2.2 with q | q
      · rw [hf] at q; cases q
      · exact Or.inr ⟨rfl, q.1, q.2⟩
  · cases h
theorem xfits_ok {y : Value} {C : String} {T : u_T} {N : Nat} (h : xwf2 k pc (.putfield idx) a b d v = true) (hy : xfits d y = true) (hc : xcl[a]? = some (C, T, N)) (hb : b < N) : ∃ ty, parseFieldDescriptor (T b).2.2.1 = some ty ∧ (∀ ρ, narrow ty (xr ρ y) = xr ρ y) ∧ ∀ ρ, fits ty (xr ρ y) = true := by
  refine ⟨xty a b, xty_ok hc b hb, ?_⟩
  unfold xwf2 at h
  dsimp only at h
  rw [hc] at h
  simp only [Bool.and_eq_true] at h
  have h := h.2.1
  generalize xty a b = ty at h
  match d, ty, y, h, hy with
  | 0, .int, .int x, _, _ => exact ⟨fun _ => rfl, fun _ => rfl⟩
  | 1, .boolean, .int x, _, hy =>
    rcases xbl_ok hy with q | q <;> subst q <;> exact ⟨fun _ => rfl, fun _ => rfl⟩
  | 2, .array t, .ref x, _, _ => exact ⟨fun _ => rfl, fun _ => rfl⟩
  | 2, .object t, .ref x, _, _ => exact ⟨fun _ => rfl, fun _ => rfl⟩
theorem xcall_ok (h : xwf2 k pc (.invokevirtual idx) a b d v = true) : a < xM ∧ ((xrm a).frames + 1 ≤ (xrm k).frames ∧ 8 + (xnl a + 11) + (xrm a).locals ≤ (xrm k).locals) ∧ ∃ r : vw_C, xcl[b]? = some r ∧ r.1 = (xy a).cls := by
  unfold xwf2 at h
  dsimp only at h
  rw [Bool.and_eq_true] at h
  obtain ⟨h1, h2⟩ := xroomB_ok h.1
  refine ⟨h1, h2, ?_⟩
  have h := h.2
  split at h
  · next r hr => exact ⟨r, hr, of_decide_eq_true h⟩
  · cases h
theorem xcallS_ok (h : xwf2 k pc (.invokestatic idx) a b 0 v = true) : a < xM ∧ ((xrm a).frames + 1 ≤ (xrm k).frames ∧ 8 + (xnl a + 11) + (xrm a).locals ≤ (xrm k).locals) := xroomB_ok h
theorem xcallI_ok (hd : d < 2) (h : xwf2 k pc (.invokespecial idx) a b d v = true) : a < xM ∧ ((xrm a).frames + 1 ≤ (xrm k).frames ∧ 8 + (xnl a + 11) + (xrm a).locals ≤ (xrm k).locals) ∧ xrt a = none ∧ (xy a).name = "<init>" ∧ (d = 0 ∨ ((xy k).cls, idx, xy a, xhost) ∈ xnw) := by
  match d, hd, h with
  | 0, _, h =>
    have h : (xroomB a k && (decide (xrt a = none) && decide ((xy a).name = "<init>"))) = true := h
    simp only [Bool.and_eq_true, decide_eq_true_eq] at h
    obtain ⟨h1, h2⟩ := xroomB_ok h.1
    exact ⟨h1, h2, h.2.1, h.2.2, Or.inl rfl⟩
  | 1, _, h =>
    have h : (xroomB a k && (decide (xrt a = none) && (decide ((xy a).name = "<init>") && decide (((xy k).cls, idx, xy a, xhost) ∈ xnw)))) = true := h
    simp only [Bool.and_eq_true, decide_eq_true_eq] at h
    obtain ⟨h1, h2⟩ := xroomB_ok h.1
    exact ⟨h1, h2, h.2.1, h.2.2.1, Or.inr h.2.2.2⟩
theorem xnew_ok (h : xwf2 k pc (.new idx) a b d v = true) : ∃ r : vw_C, xcl[a]? = some r ∧ r.2.2 = b := by
  unfold xwf2 at h
  dsimp only at h
  split at h
  · next r hr => exact ⟨r, hr, Nat.eq_of_beq_eq_true h⟩
  · cases h
theorem xrb_ok {x : Int32} (h : xwf2 k pc .ireturn a b d v = true) (hb : xrb k x = true) : ∃ ty, xrt k = some ty ∧ narrow ty (.int x) = .int x := by
  unfold xwf2 at h
  unfold xrb at hb
  dsimp only at h
  split at h
  · next hr => exact ⟨_, hr, rfl⟩
  · next hr =>
    rw [hr] at hb
    refine ⟨_, hr, ?_⟩
    rcases xbl_ok hb with q | q <;> subst q <;> rfl
  · cases h
end XWL
-- one step
def xstep (sc : Option (Nat × (Nat → Int32))) (en : xE) (i : Nat) (L : List (Option Value)) (st : List Value) (w : xW) : xR :=
  match en with
  | (_, ins, a, b, d, v) => match ins with
    | .iconst _ => xpush (.int v) i L st w
    | .bipush _ => xpush (.int v) i L st w
    | .sipush _ => xpush (.int v) i L st w
    | .ldc _ => xpush (.int v) i L st w
    | .iload_n n => xldi n.val i L st w
    | .iload n => xldi n i L st w
    | .aload_n n => xlda n.val i L st w
    | .aload n => xlda n i L st w
    | .istore_n n => xsti n.val i L w st
    | .istore n => xsti n i L w st
    | .astore_n n => xsta n.val i L w st
    | .iinc n _ => xinc n v i L st w
    | .iadd => xbin (fun x y => x + y) i L w st
    | .isub => xbin (fun x y => x - y) i L w st
    | .imul => xbin (fun x y => x * y) i L w st
    | .iand => xbin (fun x y => x &&& y) i L w st
    | .ior => xbin (fun x y => x ||| y) i L w st
    | .ixor => xbin (fun x y => x ^^^ y) i L w st
    | .ishl => xbin (fun x y => x <<< (y &&& 31)) i L w st
    | .ishr => xbin (fun x y => x >>> (y &&& 31)) i L w st
    | .idiv => xdiv (fun x y => x / y) i L w st
    | .irem => xdiv xrem i L w st
    | .ineg => xun (fun x => -x) i L w st
    | .i2b => xun (fun x => x.toInt8.toInt32) i L w st
    | .dup => xdup i L w st
    | .dup2 => xdup2 i L w st
    | .pop => xpop i L w st
    | .goto _ => some ((a, L, st), w, true)
    | .getfield _ => xgetf a b i L w st
    | .putfield _ => match d with
      | 0 => xputf a b i false L w st
      | 1 => xputf a b i true L w st
      | 2 => xputa a b i L w st
      | _ => none
    | .iaload => xald sc i L w st
    | .iastore => xast i L w st
    | .arraylength => xlen sc i L w st
    | _ => none
def xsteps (sc : Option (Nat × (Nat → Int32))) (cd : List xE) : Nat → xF → xW → xR
  | 0, fr, w => some (fr, w, true)
  | n + 1, fr, w => match xnth cd fr.1 with
    | none => none
    | some en => match xstep sc en fr.1 fr.2.1 fr.2.2 w with
      | none => none
      | some q => match xsteps sc cd n q.1 q.2.1 with
        | none => none
        | some z => some (z.1, z.2.1, q.2.2 && z.2.2)
-- the world of a method that is being walked
def xag (nc n0 : Nat) (ρ0 ρ : Nat → Nat) : Prop := (nc = 0 → ρ = ρ0) ∧ ∀ j, (j < n0 ∨ j = xscr) → ρ j = ρ0 j
def xLoc (ls : Array Slot) (n : Nat) (ρ : Nat → Nat) (L : List (Option Value)) : Prop := ∃ l, lv_has ls n l ∧ ∀ (j : Nat) (v : Value), L[j]? = some (some v) → (j, xr ρ v) ∈ l ∧ v.category = 1
def xNW (U : State) : Prop := ∀ x ∈ xnw, va_Nw (.methodLinkNest x.1 x.2.1 x.2.2.1 x.2.2.2) U
def xEnv (k : Nat) (sc : Option (Nat × (Nat → Int32))) (p : Program) (s : State) (m : MethodId) (args : Array Value) (meth : Method) (c : Code) (D : va_G) (cA : ClassId) (A : Nat → Prop) (ρ0 : Nat → Nat) : Prop :=
  k < xN ∧ p.tables.exec = Jvm.exec ∧ c.code = xby k ∧ c.maxLocals = xnl k ∧ meth.sig.returnType = xrt k ∧ meth.locks = false ∧ s.vm.findClass (xy k).cls = some m.cls ∧ (∀ w ∈ xall, w.before args s = true) ∧ xNW s ∧ va_K D xcl [(cA, .int)] s ∧ (∀ q, s.heap.size ≤ q → A q) ∧ ((xy k).name = "<init>" → meth.name = "<init>") ∧ (∀ n f, sc = some (n, f) → va_X (ρ0 xscr) n f s s.heap ∧ ρ0 xscr < s.heap.size ∧ ¬ A (ρ0 xscr))
abbrev xT : Type := State → Array Value → List Frame → va_G → ClassId → (Nat → Prop) → (Nat → Nat) → Nat → State → Prop
def xOK (k : Nat) (sc : Option (Nat × (Nat → Int32))) (E : xT) (fr : xF) (w : xW) (nc ns : Nat) : Prop :=
  ∀ (p : Program) (l : Launch) (e : Env) (s : State) (m : MethodId) (args : Array Value) (below : List Frame) (meth : Method) (c : Code) (D : va_G) (cA : ClassId) (A : Nat → Prop) (ρ0 : Nat → Nat) (n0 : Nat),
  xEnv k sc p s m args meth c D cA A ρ0 →
  ∀ (ρ : Nat → Nat) (H : Heap) (locs : List Loc) (ls : Array Slot),
  xag nc n0 ρ0 ρ → n0 ≤ w.length → va_P D xcl (xwd cA ρ w) H → va_D A (xwd cA ρ w) → va_S A s.heap H locs → xLoc ls (xnl k) ρ fr.2.1 →
  W p l e (xrm k) s m args below meth c H locs nc ns (E s args below D cA A ρ0 n0) (F0 m (xpc (xcd k) fr.1) ls (fr.2.2.map (xr ρ)))
theorem xr_cat (ρ : Nat → Nat) (v : Value) : (xr ρ v).category = v.category := by cases v <;> rfl
theorem xwd_get {cA : ClassId} {ρ : Nat → Nat} {w : xW} {q : Nat} {c : xC} (h : xnth w q = some c) : (xwd cA ρ w)[q]? = some (ρ q, xcell cA ρ c) := by
  rw [xnth_eq] at h
  simp [xwd, h]
theorem xwd_set {cA : ClassId} {ρ : Nat → Nat} {w : xW} {q : Nat} {c : xC} : xwd cA ρ (w.set q c) = (xwd cA ρ w).set q (ρ q, xcell cA ρ c) := by
  simp [xwd]
theorem xLoc_at {ls : Array Slot} {n : Nat} {ρ : Nat → Nat} {L : List (Option Value)} {j : Nat} {v : Value} (h : xLoc ls n ρ L) (hj : xnth L j = some (some v)) : ls[j]? = some (.val (xr ρ v)) := by
  obtain ⟨l, h1, h2⟩ := h
  rw [xnth_eq] at hj
  exact h1.2.2 _ (h2 j v hj).1
theorem xLoc_set {ls' : Array Slot} {n i : Nat} {ρ : Nat → Nat} {L : List (Option Value)} {l : List (Nat × Value)} {v u : Value} (h2 : ∀ (j : Nat) (v : Value), L[j]? = some (some v) → (j, xr ρ v) ∈ l ∧ v.category = 1) (hv : u = xr ρ v) (hc : v.category = 1)
    (h : lv_has ls' n ((i, u) :: l.filter (fun q => !(q.1 == i) && !(q.1 + 1 == i && q.2.category == 2)))) : xLoc ls' n ρ (L.set i (some v)) := by
  subst hv
  refine ⟨_, h, fun j x hj => ?_⟩
  by_cases hji : j = i
  · subst hji
    rw [List.getElem?_set] at hj
    simp only [if_true] at hj
    split at hj
    · cases hj
      exact ⟨List.mem_cons_self, hc⟩
    · cases hj
  · rw [List.getElem?_set_ne (Ne.symm hji)] at hj
    obtain ⟨g1, g2⟩ := h2 j x hj
    refine ⟨List.mem_cons_of_mem _ (List.mem_filter.mpr ⟨g1, ?_⟩), g2⟩
    have hz : ((xr ρ x).category == 2) = false := by rw [xr_cat, g2]; rfl
    have hy : (j == i) = false := by simpa using hji
    simp [hz, hy]
theorem xwf_get {k i : Nat} {en : xE} (hk : k < xN) (hi : xnth (xcd k) i = some en) : xwf1 k i en = true := by
  have h := xwf hk
  unfold xwfP at h
  rw [List.all_eq_true] at h
  rw [xnth_eq] at hi
  refine h (en, i) ?_
  rw [List.mem_zipIdx_iff_getElem?]
  exact hi
theorem xpc_eq {k i : Nat} {en : xE} (hi : xnth (xcd k) i = some en) : xpc (xcd k) i = en.1 := by
  unfold xpc; rw [hi]
theorem xlt {a : Nat} (h : a < xM) : a < xN := Nat.lt_trans h (by decide)
theorem xall_in (w : Cond) (h : w ∈ xall) : w ∈ xall := h
theorem xlay_in {ci : Nat} {r : vw_C} (h : xcl[ci]? = some r) : ∀ w ∈ u_ws r.1 r.2.1 r.2.2, w ∈ xall := by
  intro w hw
  exact List.mem_append_left _ (List.mem_flatMap.mpr ⟨r, List.mem_of_getElem? h, hw⟩)
theorem xword_in {k i : Nat} {en : xE} (hk : k < xN) (hi : xnth (xcd k) i = some en) : ∀ w ∈ xword k en, w ∈ xall := by
  intro w hw
  rw [xnth_eq] at hi
  exact List.mem_append_right _ (List.mem_append_right _ (List.mem_flatMap.mpr ⟨k, List.mem_range.mpr hk, List.mem_flatMap.mpr ⟨en, List.mem_of_getElem? hi, hw⟩⟩))
theorem xcode_in {k : Nat} (hk : k < xM) : Cond.code (xy k) (xby k) (xnl k) (xrt k) ∈ xall :=
  List.mem_append_right _ (List.mem_append_left _ (List.mem_map.mpr ⟨k, List.mem_range.mpr hk, rfl⟩))
section XST
variable {k : Nat} {sc : Option (Nat × (Nat → Int32))} {E : xT} {i : Nat} {L : List (Option Value)} {st : List Value} {w : xW} {nc ns : Nat}
theorem xdec {pc a b d : Nat} {v : Int32} {ins : Instr} (hk : k < xN) (hi : xnth (xcd k) i = some (pc, ins, a, b, d, v)) : decode (xby k) pc = .ok (ins, xilen ins d) ∧ (xjmp ins = true ∨ xpc (xcd k) (i + 1) = pc + xilen ins d) ∧ xwf2 k pc ins a b d v = true := by
  have h := xwf_get hk hi
  unfold xwf1 at h
  simp only [Bool.and_eq_true, Bool.or_eq_true, decide_eq_true_eq] at h
  exact ⟨h.1, h.2.1, h.2.2⟩
/-- from a step to the next, where the heap stays -/
theorem xOK_pure {i' : Nat} {L' : List (Option Value)} {st' : List Value} {pc a b d : Nat} {v : Int32} {ins : Instr} (hi : xnth (xcd k) i = some (pc, ins, a, b, d, v)) (kk : xOK k sc E (i', L', st') w nc ns)
    (h : ∀ (p : Program) (l : Launch) (e : Env) (s : State) (m : MethodId) (args : Array Value) (below : List Frame) (meth : Method) (c : Code) (D : va_G) (cA : ClassId) (A : Nat → Prop) (ρ0 ρ : Nat → Nat) (n0 : Nat) (H : Heap) (locs : List Loc) (ls : Array Slot) (Q : State → Prop),
      xEnv k sc p s m args meth c D cA A ρ0 → xag nc n0 ρ0 ρ → va_P D xcl (xwd cA ρ w) H → va_D A (xwd cA ρ w) → va_S A s.heap H locs → xLoc ls (xnl k) ρ L →
      (∀ ls' : Array Slot, xLoc ls' (xnl k) ρ L' → W p l e (xrm k) s m args below meth c H locs nc ns Q (F0 m (xpc (xcd k) i') ls' (st'.map (xr ρ)))) →
      W p l e (xrm k) s m args below meth c H locs nc ns Q (F0 m pc ls (st.map (xr ρ)))) : xOK k sc E (i, L, st) w nc ns := by
  intro p l e s m args below meth c D cA A ρ0 n0 V ρ H locs ls hag hn0 hP hD hS hL
  show W p l e (xrm k) s m args below meth c H locs nc ns _ (F0 m (xpc (xcd k) i) ls (st.map (xr ρ)))
  rw [xpc_eq hi]
  exact h p l e s m args below meth c D cA A ρ0 ρ n0 H locs ls _ V hag hP hD hS hL (fun ls' hL' => kk p l e s m args below meth c D cA A ρ0 n0 V ρ H locs ls' hag hn0 hP hD hS hL')
/-- from a step to the next, where a cell is set -/
theorem xOK_cell {i' : Nat} {L' : List (Option Value)} {st' : List Value} {w' : xW} {pc a b d : Nat} {v : Int32} {ins : Instr} (hi : xnth (xcd k) i = some (pc, ins, a, b, d, v)) (hw : w'.length = w.length) (kk : xOK k sc E (i', L', st') w' nc ns)
    (h : ∀ (p : Program) (l : Launch) (e : Env) (s : State) (m : MethodId) (args : Array Value) (below : List Frame) (meth : Method) (c : Code) (D : va_G) (cA : ClassId) (A : Nat → Prop) (ρ0 ρ : Nat → Nat) (n0 : Nat) (H : Heap) (locs : List Loc) (ls : Array Slot) (Q : State → Prop),
      xEnv k sc p s m args meth c D cA A ρ0 → xag nc n0 ρ0 ρ → va_P D xcl (xwd cA ρ w) H → va_D A (xwd cA ρ w) → va_S A s.heap H locs → xLoc ls (xnl k) ρ L →
      (∀ (H' : Heap) (locs' : List Loc), xLoc ls (xnl k) ρ L' → va_P D xcl (xwd cA ρ w') H' → va_D A (xwd cA ρ w') → va_S A s.heap H' locs' → W p l e (xrm k) s m args below meth c H' locs' nc ns Q (F0 m (xpc (xcd k) i') ls (st'.map (xr ρ)))) →
      W p l e (xrm k) s m args below meth c H locs nc ns Q (F0 m pc ls (st.map (xr ρ)))) : xOK k sc E (i, L, st) w nc ns := by
  intro p l e s m args below meth c D cA A ρ0 n0 V ρ H locs ls hag hn0 hP hD hS hL
  show W p l e (xrm k) s m args below meth c H locs nc ns _ (F0 m (xpc (xcd k) i) ls (st.map (xr ρ)))
  rw [xpc_eq hi]
  exact h p l e s m args below meth c D cA A ρ0 ρ n0 H locs ls _ V hag hP hD hS hL (fun H' locs' hL' hP' hD' hS' => kk p l e s m args below meth c D cA A ρ0 n0 V ρ H' locs' ls hag (by rw [hw]; exact hn0) hP' hD' hS' hL')
theorem xnx {pc a b d : Nat} {v : Int32} {ins : Instr} (hk : k < xN) (hi : xnth (xcd k) i = some (pc, ins, a, b, d, v)) (hj : xjmp ins = false) : xpc (xcd k) (i + 1) = pc + xilen ins d := by
  rcases (xdec hk hi).2.1 with h | h
  · rw [hj] at h; cases h
  · exact h
theorem xs_iconst {n : Int} {pc a b d : Nat} {v : Int32} (hk : k < xN) (hi : xnth (xcd k) i = some (pc, .iconst n, a, b, d, v)) (kk : xOK k sc E (i + 1, L, .int v :: st) w nc ns) : xOK k sc E (i, L, st) w nc ns := by
  obtain ⟨h1, -, h3⟩ := xdec hk hi
  have hn := xnx hk hi rfl
  refine xOK_pure hi kk fun p l e s m args below meth c D cA A ρ0 ρ n0 H locs ls Q V hag hP hD hS hL K => ?_
  have K := K ls hL
  rw [hn] at K
  exact lv_iconst V.2.1 V.2.2.1 h1 (show Int32.ofInt n = v from of_decide_eq_true h3) K
theorem xs_bipush {n : Int} {pc a b d : Nat} {v : Int32} (hk : k < xN) (hi : xnth (xcd k) i = some (pc, .bipush n, a, b, d, v)) (kk : xOK k sc E (i + 1, L, .int v :: st) w nc ns) : xOK k sc E (i, L, st) w nc ns := by
  obtain ⟨h1, -, h3⟩ := xdec hk hi
  have hn := xnx hk hi rfl
  refine xOK_pure hi kk fun p l e s m args below meth c D cA A ρ0 ρ n0 H locs ls Q V hag hP hD hS hL K => ?_
  have K := K ls hL
  rw [hn] at K
  exact lv_bipush V.2.1 V.2.2.1 h1 (show (Int8.ofInt n).toInt32 = v from of_decide_eq_true h3) K
theorem xs_sipush {n : Int} {pc a b d : Nat} {v : Int32} (hk : k < xN) (hi : xnth (xcd k) i = some (pc, .sipush n, a, b, d, v)) (kk : xOK k sc E (i + 1, L, .int v :: st) w nc ns) : xOK k sc E (i, L, st) w nc ns := by
  obtain ⟨h1, -, h3⟩ := xdec hk hi
  have hn := xnx hk hi rfl
  refine xOK_pure hi kk fun p l e s m args below meth c D cA A ρ0 ρ n0 H locs ls Q V hag hP hD hS hL K => ?_
  have K := K ls hL
  rw [hn] at K
  exact lv_sipush V.2.1 V.2.2.1 h1 (show (Int16.ofInt n).toInt32 = v from of_decide_eq_true h3) K
theorem xs_ldc {n : Nat} {pc a b d : Nat} {v : Int32} (hk : k < xN) (hi : xnth (xcd k) i = some (pc, .ldc n, a, b, d, v)) (kk : xOK k sc E (i + 1, L, .int v :: st) w nc ns) : xOK k sc E (i, L, st) w nc ns := by
  obtain ⟨h1, -, h3⟩ := xdec hk hi
  have hn := xnx hk hi rfl
  refine xOK_pure hi kk fun p l e s m args below meth c D cA A ρ0 ρ n0 H locs ls Q V hag hP hD hS hL K => ?_
  have K := K ls hL
  rw [hn] at K
  exact lv_ldc V.2.1 V.2.2.1 V.2.2.2.2.2.2.1 (V.2.2.2.2.2.2.2.1 _ (xall_in _ (xword_in hk hi _ List.mem_cons_self))) h1 K
theorem xs_iload_n {n : Fin 4} {pc a b d : Nat} {v : Int32} {x : Int32} (hk : k < xN) (hi : xnth (xcd k) i = some (pc, .iload_n n, a, b, d, v)) (hl : xnth L n.val = some (some (.int x))) (kk : xOK k sc E (i + 1, L, .int x :: st) w nc ns) : xOK k sc E (i, L, st) w nc ns := by
  obtain ⟨h1, -, -⟩ := xdec hk hi
  have hn := xnx hk hi rfl
  refine xOK_pure hi kk fun p l e s m args below meth c D cA A ρ0 ρ n0 H locs ls Q V hag hP hD hS hL K => ?_
  have K := K ls hL
  rw [hn] at K
  exact lv_iload_n V.2.1 V.2.2.1 h1 rfl (xLoc_at hL hl) K
theorem xs_iload {n : Nat} {pc a b d : Nat} {v : Int32} {x : Int32} (hk : k < xN) (hi : xnth (xcd k) i = some (pc, .iload n, a, b, d, v)) (hl : xnth L n = some (some (.int x))) (kk : xOK k sc E (i + 1, L, .int x :: st) w nc ns) : xOK k sc E (i, L, st) w nc ns := by
  obtain ⟨h1, -, -⟩ := xdec hk hi
  have hn := xnx hk hi rfl
  refine xOK_pure hi kk fun p l e s m args below meth c D cA A ρ0 ρ n0 H locs ls Q V hag hP hD hS hL K => ?_
  have K := K ls hL
  rw [hn] at K
  exact lv_iload V.2.1 V.2.2.1 h1 (xLoc_at hL hl) K
theorem xs_aload_n {n : Fin 4} {pc a b d : Nat} {v : Int32} {x : Nat} (hk : k < xN) (hi : xnth (xcd k) i = some (pc, .aload_n n, a, b, d, v)) (hl : xnth L n.val = some (some (.ref x))) (kk : xOK k sc E (i + 1, L, .ref x :: st) w nc ns) : xOK k sc E (i, L, st) w nc ns := by
  obtain ⟨h1, -, -⟩ := xdec hk hi
  have hn := xnx hk hi rfl
  refine xOK_pure hi kk fun p l e s m args below meth c D cA A ρ0 ρ n0 H locs ls Q V hag hP hD hS hL K => ?_
  have K := K ls hL
  rw [hn] at K
  exact lv_aload_n V.2.1 V.2.2.1 h1 rfl (xLoc_at hL hl) K
theorem xs_aload {n : Nat} {pc a b d : Nat} {v : Int32} {x : Nat} (hk : k < xN) (hi : xnth (xcd k) i = some (pc, .aload n, a, b, d, v)) (hl : xnth L n = some (some (.ref x))) (kk : xOK k sc E (i + 1, L, .ref x :: st) w nc ns) : xOK k sc E (i, L, st) w nc ns := by
  obtain ⟨h1, -, -⟩ := xdec hk hi
  have hn := xnx hk hi rfl
  refine xOK_pure hi kk fun p l e s m args below meth c D cA A ρ0 ρ n0 H locs ls Q V hag hP hD hS hL K => ?_
  have K := K ls hL
  rw [hn] at K
  exact lv_aload V.2.1 V.2.2.1 h1 (xLoc_at hL hl) K
theorem xs_istore_n {n : Fin 4} {pc a b d : Nat} {v : Int32} {x : Int32} (hk : k < xN) (hi : xnth (xcd k) i = some (pc, .istore_n n, a, b, d, v)) (kk : xOK k sc E (i + 1, L.set n.val (some (.int x)), st) w nc ns) : xOK k sc E (i, L, .int x :: st) w nc ns := by
  obtain ⟨h1, -, h3⟩ := xdec hk hi
  have hn := xnx hk hi rfl
  refine xOK_pure hi kk fun p l e s m args below meth c D cA A ρ0 ρ n0 H locs ls Q V hag hP hD hS hL K => ?_
  obtain ⟨lv, g1, g2⟩ := hL
  refine lv_istore_n V.2.1 V.2.2.1 h1 rfl g1 (Nat.blt_eq.mp (show Nat.blt n.val (xnl k) = true from h3)) rfl (fun ls' h' => ?_)
  have K := K ls' (xLoc_set (v := .int x) g2 rfl rfl h')
  rw [hn] at K
  exact K
theorem xs_istore {n : Nat} {pc a b d : Nat} {v : Int32} {x : Int32} (hk : k < xN) (hi : xnth (xcd k) i = some (pc, .istore n, a, b, d, v)) (kk : xOK k sc E (i + 1, L.set n (some (.int x)), st) w nc ns) : xOK k sc E (i, L, .int x :: st) w nc ns := by
  obtain ⟨h1, -, h3⟩ := xdec hk hi
  have hn := xnx hk hi rfl
  refine xOK_pure hi kk fun p l e s m args below meth c D cA A ρ0 ρ n0 H locs ls Q V hag hP hD hS hL K => ?_
  obtain ⟨lv, g1, g2⟩ := hL
  refine lv_istore V.2.1 V.2.2.1 h1 g1 (Nat.blt_eq.mp (show Nat.blt n (xnl k) = true from h3)) rfl (fun ls' h' => ?_)
  have K := K ls' (xLoc_set (v := .int x) g2 rfl rfl h')
  rw [hn] at K
  exact K
theorem xs_astore_n {n : Fin 4} {pc a b d : Nat} {v : Int32} {x : Nat} (hk : k < xN) (hi : xnth (xcd k) i = some (pc, .astore_n n, a, b, d, v)) (kk : xOK k sc E (i + 1, L.set n.val (some (.ref x)), st) w nc ns) : xOK k sc E (i, L, .ref x :: st) w nc ns := by
  obtain ⟨h1, -, h3⟩ := xdec hk hi
  have hn := xnx hk hi rfl
  refine xOK_pure hi kk fun p l e s m args below meth c D cA A ρ0 ρ n0 H locs ls Q V hag hP hD hS hL K => ?_
  obtain ⟨lv, g1, g2⟩ := hL
  refine lv_astore_n V.2.1 V.2.2.1 h1 rfl g1 (Nat.blt_eq.mp (show Nat.blt n.val (xnl k) = true from h3)) rfl (fun ls' h' => ?_)
  have K := K ls' (xLoc_set (v := .ref x) g2 rfl rfl h')
  rw [hn] at K
  exact K
theorem xs_iinc {n : Nat} {z : Int} {pc a b d : Nat} {v x : Int32} (hk : k < xN) (hi : xnth (xcd k) i = some (pc, .iinc n z, a, b, d, v)) (hl : xnth L n = some (some (.int x))) (kk : xOK k sc E (i + 1, L.set n (some (.int (x + v))), st) w nc ns) : xOK k sc E (i, L, st) w nc ns := by
  obtain ⟨h1, -, h3⟩ := xdec hk hi
  have hn := xnx hk hi rfl
  have h3 : (Nat.blt n (xnl k) && decide (Int32.ofInt z = v)) = true := h3
  rw [Bool.and_eq_true] at h3
  have hv : Int32.ofInt z = v := of_decide_eq_true h3.2
  refine xOK_pure hi kk fun p l e s m args below meth c D cA A ρ0 ρ n0 H locs ls Q V hag hP hD hS hL K => ?_
  obtain ⟨lv, g1, g2⟩ := hL
  rw [xnth_eq] at hl
  obtain ⟨j, hj⟩ := List.getElem?_of_mem (g2 n _ hl).1
  refine lv_iinc V.2.1 V.2.2.1 h1 g1 hj (by rw [hv]) (Nat.blt_eq.mp h3.1) rfl (fun ls' h' => ?_)
  have K := K ls' (xLoc_set (v := .int (x + v)) g2 rfl rfl h')
  rw [hn] at K
  exact K
theorem xs_iadd {pc a b d : Nat} {v x y : Int32} (hk : k < xN) (hi : xnth (xcd k) i = some (pc, .iadd, a, b, d, v)) (kk : xOK k sc E (i + 1, L, .int (x + y) :: st) w nc ns) : xOK k sc E (i, L, .int y :: .int x :: st) w nc ns := by
  obtain ⟨h1, -, -⟩ := xdec hk hi
  have hn := xnx hk hi rfl
  refine xOK_pure hi kk fun p l e s m args below meth c D cA A ρ0 ρ n0 H locs ls Q V hag hP hD hS hL K => ?_
  have K := K ls hL
  rw [hn] at K
  exact lv_iadd V.2.1 V.2.2.1 h1 K
theorem xs_isub {pc a b d : Nat} {v x y : Int32} (hk : k < xN) (hi : xnth (xcd k) i = some (pc, .isub, a, b, d, v)) (kk : xOK k sc E (i + 1, L, .int (x - y) :: st) w nc ns) : xOK k sc E (i, L, .int y :: .int x :: st) w nc ns := by
  obtain ⟨h1, -, -⟩ := xdec hk hi
  have hn := xnx hk hi rfl
  refine xOK_pure hi kk fun p l e s m args below meth c D cA A ρ0 ρ n0 H locs ls Q V hag hP hD hS hL K => ?_
  have K := K ls hL
  rw [hn] at K
  exact lv_isub V.2.1 V.2.2.1 h1 K
theorem xs_imul {pc a b d : Nat} {v x y : Int32} (hk : k < xN) (hi : xnth (xcd k) i = some (pc, .imul, a, b, d, v)) (kk : xOK k sc E (i + 1, L, .int (x * y) :: st) w nc ns) : xOK k sc E (i, L, .int y :: .int x :: st) w nc ns := by
  obtain ⟨h1, -, -⟩ := xdec hk hi
  have hn := xnx hk hi rfl
  refine xOK_pure hi kk fun p l e s m args below meth c D cA A ρ0 ρ n0 H locs ls Q V hag hP hD hS hL K => ?_
  have K := K ls hL
  rw [hn] at K
  exact lv_imul V.2.1 V.2.2.1 h1 K
theorem xs_iand {pc a b d : Nat} {v x y : Int32} (hk : k < xN) (hi : xnth (xcd k) i = some (pc, .iand, a, b, d, v)) (kk : xOK k sc E (i + 1, L, .int (x &&& y) :: st) w nc ns) : xOK k sc E (i, L, .int y :: .int x :: st) w nc ns := by
  obtain ⟨h1, -, -⟩ := xdec hk hi
  have hn := xnx hk hi rfl
  refine xOK_pure hi kk fun p l e s m args below meth c D cA A ρ0 ρ n0 H locs ls Q V hag hP hD hS hL K => ?_
  have K := K ls hL
  rw [hn] at K
  exact lv_iand V.2.1 V.2.2.1 h1 K
theorem xs_ior {pc a b d : Nat} {v x y : Int32} (hk : k < xN) (hi : xnth (xcd k) i = some (pc, .ior, a, b, d, v)) (kk : xOK k sc E (i + 1, L, .int (x ||| y) :: st) w nc ns) : xOK k sc E (i, L, .int y :: .int x :: st) w nc ns := by
  obtain ⟨h1, -, -⟩ := xdec hk hi
  have hn := xnx hk hi rfl
  refine xOK_pure hi kk fun p l e s m args below meth c D cA A ρ0 ρ n0 H locs ls Q V hag hP hD hS hL K => ?_
  have K := K ls hL
  rw [hn] at K
  exact lv_ior V.2.1 V.2.2.1 h1 K
theorem xs_ixor {pc a b d : Nat} {v x y : Int32} (hk : k < xN) (hi : xnth (xcd k) i = some (pc, .ixor, a, b, d, v)) (kk : xOK k sc E (i + 1, L, .int (x ^^^ y) :: st) w nc ns) : xOK k sc E (i, L, .int y :: .int x :: st) w nc ns := by
  obtain ⟨h1, -, -⟩ := xdec hk hi
  have hn := xnx hk hi rfl
  refine xOK_pure hi kk fun p l e s m args below meth c D cA A ρ0 ρ n0 H locs ls Q V hag hP hD hS hL K => ?_
  have K := K ls hL
  rw [hn] at K
  exact lv_ixor V.2.1 V.2.2.1 h1 K
theorem xs_ishl {pc a b d : Nat} {v x y : Int32} (hk : k < xN) (hi : xnth (xcd k) i = some (pc, .ishl, a, b, d, v)) (kk : xOK k sc E (i + 1, L, .int (x <<< (y &&& 31)) :: st) w nc ns) : xOK k sc E (i, L, .int y :: .int x :: st) w nc ns := by
  obtain ⟨h1, -, -⟩ := xdec hk hi
  have hn := xnx hk hi rfl
  refine xOK_pure hi kk fun p l e s m args below meth c D cA A ρ0 ρ n0 H locs ls Q V hag hP hD hS hL K => ?_
  have K := K ls hL
  rw [hn] at K
  exact lv_ishl V.2.1 V.2.2.1 h1 K
theorem xs_ishr {pc a b d : Nat} {v x y : Int32} (hk : k < xN) (hi : xnth (xcd k) i = some (pc, .ishr, a, b, d, v)) (kk : xOK k sc E (i + 1, L, .int (x >>> (y &&& 31)) :: st) w nc ns) : xOK k sc E (i, L, .int y :: .int x :: st) w nc ns := by
  obtain ⟨h1, -, -⟩ := xdec hk hi
  have hn := xnx hk hi rfl
  refine xOK_pure hi kk fun p l e s m args below meth c D cA A ρ0 ρ n0 H locs ls Q V hag hP hD hS hL K => ?_
  have K := K ls hL
  rw [hn] at K
  exact lv_ishr V.2.1 V.2.2.1 h1 K
theorem xs_idiv {pc a b d : Nat} {v x y : Int32} (hk : k < xN) (hi : xnth (xcd k) i = some (pc, .idiv, a, b, d, v)) (hne : ¬ y = 0) (kk : xOK k sc E (i + 1, L, .int (x / y) :: st) w nc ns) : xOK k sc E (i, L, .int y :: .int x :: st) w nc ns := by
  obtain ⟨h1, -, -⟩ := xdec hk hi
  have hn := xnx hk hi rfl
  refine xOK_pure hi kk fun p l e s m args below meth c D cA A ρ0 ρ n0 H locs ls Q V hag hP hD hS hL K => ?_
  have K := K ls hL
  rw [hn] at K
  exact lv_idiv V.2.1 V.2.2.1 h1 hne K
theorem xs_irem {pc a b d : Nat} {v x y : Int32} (hk : k < xN) (hi : xnth (xcd k) i = some (pc, .irem, a, b, d, v)) (hne : ¬ y = 0) (kk : xOK k sc E (i + 1, L, .int (xrem x y) :: st) w nc ns) : xOK k sc E (i, L, .int y :: .int x :: st) w nc ns := by
  obtain ⟨h1, -, -⟩ := xdec hk hi
  have hn := xnx hk hi rfl
  refine xOK_pure hi kk fun p l e s m args below meth c D cA A ρ0 ρ n0 H locs ls Q V hag hP hD hS hL K => ?_
  have K := K ls hL
  rw [hn] at K
  exact lv_irem V.2.1 V.2.2.1 h1 hne K
theorem xs_ineg {pc a b d : Nat} {v x : Int32} (hk : k < xN) (hi : xnth (xcd k) i = some (pc, .ineg, a, b, d, v)) (kk : xOK k sc E (i + 1, L, .int (-x) :: st) w nc ns) : xOK k sc E (i, L, .int x :: st) w nc ns := by
  obtain ⟨h1, -, -⟩ := xdec hk hi
  have hn := xnx hk hi rfl
  refine xOK_pure hi kk fun p l e s m args below meth c D cA A ρ0 ρ n0 H locs ls Q V hag hP hD hS hL K => ?_
  have K := K ls hL
  rw [hn] at K
  exact lv_ineg V.2.1 V.2.2.1 h1 K
theorem xs_i2b {pc a b d : Nat} {v x : Int32} (hk : k < xN) (hi : xnth (xcd k) i = some (pc, .i2b, a, b, d, v)) (kk : xOK k sc E (i + 1, L, .int (x.toInt8.toInt32) :: st) w nc ns) : xOK k sc E (i, L, .int x :: st) w nc ns := by
  obtain ⟨h1, -, -⟩ := xdec hk hi
  have hn := xnx hk hi rfl
  refine xOK_pure hi kk fun p l e s m args below meth c D cA A ρ0 ρ n0 H locs ls Q V hag hP hD hS hL K => ?_
  have K := K ls hL
  rw [hn] at K
  exact lv_i2b V.2.1 V.2.2.1 h1 rfl K
theorem xs_dup {pc a b d : Nat} {v : Int32} {va : Value} (hk : k < xN) (hi : xnth (xcd k) i = some (pc, .dup, a, b, d, v)) (hva : va.category = 1) (kk : xOK k sc E (i + 1, L, va :: va :: st) w nc ns) : xOK k sc E (i, L, va :: st) w nc ns := by
  obtain ⟨h1, -, -⟩ := xdec hk hi
  have hn := xnx hk hi rfl
  refine xOK_pure hi kk fun p l e s m args below meth c D cA A ρ0 ρ n0 H locs ls Q V hag hP hD hS hL K => ?_
  have K := K ls hL
  rw [hn] at K
  exact lv_dup V.2.1 V.2.2.1 h1 (by rw [xr_cat]; exact hva) K
theorem xs_pop {pc a b d : Nat} {v : Int32} {va : Value} (hk : k < xN) (hi : xnth (xcd k) i = some (pc, .pop, a, b, d, v)) (hva : va.category = 1) (kk : xOK k sc E (i + 1, L, st) w nc ns) : xOK k sc E (i, L, va :: st) w nc ns := by
  obtain ⟨h1, -, -⟩ := xdec hk hi
  have hn := xnx hk hi rfl
  refine xOK_pure hi kk fun p l e s m args below meth c D cA A ρ0 ρ n0 H locs ls Q V hag hP hD hS hL K => ?_
  have K := K ls hL
  rw [hn] at K
  exact lv_pop V.2.1 V.2.2.1 h1 (by rw [xr_cat]; exact hva) K
theorem xs_dup2 {pc a b d : Nat} {v : Int32} {va vb : Value} (hk : k < xN) (hi : xnth (xcd k) i = some (pc, .dup2, a, b, d, v)) (hva : va.category = 1) (hvb : vb.category = 1) (kk : xOK k sc E (i + 1, L, va :: vb :: va :: vb :: st) w nc ns) : xOK k sc E (i, L, va :: vb :: st) w nc ns := by
  obtain ⟨h1, -, -⟩ := xdec hk hi
  have hn := xnx hk hi rfl
  refine xOK_pure hi kk fun p l e s m args below meth c D cA A ρ0 ρ n0 H locs ls Q V hag hP hD hS hL K => ?_
  have K := K ls hL
  rw [hn] at K
  exact lv_dup2_11 V.2.1 V.2.2.1 h1 (by rw [xr_cat]; exact hva) (by rw [xr_cat]; exact hvb) K
theorem xs_goto {off : Int} {pc a b d : Nat} {v : Int32} (hk : k < xN) (hi : xnth (xcd k) i = some (pc, .goto off, a, b, d, v)) (kk : xOK k sc E (a, L, st) w nc ns) : xOK k sc E (i, L, st) w nc ns := by
  obtain ⟨h1, -, h3⟩ := xdec hk hi
  refine xOK_pure hi kk fun p l e s m args below meth c D cA A ρ0 ρ n0 H locs ls Q V hag hP hD hS hL K => ?_
  exact lv_goto V.2.1 V.2.2.1 h1 (show (pc : Int) + off = (xpc (xcd k) a : Int) from of_decide_eq_true h3) (K ls hL)
theorem xs_getfield {idx q : Nat} {fs : List Value} {y : Value} {pc a b d : Nat} {v : Int32} (hk : k < xN) (hi : xnth (xcd k) i = some (pc, .getfield idx, a, b, d, v)) (hq : xnth w q = some (.inr (a, fs))) (hf : xnth fs b = some y) (kk : xOK k sc E (i + 1, L, y :: st) w nc ns) : xOK k sc E (i, L, .ref q :: st) w nc ns := by
  obtain ⟨h1, -, h3⟩ := xdec hk hi
  have hn := xnx hk hi rfl
  obtain ⟨⟨C, T, N⟩, hc, hbN⟩ := xfld_ok h3
  refine xOK_pure hi kk fun p l e s m args below meth c D cA A ρ0 ρ n0 H locs ls Q V hag hP hD hS hL K => ?_
  have K := K ls hL
  rw [hn] at K
  refine va_get (D := D) (ci := a) (v := xr ρ y) (C := C) (T := T) (N := N) V.2.1 V.2.2.1 V.2.2.2.2.2.2.2.1 (xlay_in hc) V.2.2.2.2.2.2.1 V.2.2.2.2.2.2.2.2.2.1 hP q (xwd_get hq) hc b hbN (V.2.2.2.2.2.2.2.1 _ (xall_in _ (xword_in hk hi _ ?_))) (fun _ h => h) ?_ h1 K
  · unfold xword; simp only [hc]; exact List.mem_cons_self
  · rw [xnth_eq] at hf
    simp [hf]
theorem xs_putfield {idx q : Nat} {fs : List Value} {y y0 : Value} {pc a b d : Nat} {v : Int32} (hk : k < xN) (hi : xnth (xcd k) i = some (pc, .putfield idx, a, b, d, v)) (hq : xnth w q = some (.inr (a, fs))) (hf : xnth fs b = some y0) (hy : xfits d y = true) (kk : xOK k sc E (i + 1, L, st) (w.set q (.inr (a, fs.set b y))) nc ns) : xOK k sc E (i, L, y :: .ref q :: st) w nc ns := by
  obtain ⟨h1, -, h3⟩ := xdec hk hi
  have hn := xnx hk hi rfl
  obtain ⟨⟨C, T, N⟩, hc, hbN, hfin⟩ := xput_ok h3
  have hty := xty_ok hc
  have hnm := xnm_ok hc
  obtain ⟨ty, e1, e2, e3⟩ := xfits_ok h3 hy hc hbN
  have hl : b < fs.length := by rw [xnth_eq] at hf; exact (List.getElem?_eq_some_iff.mp hf).1
  refine xOK_cell hi (by simp) kk fun p l e s m args below meth c D cA A ρ0 ρ n0 H locs ls Q V hag hP hD hS hL K => ?_
  have hwd := xall_in _ <| xword_in hk hi (.fieldLink (xy k).cls idx (T b).1 (T b).2.1 (T b).2.2.1) (by unfold xword; simp only [hc]; exact List.mem_cons_self)
  rcases hfin with hfin | ⟨hfin, hini, hown⟩
  · refine va_put (D := D) (ci := a) (v := xr ρ y) (C := C) (T := T) (N := N) V.2.1 V.2.2.1 V.2.2.2.2.2.2.2.1 (xlay_in hc) (xty a) hty hnm V.2.2.2.2.2.2.1 V.2.2.2.2.2.2.2.2.2.1 hP hD hS q (xwd_get hq) hc b hbN (V.2.2.2.2.2.2.2.1 _ hwd) (fun _ h => h) hfin e1 (e2 ρ) (e3 ρ) (by simpa using hl) h1 (fun H' locs' hP' hD' hS' => ?_)
    have hset : xcell cA ρ (.inr (a, fs.set b y)) = .inr (a, (fs.map (xr ρ)).set b (xr ρ y)) := by
      show Sum.inr (a, (fs.set b y).map (xr ρ)) = _
      rw [List.map_set]
    have K := K H' locs' hL (by rw [xwd_set, hset]; exact hP') (by rw [xwd_set, hset]; exact hD') hS'
    rw [hn] at K
    exact K
  · refine va_putF (D := D) (ci := a) (v := xr ρ y) (C := C) (T := T) (N := N) V.2.1 V.2.2.1 V.2.2.2.2.2.2.2.1 (xlay_in hc) (xty a) hty hnm V.2.2.2.2.2.2.1 V.2.2.2.2.2.2.2.2.2.1 hP hD hS q (xwd_get hq) hc b hbN (V.2.2.2.2.2.2.2.1 _ hwd) (fun _ h => h) hfin (V.2.2.2.2.2.2.2.2.2.2.2.1 hini) hown e1 (e2 ρ) (e3 ρ) (by simpa using hl) h1 (fun H' locs' hP' hD' hS' => ?_)
    have hset : xcell cA ρ (.inr (a, fs.set b y)) = .inr (a, (fs.map (xr ρ)).set b (xr ρ y)) := by
      show Sum.inr (a, (fs.set b y).map (xr ρ)) = _
      rw [List.map_set]
    have K := K H' locs' hL (by rw [xwd_set, hset]; exact hP') (by rw [xwd_set, hset]; exact hD') hS'
    rw [hn] at K
    exact K
theorem xs_iaload {q n : Nat} {f : Nat → Int32} {j : Int32} {pc a b d : Nat} {v : Int32} (hk : k < xN) (hi : xnth (xcd k) i = some (pc, .iaload, a, b, d, v)) (hq : xnth w q = some (.inl (n, f))) (hj : xin j n = true) (kk : xOK k sc E (i + 1, L, .int (f j.toNatClampNeg) :: st) w nc ns) : xOK k sc E (i, L, .int j :: .ref q :: st) w nc ns := by
  obtain ⟨h1, -, -⟩ := xdec hk hi
  have hn := xnx hk hi rfl
  refine xOK_pure hi kk fun p l e s m args below meth c D cA A ρ0 ρ n0 H locs ls Q V hag hP hD hS hL K => ?_
  have K := K ls hL
  rw [hn] at K
  exact va_iald V.2.1 V.2.2.1 V.2.2.2.2.2.2.2.2.2.1 hP q 0 (xwd_get hq) rfl (xin_ok hj) h1 K
theorem xs_ialoadS {n : Nat} {f : Nat → Int32} {j : Int32} {pc a b d : Nat} {v : Int32} (hk : k < xN) (hi : xnth (xcd k) i = some (pc, .iaload, a, b, d, v)) (hs : sc = some (n, f)) (hj : xin j n = true) (kk : xOK k sc E (i + 1, L, .int (f j.toNatClampNeg) :: st) w nc ns) : xOK k sc E (i, L, .int j :: .ref xscr :: st) w nc ns := by
  obtain ⟨h1, -, -⟩ := xdec hk hi
  have hn := xnx hk hi rfl
  refine xOK_pure hi kk fun p l e s m args below meth c D cA A ρ0 ρ n0 H locs ls Q V hag hP hD hS hL K => ?_
  have K := K ls hL
  rw [hn] at K
  obtain ⟨hX, hbl, hbA⟩ := V.2.2.2.2.2.2.2.2.2.2.2.2 n f hs
  have hρ : ρ xscr = ρ0 xscr := hag.2 xscr (Or.inr rfl)
  show W p l e (xrm k) s m args below meth c H locs nc ns Q (F0 m pc ls (.int j :: .ref (ρ xscr) :: st.map (xr ρ)))
  rw [hρ]
  exact va_sld V.2.1 V.2.2.1 hX hbl hbA hS (xin_ok hj) h1 K
theorem xs_iastore {q n : Nat} {f : Nat → Int32} {j x : Int32} {pc a b d : Nat} {v : Int32} (hk : k < xN) (hi : xnth (xcd k) i = some (pc, .iastore, a, b, d, v)) (hq : xnth w q = some (.inl (n, f))) (hj : xin j n = true) (kk : xOK k sc E (i + 1, L, st) (w.set q (.inl (n, upd f j.toNatClampNeg x))) nc ns) : xOK k sc E (i, L, .int x :: .int j :: .ref q :: st) w nc ns := by
  obtain ⟨h1, -, -⟩ := xdec hk hi
  have hn := xnx hk hi rfl
  refine xOK_cell hi (by simp) kk fun p l e s m args below meth c D cA A ρ0 ρ n0 H locs ls Q V hag hP hD hS hL K => ?_
  refine va_iast V.2.1 V.2.2.1 V.2.2.2.2.2.2.2.2.2.1 hP hD hS q 0 (xwd_get hq) rfl (xin_ok hj) h1 (fun H' locs' hP' hD' hS' => ?_)
  have K := K H' locs' hL (by rw [xwd_set]; exact hP') (by rw [xwd_set]; exact hD') hS'
  rw [hn] at K
  exact K
theorem xs_arraylength {q n : Nat} {f : Nat → Int32} {pc a b d : Nat} {v : Int32} (hk : k < xN) (hi : xnth (xcd k) i = some (pc, .arraylength, a, b, d, v)) (hq : xnth w q = some (.inl (n, f))) (kk : xOK k sc E (i + 1, L, .int (Int32.ofNat n) :: st) w nc ns) : xOK k sc E (i, L, .ref q :: st) w nc ns := by
  obtain ⟨h1, -, -⟩ := xdec hk hi
  have hn := xnx hk hi rfl
  refine xOK_pure hi kk fun p l e s m args below meth c D cA A ρ0 ρ n0 H locs ls Q V hag hP hD hS hL K => ?_
  have K := K ls hL
  rw [hn] at K
  exact va_alen V.2.1 V.2.2.1 V.2.2.2.2.2.2.2.2.2.1 hP q 0 (xwd_get hq) rfl rfl h1 K
theorem xs_arraylengthS {n : Nat} {f : Nat → Int32} {pc a b d : Nat} {v : Int32} (hk : k < xN) (hi : xnth (xcd k) i = some (pc, .arraylength, a, b, d, v)) (hs : sc = some (n, f)) (kk : xOK k sc E (i + 1, L, .int (Int32.ofNat n) :: st) w nc ns) : xOK k sc E (i, L, .ref xscr :: st) w nc ns := by
  obtain ⟨h1, -, -⟩ := xdec hk hi
  have hn := xnx hk hi rfl
  refine xOK_pure hi kk fun p l e s m args below meth c D cA A ρ0 ρ n0 H locs ls Q V hag hP hD hS hL K => ?_
  have K := K ls hL
  rw [hn] at K
  obtain ⟨hX, hbl, hbA⟩ := V.2.2.2.2.2.2.2.2.2.2.2.2 n f hs
  have hρ : ρ xscr = ρ0 xscr := hag.2 xscr (Or.inr rfl)
  show W p l e (xrm k) s m args below meth c H locs nc ns Q (F0 m pc ls (.ref (ρ xscr) :: st.map (xr ρ)))
  rw [hρ]
  exact va_slen V.2.1 V.2.2.1 hX hbl hbA hS h1 K
theorem xs_if_eq {off : Int} {pc a b d : Nat} {v x : Int32} (hk : k < xN) (hi : xnth (xcd k) i = some (pc, .ifCond .eq off, a, b, d, v)) (kt : x = 0 → xOK k sc E (a, L, st) w nc ns) (kf : ¬ x = 0 → xOK k sc E (i + 1, L, st) w nc ns) : xOK k sc E (i, L, .int x :: st) w nc ns := by
  obtain ⟨h1, -, h3⟩ := xdec hk hi
  have hn := xnx hk hi rfl
  intro p l e s m args below meth c D cA A ρ0 n0 V ρ H locs ls hag hn0 hP hD hS hL
  rw [xpc_eq hi]
  refine lv_if_eq V.2.1 V.2.2.1 h1 (show (pc : Int) + off = (xpc (xcd k) a : Int) from of_decide_eq_true h3) (fun q => kt q p l e s m args below meth c D cA A ρ0 n0 V ρ H locs ls hag hn0 hP hD hS hL) (fun q => ?_)
  have K := kf q p l e s m args below meth c D cA A ρ0 n0 V ρ H locs ls hag hn0 hP hD hS hL
  have hn' : xpc (xcd k) (i + 1) = pc + 3 := hn
  simp only [hn'] at K
  exact K
theorem xs_icmp_eq {off : Int} {pc a b d : Nat} {v x y : Int32} (hk : k < xN) (hi : xnth (xcd k) i = some (pc, .if_icmp .eq off, a, b, d, v)) (kt : x = y → xOK k sc E (a, L, st) w nc ns) (kf : ¬ x = y → xOK k sc E (i + 1, L, st) w nc ns) : xOK k sc E (i, L, .int y :: .int x :: st) w nc ns := by
  obtain ⟨h1, -, h3⟩ := xdec hk hi
  have hn := xnx hk hi rfl
  intro p l e s m args below meth c D cA A ρ0 n0 V ρ H locs ls hag hn0 hP hD hS hL
  rw [xpc_eq hi]
  refine lv_icmp_eq V.2.1 V.2.2.1 h1 (show (pc : Int) + off = (xpc (xcd k) a : Int) from of_decide_eq_true h3) (fun q => kt q p l e s m args below meth c D cA A ρ0 n0 V ρ H locs ls hag hn0 hP hD hS hL) (fun q => ?_)
  have K := kf q p l e s m args below meth c D cA A ρ0 n0 V ρ H locs ls hag hn0 hP hD hS hL
  have hn' : xpc (xcd k) (i + 1) = pc + 3 := hn
  simp only [hn'] at K
  exact K
theorem xs_if_ne {off : Int} {pc a b d : Nat} {v x : Int32} (hk : k < xN) (hi : xnth (xcd k) i = some (pc, .ifCond .ne off, a, b, d, v)) (kt : ¬ x = 0 → xOK k sc E (a, L, st) w nc ns) (kf : x = 0 → xOK k sc E (i + 1, L, st) w nc ns) : xOK k sc E (i, L, .int x :: st) w nc ns := by
  obtain ⟨h1, -, h3⟩ := xdec hk hi
  have hn := xnx hk hi rfl
  intro p l e s m args below meth c D cA A ρ0 n0 V ρ H locs ls hag hn0 hP hD hS hL
  rw [xpc_eq hi]
  refine lv_if_ne V.2.1 V.2.2.1 h1 (show (pc : Int) + off = (xpc (xcd k) a : Int) from of_decide_eq_true h3) (fun q => kt q p l e s m args below meth c D cA A ρ0 n0 V ρ H locs ls hag hn0 hP hD hS hL) (fun q => ?_)
  have K := kf q p l e s m args below meth c D cA A ρ0 n0 V ρ H locs ls hag hn0 hP hD hS hL
  have hn' : xpc (xcd k) (i + 1) = pc + 3 := hn
  simp only [hn'] at K
  exact K
theorem xs_icmp_ne {off : Int} {pc a b d : Nat} {v x y : Int32} (hk : k < xN) (hi : xnth (xcd k) i = some (pc, .if_icmp .ne off, a, b, d, v)) (kt : ¬ x = y → xOK k sc E (a, L, st) w nc ns) (kf : x = y → xOK k sc E (i + 1, L, st) w nc ns) : xOK k sc E (i, L, .int y :: .int x :: st) w nc ns := by
  obtain ⟨h1, -, h3⟩ := xdec hk hi
  have hn := xnx hk hi rfl
  intro p l e s m args below meth c D cA A ρ0 n0 V ρ H locs ls hag hn0 hP hD hS hL
  rw [xpc_eq hi]
  refine lv_icmp_ne V.2.1 V.2.2.1 h1 (show (pc : Int) + off = (xpc (xcd k) a : Int) from of_decide_eq_true h3) (fun q => kt q p l e s m args below meth c D cA A ρ0 n0 V ρ H locs ls hag hn0 hP hD hS hL) (fun q => ?_)
  have K := kf q p l e s m args below meth c D cA A ρ0 n0 V ρ H locs ls hag hn0 hP hD hS hL
  have hn' : xpc (xcd k) (i + 1) = pc + 3 := hn
  simp only [hn'] at K
  exact K
theorem xs_if_lt {off : Int} {pc a b d : Nat} {v x : Int32} (hk : k < xN) (hi : xnth (xcd k) i = some (pc, .ifCond .lt off, a, b, d, v)) (kt : x < 0 → xOK k sc E (a, L, st) w nc ns) (kf : ¬ x < 0 → xOK k sc E (i + 1, L, st) w nc ns) : xOK k sc E (i, L, .int x :: st) w nc ns := by
  obtain ⟨h1, -, h3⟩ := xdec hk hi
  have hn := xnx hk hi rfl
  intro p l e s m args below meth c D cA A ρ0 n0 V ρ H locs ls hag hn0 hP hD hS hL
  rw [xpc_eq hi]
  refine lv_if_lt V.2.1 V.2.2.1 h1 (show (pc : Int) + off = (xpc (xcd k) a : Int) from of_decide_eq_true h3) (fun q => kt q p l e s m args below meth c D cA A ρ0 n0 V ρ H locs ls hag hn0 hP hD hS hL) (fun q => ?_)
  have K := kf q p l e s m args below meth c D cA A ρ0 n0 V ρ H locs ls hag hn0 hP hD hS hL
  have hn' : xpc (xcd k) (i + 1) = pc + 3 := hn
  simp only [hn'] at K
  exact K
theorem xs_icmp_lt {off : Int} {pc a b d : Nat} {v x y : Int32} (hk : k < xN) (hi : xnth (xcd k) i = some (pc, .if_icmp .lt off, a, b, d, v)) (kt : x < y → xOK k sc E (a, L, st) w nc ns) (kf : ¬ x < y → xOK k sc E (i + 1, L, st) w nc ns) : xOK k sc E (i, L, .int y :: .int x :: st) w nc ns := by
  obtain ⟨h1, -, h3⟩ := xdec hk hi
  have hn := xnx hk hi rfl
  intro p l e s m args below meth c D cA A ρ0 n0 V ρ H locs ls hag hn0 hP hD hS hL
  rw [xpc_eq hi]
  refine lv_icmp_lt V.2.1 V.2.2.1 h1 (show (pc : Int) + off = (xpc (xcd k) a : Int) from of_decide_eq_true h3) (fun q => kt q p l e s m args below meth c D cA A ρ0 n0 V ρ H locs ls hag hn0 hP hD hS hL) (fun q => ?_)
  have K := kf q p l e s m args below meth c D cA A ρ0 n0 V ρ H locs ls hag hn0 hP hD hS hL
  have hn' : xpc (xcd k) (i + 1) = pc + 3 := hn
  simp only [hn'] at K
  exact K
theorem xs_if_ge {off : Int} {pc a b d : Nat} {v x : Int32} (hk : k < xN) (hi : xnth (xcd k) i = some (pc, .ifCond .ge off, a, b, d, v)) (kt : 0 ≤ x → xOK k sc E (a, L, st) w nc ns) (kf : ¬ 0 ≤ x → xOK k sc E (i + 1, L, st) w nc ns) : xOK k sc E (i, L, .int x :: st) w nc ns := by
  obtain ⟨h1, -, h3⟩ := xdec hk hi
  have hn := xnx hk hi rfl
  intro p l e s m args below meth c D cA A ρ0 n0 V ρ H locs ls hag hn0 hP hD hS hL
  rw [xpc_eq hi]
  refine lv_if_ge V.2.1 V.2.2.1 h1 (show (pc : Int) + off = (xpc (xcd k) a : Int) from of_decide_eq_true h3) (fun q => kt q p l e s m args below meth c D cA A ρ0 n0 V ρ H locs ls hag hn0 hP hD hS hL) (fun q => ?_)
  have K := kf q p l e s m args below meth c D cA A ρ0 n0 V ρ H locs ls hag hn0 hP hD hS hL
  have hn' : xpc (xcd k) (i + 1) = pc + 3 := hn
  simp only [hn'] at K
  exact K
theorem xs_icmp_ge {off : Int} {pc a b d : Nat} {v x y : Int32} (hk : k < xN) (hi : xnth (xcd k) i = some (pc, .if_icmp .ge off, a, b, d, v)) (kt : y ≤ x → xOK k sc E (a, L, st) w nc ns) (kf : ¬ y ≤ x → xOK k sc E (i + 1, L, st) w nc ns) : xOK k sc E (i, L, .int y :: .int x :: st) w nc ns := by
  obtain ⟨h1, -, h3⟩ := xdec hk hi
  have hn := xnx hk hi rfl
  intro p l e s m args below meth c D cA A ρ0 n0 V ρ H locs ls hag hn0 hP hD hS hL
  rw [xpc_eq hi]
  refine lv_icmp_ge V.2.1 V.2.2.1 h1 (show (pc : Int) + off = (xpc (xcd k) a : Int) from of_decide_eq_true h3) (fun q => kt q p l e s m args below meth c D cA A ρ0 n0 V ρ H locs ls hag hn0 hP hD hS hL) (fun q => ?_)
  have K := kf q p l e s m args below meth c D cA A ρ0 n0 V ρ H locs ls hag hn0 hP hD hS hL
  have hn' : xpc (xcd k) (i + 1) = pc + 3 := hn
  simp only [hn'] at K
  exact K
theorem xs_if_gt {off : Int} {pc a b d : Nat} {v x : Int32} (hk : k < xN) (hi : xnth (xcd k) i = some (pc, .ifCond .gt off, a, b, d, v)) (kt : 0 < x → xOK k sc E (a, L, st) w nc ns) (kf : ¬ 0 < x → xOK k sc E (i + 1, L, st) w nc ns) : xOK k sc E (i, L, .int x :: st) w nc ns := by
  obtain ⟨h1, -, h3⟩ := xdec hk hi
  have hn := xnx hk hi rfl
  intro p l e s m args below meth c D cA A ρ0 n0 V ρ H locs ls hag hn0 hP hD hS hL
  rw [xpc_eq hi]
  refine lv_if_gt V.2.1 V.2.2.1 h1 (show (pc : Int) + off = (xpc (xcd k) a : Int) from of_decide_eq_true h3) (fun q => kt q p l e s m args below meth c D cA A ρ0 n0 V ρ H locs ls hag hn0 hP hD hS hL) (fun q => ?_)
  have K := kf q p l e s m args below meth c D cA A ρ0 n0 V ρ H locs ls hag hn0 hP hD hS hL
  have hn' : xpc (xcd k) (i + 1) = pc + 3 := hn
  simp only [hn'] at K
  exact K
theorem xs_icmp_gt {off : Int} {pc a b d : Nat} {v x y : Int32} (hk : k < xN) (hi : xnth (xcd k) i = some (pc, .if_icmp .gt off, a, b, d, v)) (kt : y < x → xOK k sc E (a, L, st) w nc ns) (kf : ¬ y < x → xOK k sc E (i + 1, L, st) w nc ns) : xOK k sc E (i, L, .int y :: .int x :: st) w nc ns := by
  obtain ⟨h1, -, h3⟩ := xdec hk hi
  have hn := xnx hk hi rfl
  intro p l e s m args below meth c D cA A ρ0 n0 V ρ H locs ls hag hn0 hP hD hS hL
  rw [xpc_eq hi]
  refine lv_icmp_gt V.2.1 V.2.2.1 h1 (show (pc : Int) + off = (xpc (xcd k) a : Int) from of_decide_eq_true h3) (fun q => kt q p l e s m args below meth c D cA A ρ0 n0 V ρ H locs ls hag hn0 hP hD hS hL) (fun q => ?_)
  have K := kf q p l e s m args below meth c D cA A ρ0 n0 V ρ H locs ls hag hn0 hP hD hS hL
  have hn' : xpc (xcd k) (i + 1) = pc + 3 := hn
  simp only [hn'] at K
  exact K
theorem xs_if_le {off : Int} {pc a b d : Nat} {v x : Int32} (hk : k < xN) (hi : xnth (xcd k) i = some (pc, .ifCond .le off, a, b, d, v)) (kt : x ≤ 0 → xOK k sc E (a, L, st) w nc ns) (kf : ¬ x ≤ 0 → xOK k sc E (i + 1, L, st) w nc ns) : xOK k sc E (i, L, .int x :: st) w nc ns := by
  obtain ⟨h1, -, h3⟩ := xdec hk hi
  have hn := xnx hk hi rfl
  intro p l e s m args below meth c D cA A ρ0 n0 V ρ H locs ls hag hn0 hP hD hS hL
  rw [xpc_eq hi]
  refine lv_if_le V.2.1 V.2.2.1 h1 (show (pc : Int) + off = (xpc (xcd k) a : Int) from of_decide_eq_true h3) (fun q => kt q p l e s m args below meth c D cA A ρ0 n0 V ρ H locs ls hag hn0 hP hD hS hL) (fun q => ?_)
  have K := kf q p l e s m args below meth c D cA A ρ0 n0 V ρ H locs ls hag hn0 hP hD hS hL
  have hn' : xpc (xcd k) (i + 1) = pc + 3 := hn
  simp only [hn'] at K
  exact K
theorem xs_icmp_le {off : Int} {pc a b d : Nat} {v x y : Int32} (hk : k < xN) (hi : xnth (xcd k) i = some (pc, .if_icmp .le off, a, b, d, v)) (kt : x ≤ y → xOK k sc E (a, L, st) w nc ns) (kf : ¬ x ≤ y → xOK k sc E (i + 1, L, st) w nc ns) : xOK k sc E (i, L, .int y :: .int x :: st) w nc ns := by
  obtain ⟨h1, -, h3⟩ := xdec hk hi
  have hn := xnx hk hi rfl
  intro p l e s m args below meth c D cA A ρ0 n0 V ρ H locs ls hag hn0 hP hD hS hL
  rw [xpc_eq hi]
  refine lv_icmp_le V.2.1 V.2.2.1 h1 (show (pc : Int) + off = (xpc (xcd k) a : Int) from of_decide_eq_true h3) (fun q => kt q p l e s m args below meth c D cA A ρ0 n0 V ρ H locs ls hag hn0 hP hD hS hL) (fun q => ?_)
  have K := kf q p l e s m args below meth c D cA A ρ0 n0 V ρ H locs ls hag hn0 hP hD hS hL
  have hn' : xpc (xcd k) (i + 1) = pc + 3 := hn
  simp only [hn'] at K
  exact K
theorem xOK_step1 {en : xE} {fr' : xF} {w' : xW} {ob : Bool} (hk : k < xN) (hi : xnth (xcd k) i = some en) (h : xstep sc en i L st w = some (fr', w', ob)) (ho : ob = true) (kk : xOK k sc E fr' w' nc ns) : xOK k sc E (i, L, st) w nc ns := by
  obtain ⟨pc, ins, a, b, d, v⟩ := en
  cases ins
  case iconst n =>
    have h : xpush (.int v) i L st w = some (fr', w', ob) := h
    unfold xpush at h
    cases h
    exact xs_iconst hk hi kk
  case bipush n =>
    have h : xpush (.int v) i L st w = some (fr', w', ob) := h
    unfold xpush at h
    cases h
    exact xs_bipush hk hi kk
  case sipush n =>
    have h : xpush (.int v) i L st w = some (fr', w', ob) := h
    unfold xpush at h
    cases h
    exact xs_sipush hk hi kk
  case ldc n =>
    have h : xpush (.int v) i L st w = some (fr', w', ob) := h
    unfold xpush at h
    cases h
    exact xs_ldc hk hi kk
  case iload_n n =>
    have h : xldi n.val i L st w = some (fr', w', ob) := h
    unfold xldi at h
    split at h
    · next x hx => cases h; exact xs_iload_n hk hi hx kk
    · cases h
  case iload n =>
    have h : xldi n i L st w = some (fr', w', ob) := h
    unfold xldi at h
    split at h
    · next x hx => cases h; exact xs_iload hk hi hx kk
    · cases h
  case aload_n n =>
    have h : xlda n.val i L st w = some (fr', w', ob) := h
    unfold xlda at h
    split at h
    · next x hx => cases h; exact xs_aload_n hk hi hx kk
    · cases h
  case aload n =>
    have h : xlda n i L st w = some (fr', w', ob) := h
    unfold xlda at h
    split at h
    · next x hx => cases h; exact xs_aload hk hi hx kk
    · cases h
  case istore_n n =>
    have h : xsti n.val i L w st = some (fr', w', ob) := h
    unfold xsti at h
    split at h
    · cases h; exact xs_istore_n hk hi kk
    · cases h
  case istore n =>
    have h : xsti n i L w st = some (fr', w', ob) := h
    unfold xsti at h
    split at h
    · cases h; exact xs_istore hk hi kk
    · cases h
  case astore_n n =>
    have h : xsta n.val i L w st = some (fr', w', ob) := h
    unfold xsta at h
    split at h
    · cases h; exact xs_astore_n hk hi kk
    · cases h
  case iinc n z =>
    have h : xinc n v i L st w = some (fr', w', ob) := h
    unfold xinc at h
    split at h
    · next x hx => cases h; exact xs_iinc hk hi hx kk
    · cases h
  case iadd =>
    have h : xbin (fun x y => x + y) i L w st = some (fr', w', ob) := h
    unfold xbin at h
    split at h
    · cases h; exact xs_iadd hk hi kk
    · cases h
  case isub =>
    have h : xbin (fun x y => x - y) i L w st = some (fr', w', ob) := h
    unfold xbin at h
    split at h
    · cases h; exact xs_isub hk hi kk
    · cases h
  case imul =>
    have h : xbin (fun x y => x * y) i L w st = some (fr', w', ob) := h
    unfold xbin at h
    split at h
    · cases h; exact xs_imul hk hi kk
    · cases h
  case iand =>
    have h : xbin (fun x y => x &&& y) i L w st = some (fr', w', ob) := h
    unfold xbin at h
    split at h
    · cases h; exact xs_iand hk hi kk
    · cases h
  case ior =>
    have h : xbin (fun x y => x ||| y) i L w st = some (fr', w', ob) := h
    unfold xbin at h
    split at h
    · cases h; exact xs_ior hk hi kk
    · cases h
  case ixor =>
    have h : xbin (fun x y => x ^^^ y) i L w st = some (fr', w', ob) := h
    unfold xbin at h
    split at h
    · cases h; exact xs_ixor hk hi kk
    · cases h
  case ishl =>
    have h : xbin (fun x y => x <<< (y &&& 31)) i L w st = some (fr', w', ob) := h
    unfold xbin at h
    split at h
    · cases h; exact xs_ishl hk hi kk
    · cases h
  case ishr =>
    have h : xbin (fun x y => x >>> (y &&& 31)) i L w st = some (fr', w', ob) := h
    unfold xbin at h
    split at h
    · cases h; exact xs_ishr hk hi kk
    · cases h
  case idiv =>
    have h : xdiv (fun x y => x / y) i L w st = some (fr', w', ob) := h
    unfold xdiv at h
    split at h
    · next y x r => cases h; exact xs_idiv hk hi (by intro q; subst q; simp at ho) kk
    · cases h
  case irem =>
    have h : xdiv xrem i L w st = some (fr', w', ob) := h
    unfold xdiv at h
    split at h
    · next y x r => cases h; exact xs_irem hk hi (by intro q; subst q; simp at ho) kk
    · cases h
  case ineg =>
    have h : xun (fun x => -x) i L w st = some (fr', w', ob) := h
    unfold xun at h
    split at h
    · cases h; exact xs_ineg hk hi kk
    · cases h
  case i2b =>
    have h : xun (fun x => x.toInt8.toInt32) i L w st = some (fr', w', ob) := h
    unfold xun at h
    split at h
    · cases h; exact xs_i2b hk hi kk
    · cases h
  case dup =>
    have h : xdup i L w st = some (fr', w', ob) := h
    unfold xdup at h
    split at h
    · cases h; exact xs_dup hk hi rfl kk
    · cases h; exact xs_dup hk hi rfl kk
    · cases h
  case dup2 =>
    have h : xdup2 i L w st = some (fr', w', ob) := h
    unfold xdup2 at h
    split at h
    · cases h; exact xs_dup2 hk hi rfl rfl kk
    · cases h
  case pop =>
    have h : xpop i L w st = some (fr', w', ob) := h
    unfold xpop at h
    split at h
    · cases h; exact xs_pop hk hi rfl kk
    · cases h
  case goto n =>
    have h : some ((a, L, st), w, true) = some (fr', w', ob) := h
    cases h
    exact xs_goto hk hi kk
  case getfield n =>
    have h : xgetf a b i L w st = some (fr', w', ob) := h
    unfold xgetf at h
    split at h
    · next q r =>
      split at h
      · next cj fs hq =>
        split at h
        · next hc =>
          have hc := Nat.eq_of_beq_eq_true hc
          subst hc
          split at h
          · next y hf => cases h; exact xs_getfield hk hi hq hf kk
          · cases h
        · cases h
      · cases h
    · cases h
  case putfield n =>
    match d, hi, h with
    | 0, hi, h =>
      have h : xputf a b i false L w st = some (fr', w', ob) := h
      unfold xputf at h
      split at h
      · next x q r =>
        split at h
        · next cj fs hq =>
          split at h
          · next hc =>
            have hc := Nat.eq_of_beq_eq_true hc
            subst hc
            split at h
            · next y0 hf => cases h; exact xs_putfield hk hi hq hf rfl kk
            · cases h
          · cases h
        · cases h
      · cases h
    | 1, hi, h =>
      have h : xputf a b i true L w st = some (fr', w', ob) := h
      unfold xputf at h
      split at h
      · next x q r =>
        split at h
        · next cj fs hq =>
          split at h
          · next hc =>
            have hc := Nat.eq_of_beq_eq_true hc
            subst hc
            split at h
            · next y0 hf => cases h; exact xs_putfield hk hi hq hf ho kk
            · cases h
          · cases h
        · cases h
      · cases h
    | 2, hi, h =>
      have h : xputa a b i L w st = some (fr', w', ob) := h
      unfold xputa at h
      split at h
      · next x q r =>
        split at h
        · next cj fs hq =>
          split at h
          · next hc =>
            have hc := Nat.eq_of_beq_eq_true hc
            subst hc
            split at h
            · next y0 hf => cases h; exact xs_putfield hk hi hq hf rfl kk
            · cases h
          · cases h
        · cases h
      · cases h
    | (d + 3), hi, h => cases h
  case iaload =>
    have h : xald sc i L w st = some (fr', w', ob) := h
    unfold xald at h
    split at h
    · next j q r =>
      split at h
      · next n f hq => cases h; exact xs_iaload hk hi hq ho kk
      · cases h
      · split at h
        · next hc =>
          have hc := Nat.eq_of_beq_eq_true hc
          subst hc
          split at h
          · next n f hs => cases h; exact xs_ialoadS hk hi rfl ho kk
          · cases h
        · cases h
    · cases h
  case iastore =>
    have h : xast i L w st = some (fr', w', ob) := h
    unfold xast at h
    split at h
    · next x j q r =>
      split at h
      · next n f hq => cases h; exact xs_iastore hk hi hq ho kk
      · cases h
    · cases h
  case arraylength =>
    have h : xlen sc i L w st = some (fr', w', ob) := h
    unfold xlen at h
    split at h
    · next q r =>
      split at h
      · next n f hq => cases h; exact xs_arraylength hk hi hq kk
      · cases h
      · split at h
        · next hc =>
          have hc := Nat.eq_of_beq_eq_true hc
          subst hc
          split at h
          · next n f => cases h; exact xs_arraylengthS hk hi rfl kk
          · cases h
        · cases h
    · cases h
  all_goals exact absurd (show none = some (fr', w', ob) from h) (by simp)
theorem xOK_steps {cd : List xE} (hc : xcd k = cd) (hk : k < xN) : ∀ (n : Nat) {fr fr' : xF} {w w' : xW} {ob : Bool}, xsteps sc cd n fr w = some (fr', w', ob) → ob = true → xOK k sc E fr' w' nc ns → xOK k sc E fr w nc ns := by
  subst hc
  intro n
  induction n with
  | zero =>
    intro fr fr' w w' ob h ho kk
    cases h
    exact kk
  | succ n ih =>
    intro fr fr' w w' ob h ho kk
    unfold xsteps at h
    split at h
    · cases h
    · next en hi =>
      split at h
      · cases h
      · next q hq =>
        split at h
        · cases h
        · next z hz =>
          cases h
          rw [Bool.and_eq_true] at ho
          exact xOK_step1 hk hi hq ho.1 (ih hz ho.2 kk)
end XST
end
section
-- contracts of methods in these words
def xQ (k : Nat) (D : va_G) (cA : ClassId) (A : Nat → Prop) (ρ0 : Nat → Nat) (n0 : Nat) (r : Option Int32) (wE : xW) : Array Value → State → Outcome → State → Prop := match r with
  | none => va_Qv (fun (ρ : Nat → Nat) => xag (xmc k) n0 ρ0 ρ) (fun ρ t => va_P D xcl (xwd cA ρ wE) t.heap ∧ va_K D xcl [(cA, .int)] t ∧ va_D A (xwd cA ρ wE)) A
  | some v => va_Qi (fun (x : Int32) (ρ : Nat → Nat) => x = v ∧ xag (xmc k) n0 ρ0 ρ) (fun ρ t => va_P D xcl (xwd cA ρ wE) t.heap ∧ va_K D xcl [(cA, .int)] t ∧ va_D A (xwd cA ρ wE)) A
def xPre (D : va_G) (cA : ClassId) (ρ : Nat → Nat) (sz : Nat) (w : xW) (U : State) : Prop := U.heap.size = sz ∧ va_P D xcl (xwd cA ρ w) U.heap ∧ va_K D xcl [(cA, .int)] U ∧ va_D (fun _ => True) (xwd cA ρ w) ∧ xNW U
def xMet (k : Nat) (av : List Value) (w : xW) (r : Option Int32) (wE : xW) : Prop :=
  w.length ≤ wE.length ∧ ∀ (l : Launch) (D : va_G) (cA : ClassId) (ρ : Nat → Nat) (sz : Nat),
    Met l (xy k) (xws k) (xrm k) (va_Pc (av.map (xr ρ)) (xPre D cA ρ sz w)) (xQ k D cA (va_A (xwd cA ρ w) sz) ρ w.length r wE) (xmc k) (xms k) (va_A (xwd cA ρ w) sz)
def xEnd (k : Nat) (r : Option Int32) (wE : xW) : xT := fun s args below D cA A ρ0 n0 => MQ below (xQ k D cA A ρ0 n0 r wE) args s (xmc k) (xms k) A
def xpr : Option Int32 → List Value
  | none => []
  | some x => [.int x]
def xroom (st : List Value) : Bool := Nat.ble ((st.map fun v => v.category).sum) 8
def xent (k : Nat) (av : List Value) : List (Option Value) := av.map some ++ List.replicate (xnl k - av.length) none
theorem xblind {av : List Value} {D : va_G} {cA : ClassId} {ρ : Nat → Nat} {sz : Nat} {w : xW} : FrameBlind (va_Pc av (xPre D cA ρ sz w)) := by
  intro a U g mk q
  obtain ⟨q0, q1, qP, qK, qD, qN⟩ := q
  exact ⟨q0, q1, qP, va_K.moved (u := U) (U := U.calling g mk a) (Vm.Alike.refl U.vm) qK, qD, fun x hx => va_Nw.same rfl rfl (qN x hx)⟩
theorem xr_map_cat (ρ : Nat → Nat) (st : List Value) : ((st.map (xr ρ)).map fun v => v.category).sum = (st.map fun v => v.category).sum := by
  rw [List.map_map]
  congr 1
  exact List.map_congr_left fun v _ => xr_cat ρ v
theorem xfv_eq {n : Nat} {ρ ρ' : Nat → Nat} (h : ∀ j, (j < n ∨ j = xscr) → ρ' j = ρ j) {v : Value} (hv : xfv n v = true) : xr ρ' v = xr ρ v := by
  cases v with
  | ref j =>
    show Value.ref (ρ' j) = Value.ref (ρ j)
    rw [h j]
    have hv : (Nat.blt j n || Nat.beq j xscr) = true := hv
    rw [Bool.or_eq_true] at hv
    rcases hv with q | q
    · exact Or.inl (Nat.blt_eq.mp q)
    · exact Or.inr (Nat.eq_of_beq_eq_true q)
  | _ => rfl
theorem xfit_eq {n mc : Nat} {ρ ρ' : Nat → Nat} {L : List (Option Value)} {st : List Value} {w : xW} (hg : xag mc w.length ρ ρ') (hf : (Nat.beq mc 0 || xfit L st w) = true) : (∀ v ∈ st, xr ρ' v = xr ρ v) ∧ ∀ (j : Nat) (v : Value), L[j]? = some (some v) → xr ρ' v = xr ρ v := by
  rw [Bool.or_eq_true] at hf
  rcases hf with q | q
  · have hz := hg.1 (Nat.eq_of_beq_eq_true q)
    subst hz
    exact ⟨fun _ _ => rfl, fun _ _ _ => rfl⟩
  · unfold xfit at q
    simp only [Bool.and_eq_true] at q
    obtain ⟨q1, q2, -⟩ := q
    refine ⟨fun v hv => xfv_eq hg.2 (List.all_eq_true.mp q2 v hv), fun j v hj => ?_⟩
    exact xfv_eq hg.2 (List.all_eq_true.mp q1 (some v) (List.mem_of_getElem? hj))
section XCL
variable {p : Program} {l : Launch} {e : Env} {s : State} {m : MethodId} {args : Array Value} {below : List Frame} {meth : Method} {c : Code} {D : va_G} {cA : ClassId} {A : Nat → Prop} {ρ0 ρ : Nat → Nat} {n0 : Nat} {H : Heap} {locs : List Loc} {ls : Array Slot}
variable {k : Nat} {sc : Option (Nat × (Nat → Int32))} {E : xT} {i : Nat} {L : List (Option Value)} {st : List Value} {w w1 : xW} {nc ns a : Nat} {r : Option Int32}
theorem xGood {ws : List Cond} (h : ∀ x ∈ ws, x ∈ xall) : GoodIn xall ws := fun x hx => ⟨h x hx, xgood x (h x hx)⟩
theorem xws_all (ha : a < xM) : ∀ x ∈ xws a, x ∈ xall := by
  intro x hx
  rcases List.mem_cons.mp hx with h | h
  · rw [h]; exact xcode_in ha
  · exact h
/-- behind a call -/
theorem xbehind {pc : Nat} {st0 : List Value} {aa : Array Value} (V : xEnv k sc p s m args meth c D cA A ρ0) (hag : xag nc n0 ρ0 ρ) (hn0 : n0 ≤ w.length) (hP : va_P D xcl (xwd cA ρ w) H) (hD : va_D A (xwd cA ρ w)) (hS : va_S A s.heap H locs) (hL : xLoc ls (xnl k) ρ L)
    (hw : w.length ≤ w1.length) (hf : (Nat.beq (xmc a) 0 || xfit L st w) = true) (hn : xpc (xcd k) (i + 1) = pc + 3)
    (hr : va_Run p l e (xrm k) s m args below meth c H locs nc ns (xmc a) (xms a) (F0 m pc ls st0) (st.map (xr ρ)) (xQ a D cA (va_A (xwd cA ρ w) H.size) ρ w.length r w1 aa) (va_A (xwd cA ρ w) H.size))
    (kk : xOK k sc E (i + 1, L, xpr r ++ st) w1 (nc + xmc a) (ns + xms a)) : W p l e (xrm k) s m args below meth c H locs nc ns (E s args below D cA A ρ0 n0) (F0 m pc ls st0) := by
  have hA := V.2.2.2.2.2.2.2.2.2.2.1
  have hFc : ∀ q, va_A (xwd cA ρ w) H.size q → A q := by
    intro q h
    rcases h with ⟨k', e', h⟩ | h
    · exact hD.2 k' _ h
    · exact hA q (Nat.le_trans hS.1 h)
  have go : ∀ (ρ' : Nat → Nat) (t : State) (H1 : Heap) (locs1 : List Loc), t.heap = H1 → xag (xmc a) w.length ρ ρ' → (va_P D xcl (xwd cA ρ' w1) t.heap ∧ va_K D xcl [(cA, .int)] t ∧ va_D (va_A (xwd cA ρ w) H.size) (xwd cA ρ' w1)) → va_S A s.heap H1 locs1 →
      W p l e (xrm k) s m args below meth c H1 locs1 (nc + xmc a) (ns + xms a) (E s args below D cA A ρ0 n0) (F0 m (pc + 3) ls (xpr r ++ st.map (xr ρ))) := by
    intro ρ' t H1 locs1 ht hg hB hS1
    obtain ⟨hP1, -, hD1⟩ := hB
    rw [ht] at hP1
    obtain ⟨f1, f2⟩ := xfit_eq (n := 0) hg hf
    have hag' : xag (nc + xmc a) n0 ρ0 ρ' := by
      refine ⟨fun h0 => ?_, fun j hj => ?_⟩
      · rw [hg.1 (by omega)]; exact hag.1 (by omega)
      · rw [hg.2 j (by rcases hj with h | h; exact Or.inl (by omega); exact Or.inr h)]; exact hag.2 j hj
    have hL' : xLoc ls (xnl k) ρ' L := by
      obtain ⟨lv, g1, g2⟩ := hL
      exact ⟨lv, g1, fun j v hj => ⟨by rw [f2 j v hj]; exact (g2 j v hj).1, (g2 j v hj).2⟩⟩
    have K := kk p l e s m args below meth c D cA A ρ0 n0 V ρ' H1 locs1 ls hag' (Nat.le_trans hn0 hw) hP1 (hD1.weaken (fun _ q _ h => hFc q.1 h)) hS1 hL'
    have hst : (xpr r ++ st).map (xr ρ') = xpr r ++ st.map (xr ρ) := by
      rw [List.map_append, List.map_congr_left f1]
      congr 1
      cases r <;> rfl
    have K : W p l e (xrm k) s m args below meth c H1 locs1 (nc + xmc a) (ns + xms a) (E s args below D cA A ρ0 n0) (F0 m (xpc (xcd k) (i + 1)) ls ((xpr r ++ st).map (xr ρ'))) := K
    rw [hst, hn] at K
    exact K
  cases r with
  | none => exact va_callv (a := aa) hr hS (fun q _ h => hFc q h) hFc (fun ρ' t H1 locs1 ht hvm hw hB hz1 hk1 hS1 => go ρ' t H1 locs1 ht hw hB hS1)
  | some x =>
    refine va_calli (a := aa) hr hS (fun q _ h => hFc q h) hFc (fun y ρ' t H1 locs1 ht hvm hw hB hz1 hk1 hS1 => ?_)
    obtain ⟨e1, e2⟩ := hw
    subst e1
    exact go ρ' t H1 locs1 ht e2 hB hS1
theorem xPcs {q : List Value} (V : xEnv k sc p s m args meth c D cA A ρ0) (hP : va_P D xcl (xwd cA ρ w) H) (hD : va_D A (xwd cA ρ w)) : ∀ U : State, U.heap = H → s.WarmedH U.vm → va_Pc q (xPre D cA ρ H.size w) q.toArray U := by
  intro U hU hW
  exact ⟨rfl, by rw [hU], by rw [hU]; exact hP, va_K.moved hW.alike V.2.2.2.2.2.2.2.2.2.1, hD.weaken (fun _ _ _ _ => trivial), fun x hx => va_Nw.warmM hW (V.2.2.2.2.2.2.2.2.1 x hx)⟩
/-- a call of an instance method -/
theorem xOK_callv {pc idx b d q : Nat} {v : Int32} {fs av stk : List Value} (hk : k < xN) (hi : xnth (xcd k) i = some (pc, .invokevirtual idx, a, b, d, v)) (hM : xMet a (.ref q :: av) w r w1) (hq : xnth w q = some (.inr (b, fs))) (hs : stk = av.reverse ++ .ref q :: st)
    (hn : Nat.beq av.length (xnp a) = true) (hr : xroom st = true) (hc : (Nat.ble (nc + xmc a) (xmc k) && Nat.ble (ns + xms a) (xms k)) = true) (hf : (Nat.beq (xmc a) 0 || xfit L st w) = true)
    (kk : xOK k sc E (i + 1, L, xpr r ++ st) w1 (nc + xmc a) (ns + xms a)) : xOK k sc E (i, L, stk) w nc ns := by
  subst hs
  obtain ⟨h1, -, h3⟩ := xdec hk hi
  have hnx := xnx hk hi rfl
  obtain ⟨haN, hroom, hcls⟩ := xcall_ok h3
  have hd := xdesc_ok (xlt haN)
  have hn := Nat.eq_of_beq_eq_true hn
  rw [Bool.and_eq_true] at hc
  intro p l e s m args below meth c D cA A ρ0 n0 V ρ H locs ls hag hn0 hP hD hS hL
  rw [xpc_eq hi]
  obtain ⟨rc, hrc, hrn⟩ := hcls
  have hrecv := va_recv V.2.2.2.2.2.2.2.2.2.1 hP hrc (xwd_get hq)
  rw [hrn] at hrecv
  refine xbehind V hag hn0 hP hD hS hL hM.1 hf hnx (va_runV (C := (xy a).cls) (As := av.map (xr ρ)) (b := ρ q) (n := xnp a) ⟨V.2.1, V.2.2.1, V.2.2.2.1, V.2.2.2.2.2.2.1, V.2.2.2.2.2.2.2.1⟩ (hM.2 l D cA ρ H.size) (cwV (xnp a) V.2.2.2.2.2.2.2.1 (xGood ?_) rfl rfl rfl ⟨rfl, hd⟩ hroom) ⟨xblind, hrecv, xPcs V hP hD⟩ rfl (by simpa using hn) (by obtain ⟨lv, g1, -⟩ := hL; exact g1.1) (by simp [xr]) (lv_room (by rw [xr_map_cat]; exact Nat.le_of_ble_eq_true hr)) h1 ⟨Nat.le_of_ble_eq_true hc.1, Nat.le_of_ble_eq_true hc.2⟩) kk
  intro x hx
  unfold wsV at hx
  rcases List.mem_append.mp hx with h | h
  · exact xword_in hk hi x h
  · exact xws_all haN x h
/-- a call of a static method -/
theorem xOK_calls {pc idx b d : Nat} {v : Int32} {av stk : List Value} (hk : k < xN) (hi : xnth (xcd k) i = some (pc, .invokestatic idx, a, b, d, v)) (hd0 : Nat.beq d 0 = true) (hM : xMet a av w r w1) (hs : stk = av.reverse ++ st)
    (hn : Nat.beq av.length (xnp a) = true) (hr : xroom st = true) (hc : (Nat.ble (nc + xmc a) (xmc k) && Nat.ble (ns + xms a) (xms k)) = true) (hf : (Nat.beq (xmc a) 0 || xfit L st w) = true)
    (kk : xOK k sc E (i + 1, L, xpr r ++ st) w1 (nc + xmc a) (ns + xms a)) : xOK k sc E (i, L, stk) w nc ns := by
  subst hs
  have hd0 := Nat.eq_of_beq_eq_true hd0
  subst hd0
  obtain ⟨h1, -, h3⟩ := xdec hk hi
  have hnx := xnx hk hi rfl
  obtain ⟨haN, hroom⟩ := xcallS_ok h3
  have hd := xdesc_ok (xlt haN)
  have hn := Nat.eq_of_beq_eq_true hn
  rw [Bool.and_eq_true] at hc
  intro p l e s m args below meth c D cA A ρ0 n0 V ρ H locs ls hag hn0 hP hD hS hL
  rw [xpc_eq hi]
  refine xbehind V hag hn0 hP hD hS hL hM.1 hf hnx (va_runS (As := av.map (xr ρ)) (n := xnp a) ⟨V.2.1, V.2.2.1, V.2.2.2.1, V.2.2.2.2.2.2.1, V.2.2.2.2.2.2.2.1⟩ (hM.2 l D cA ρ H.size) (va_cwS (xnp a) V.2.2.2.2.2.2.2.1 (xGood ?_) rfl rfl rfl hd hroom) ⟨xblind, xPcs V hP hD⟩ rfl (by simpa using hn) (by obtain ⟨lv, g1, -⟩ := hL; exact g1.1) (by simp) (lv_room (by rw [xr_map_cat]; exact Nat.le_of_ble_eq_true hr)) h1 ⟨Nat.le_of_ble_eq_true hc.1, Nat.le_of_ble_eq_true hc.2⟩) kk
  intro x hx
  unfold va_wsS at hx
  rcases List.mem_append.mp hx with h | h
  · exact xword_in hk hi x h
  · exact xws_all haN x h
end XCL
section XRB
variable {k : Nat} {sc : Option (Nat × (Nat → Int32))} {E : xT} {i : Nat} {L : List (Option Value)} {st : List Value} {w w1 : xW} {nc ns a : Nat} {r : Option Int32}
/-- a constructor's call -/
theorem xOK_calli {pc idx b d q : Nat} {v : Int32} {av stk : List Value} (hk : k < xN) (hi : xnth (xcd k) i = some (pc, .invokespecial idx, a, b, d, v)) (hd0 : Nat.blt d 2 = true) (hM : xMet a (.ref q :: av) w none w1) (hs : stk = av.reverse ++ .ref q :: st)
    (hn : Nat.beq av.length (xnp a) = true) (hr : xroom st = true) (hc : (Nat.ble (nc + xmc a) (xmc k) && Nat.ble (ns + xms a) (xms k)) = true) (hf : (Nat.beq (xmc a) 0 || xfit L st w) = true)
    (kk : xOK k sc E (i + 1, L, st) w1 (nc + xmc a) (ns + xms a)) : xOK k sc E (i, L, stk) w nc ns := by
  subst hs
  obtain ⟨h1, -, h3⟩ := xdec hk hi
  have hnx := xnx hk hi rfl
  obtain ⟨haN, hroom, hrt, hnm, hnest⟩ := xcallI_ok (Nat.blt_eq.mp hd0) h3
  have hd := xdesc_ok (xlt haN)
  have hn := Nat.eq_of_beq_eq_true hn
  rw [Bool.and_eq_true] at hc
  have hm2 : Cond.instanceMethod (xy a) ∈ xword k (pc, .invokespecial idx, a, b, d, v) ∧ Cond.initialized (xy a).cls ∈ xword k (pc, .invokespecial idx, a, b, d, v) := by
    have hd0 := Nat.blt_eq.mp hd0
    rcases (show d = 0 ∨ d = 1 by omega) with h | h <;> subst h <;> simp [xword]
  intro p l e s m args below meth c D cA A ρ0 n0 V ρ H locs ls hag hn0 hP hD hS hL
  rw [xpc_eq hi]
  have hts := V.2.2.2.2.2.2.2.1
  have hw0 : xws a = Cond.code (xy a) (xby a) (xnl a) none :: xall := by unfold xws; rw [hrt]
  rcases hnest with hz | hz
  · have hl : Cond.methodLink (xy k).cls idx (xy a) ∈ xword k (pc, .invokespecial idx, a, b, d, v) := by subst hz; simp [xword]
    exact xbehind (r := none) V hag hn0 hP hD hS hL hM.1 hf hnx (va_runI (As := av.map (xr ρ)) (b := ρ q) (n := xnp a) ⟨V.2.1, V.2.2.1, V.2.2.2.1, V.2.2.2.2.2.2.1, hts⟩ (hM.2 l D cA ρ H.size) (cwI (xnp a) hts (xGood (xws_all haN)) hw0 rfl rfl (hts _ (xall_in _ (xword_in hk hi _ hm2.2))) (hts _ (xall_in _ (xword_in hk hi _ hl))) (hts _ (xall_in _ (xword_in hk hi _ hm2.1))) hnm hd hroom) ⟨xblind, xPcs V hP hD⟩ rfl (by simpa using hn) (by obtain ⟨lv, g1, -⟩ := hL; exact g1.1) (by simp [xr]) (lv_room (by rw [xr_map_cat]; exact Nat.le_of_ble_eq_true hr)) h1 ⟨Nat.le_of_ble_eq_true hc.1, Nat.le_of_ble_eq_true hc.2⟩) kk
  · exact xbehind (r := none) V hag hn0 hP hD hS hL hM.1 hf hnx (va_runIN (host := xhost) (As := av.map (xr ρ)) (b := ρ q) (n := xnp a) ⟨V.2.1, V.2.2.1, V.2.2.2.1, V.2.2.2.2.2.2.1, hts⟩ (hM.2 l D cA ρ H.size) ⟨va_cnB (xnp a) hts (xGood (xws_all haN)) hw0 rfl rfl (V.2.2.2.2.2.2.2.2.1 _ hz) (hts _ (xall_in _ (xword_in hk hi _ hm2.2))) hd hroom, hnm, hts _ (xall_in _ (xword_in hk hi _ hm2.1))⟩ ⟨xblind, xPcs V hP hD⟩ rfl (by simpa using hn) (by obtain ⟨lv, g1, -⟩ := hL; exact g1.1) (by simp [xr]) (lv_room (by rw [xr_map_cat]; exact Nat.le_of_ble_eq_true hr)) h1 ⟨Nat.le_of_ble_eq_true hc.1, Nat.le_of_ble_eq_true hc.2⟩) kk
/-- Object() -/
theorem xOK_obj {pc idx b q : Nat} {v : Int32} (hk : k < xN) (hi : xnth (xcd k) i = some (pc, .invokespecial idx, a, b, 2, v)) (hr : xroom st = true) (kk : xOK k sc E (i + 1, L, st) w nc ns) : xOK k sc E (i, L, .ref q :: st) w nc ns := by
  obtain ⟨h1, -, h3⟩ := xdec hk hi
  have hnx := xnx hk hi rfl
  have h3 : (Nat.ble 1 (xrm k).frames && Nat.ble 40 (xrm k).locals) = true := h3
  rw [Bool.and_eq_true] at h3
  have hr := Nat.le_of_ble_eq_true hr
  have h5 := Nat.le_of_ble_eq_true h3.2
  refine xOK_pure hi kk fun p l e s m args below meth c D cA A ρ0 ρ n0 H locs ls Q V hag hP hD hS hL K => ?_
  have hts := V.2.2.2.2.2.2.2.1
  have K := K ls hL
  rw [hnx] at K
  refine W.objInit V.2.1 V.2.2.1 V.2.2.2.2.2.2.1 (hts _ (xall_in _ (xword_in hk hi (.methodLink (xy k).cls idx objectInit) (by simp [xword])))) (hts _ (xall_in _ (xword_in hk hi (.instanceMethod objectInit) (by simp [xword])))) (hts _ (xall_in _ (xword_in hk hi (.code objectInit ⟨#[0xb1]⟩ 1 none) (by simp [xword])))) rfl ?_ (rest := st.map (xr ρ)) rfl h1 (Nat.le_of_ble_eq_true h3.1) ?_ K
  · obtain ⟨lv, g1, -⟩ := hL
    exact g1.1.trans V.2.2.2.1.symm
  · have := xr_map_cat ρ st
    show 2 * 0 + ((st.map (xr ρ)).map fun v => v.category).sum + 12 ≤ _
    omega
theorem xwd_ext {cA : ClassId} {ρ : Nat → Nat} {q : Nat} {x : xC} (hf : xfit L st w = true) : xwd cA (fun j => if j = w.length then q else ρ j) (w ++ [x]) = xwd cA ρ w ++ [(q, xcell cA (fun j => if j = w.length then q else ρ j) x)] := by
  unfold xfit at hf
  simp only [Bool.and_eq_true] at hf
  obtain ⟨-, -, hw, hs⟩ := hf
  have hs := Nat.blt_eq.mp hs
  have hag : ∀ j, (j < w.length ∨ j = xscr) → (if j = w.length then q else ρ j) = ρ j := fun j hj => if_neg (by omega)
  unfold xwd
  rw [List.mapIdx_concat]
  congr 1
  · apply List.ext_getElem?
    intro j
    rw [List.getElem?_mapIdx, List.getElem?_mapIdx]
    cases hj : w[j]? with
    | none => rfl
    | some y =>
      have hl := (List.getElem?_eq_some_iff.mp hj).1
      have hy := List.all_eq_true.mp hw y (List.mem_of_getElem? hj)
      have e1 : (if j = w.length then q else ρ j) = ρ j := if_neg (by omega)
      have e2 : xcell cA (fun j => if j = w.length then q else ρ j) y = xcell cA ρ y := by
        cases y with
        | inl z => rfl
        | inr z =>
          show Sum.inr (z.1, z.2.map _) = Sum.inr (z.1, z.2.map _)
          rw [List.map_congr_left fun u hu => xfv_eq hag (List.all_eq_true.mp hy u hu)]
      exact congrArg some (Prod.ext e1 e2)
  · simp
theorem xag_ext {n0 q : Nat} {ρ0 ρ : Nat → Nat} (hn0 : n0 ≤ w.length) (hf : xfit L st w = true) (h : xag nc n0 ρ0 ρ) : xag (nc + 1) n0 ρ0 (fun j => if j = w.length then q else ρ j) := by
  unfold xfit at hf
  simp only [Bool.and_eq_true] at hf
  have hs := Nat.blt_eq.mp hf.2.2.2
  refine ⟨fun h => by omega, fun j hj => ?_⟩
  show (if j = w.length then q else ρ j) = ρ0 j
  rw [if_neg (by omega)]
  exact h.2 j hj
theorem xnew_go {p : Program} {l : Launch} {e : Env} {s : State} {m : MethodId} {args : Array Value} {below : List Frame} {meth : Method} {c : Code} {D : va_G} {cA : ClassId} {A : Nat → Prop} {ρ0 ρ : Nat → Nat} {n0 q N pc' : Nat} {H1 : Heap} {locs : List Loc} {ls : Array Slot} {x : xC} (V : xEnv k sc p s m args meth c D cA A ρ0) (hag : xag nc n0 ρ0 ρ) (hn0 : n0 ≤ w.length) (hL : xLoc ls (xnl k) ρ L) (hf : xfit L st w = true) (hn : xpc (xcd k) (i + 1) = pc')
    (hP : va_P D xcl (xwd cA ρ w ++ [(q, xcell cA (fun j => if j = w.length then q else ρ j) x)]) H1) (hD : va_D A (xwd cA ρ w ++ [(q, xcell cA (fun j => if j = w.length then q else ρ j) x)])) (hS : va_S A s.heap H1 locs) (kk : xOK k sc E (i + 1, L, .ref w.length :: st) (w ++ [x]) (nc + 1) (ns + N)) :
    W p l e (xrm k) s m args below meth c H1 locs (nc + 1) (ns + N) (E s args below D cA A ρ0 n0) (F0 m pc' ls (.ref q :: st.map (xr ρ))) := by
  have hg : xag 1 w.length ρ (fun j => if j = w.length then q else ρ j) := by
    have := xag_ext (n0 := w.length) (q := q) (nc := 0) (ρ := ρ) (Nat.le_refl _) hf ⟨fun _ => rfl, fun _ _ => rfl⟩
    exact this
  obtain ⟨f1, f2⟩ := xfit_eq (n := 0) hg (by rw [hf]; rfl)
  rw [← xwd_ext hf] at hP hD
  have hL' : xLoc ls (xnl k) (fun j => if j = w.length then q else ρ j) L := by
    obtain ⟨lv, g1, g2⟩ := hL
    exact ⟨lv, g1, fun j v hj => ⟨by rw [f2 j v hj]; exact (g2 j v hj).1, (g2 j v hj).2⟩⟩
  have K := kk p l e s m args below meth c D cA A ρ0 n0 V _ H1 locs ls (xag_ext hn0 hf hag) (by rw [List.length_append]; omega) hP hD hS hL'
  have K : W p l e (xrm k) s m args below meth c H1 locs (nc + 1) (ns + N) (E s args below D cA A ρ0 n0) (F0 m (xpc (xcd k) (i + 1)) ls (.ref (if w.length = w.length then q else ρ w.length) :: st.map (xr (fun j => if j = w.length then q else ρ j)))) := K
  rw [List.map_congr_left f1, if_pos rfl, hn] at K
  exact K
/-- a new object -/
theorem xOK_new {pc idx b d : Nat} {v : Int32} (hk : k < xN) (hi : xnth (xcd k) i = some (pc, .new idx, a, b, d, v)) (hf : xfit L st w = true) (hc : (Nat.ble (nc + 1) (xmc k) && Nat.ble (ns + b) (xms k)) = true) (kk : xOK k sc E (i + 1, L, .ref w.length :: st) (w ++ [.inr (a, xdf a)]) (nc + 1) (ns + b)) : xOK k sc E (i, L, st) w nc ns := by
  obtain ⟨h1, -, h3⟩ := xdec hk hi
  have hnx := xnx hk hi rfl
  obtain ⟨⟨C, T, N⟩, hcl, hN⟩ := xnew_ok h3
  have hN : N = b := hN
  subst hN
  rw [Bool.and_eq_true] at hc
  have hty := xty_ok hcl
  obtain ⟨hdf, hdm⟩ := xdf_ok hcl
  intro p l e s m args below meth c D cA A ρ0 n0 V ρ H locs ls hag hn0 hP hD hS hL
  rw [xpc_eq hi]
  have hts := V.2.2.2.2.2.2.2.1
  have hwd : ∀ x ∈ ([.classLink (xy k).cls idx C, .instantiable C N, .initialized C] : List Cond), x.before args s = true := fun x hx => hts x (xall_in _ (xword_in hk hi x (by unfold xword; simp only [hcl]; exact hx)))
  refine va_new (ci := a) (fs := xdf a) (C := C) (T := T) (N := N) V.2.1 V.2.2.1 hts (xlay_in hcl) (xty a) hty V.2.2.2.2.2.2.1 (hwd _ (by simp)) (hwd _ (by simp)) (hwd _ (by simp)) V.2.2.2.2.2.2.2.2.2.1 hP hD hS V.2.2.2.2.2.2.2.2.2.2.1 hcl hdf (Nat.le_of_ble_eq_true hc.1) (Nat.le_of_ble_eq_true hc.2) h1 (fun q H1 hP1 hD1 hS1 => ?_)
  have hx : xcell cA (fun j => if j = w.length then q else ρ j) (.inr (a, xdf a)) = .inr (a, xdf a) := by
    show Sum.inr (a, (xdf a).map _) = _
    rw [hdm]
  exact xnew_go V hag hn0 hL hf hnx (by rw [hx]; exact hP1) (by rw [hx]; exact hD1) hS1 kk
/-- a new array -/
theorem xOK_newa {pc b d n : Nat} {v x : Int32} (hk : k < xN) (hi : xnth (xcd k) i = some (pc, .newarray .int, a, b, d, v)) (hf : xfit L st w = true) (hx : (!(decide (x < 0)) && Nat.beq x.toNatClampNeg n && Nat.ble n 1000) = true) (hc : (Nat.ble (nc + 1) (xmc k) && Nat.ble (ns + n) (xms k)) = true) (kk : xOK k sc E (i + 1, L, .ref w.length :: st) (w ++ [.inl (n, fun _ => 0)]) (nc + 1) (ns + n)) : xOK k sc E (i, L, .int x :: st) w nc ns := by
  obtain ⟨h1, -, -⟩ := xdec hk hi
  have hnx := xnx hk hi rfl
  simp only [Bool.and_eq_true] at hc hx
  have hx1 : ¬ x < 0 := by simpa using hx.1.1
  have hx2 := Nat.eq_of_beq_eq_true hx.1.2
  have hx3 := Nat.le_of_ble_eq_true hx.2
  intro p l e s m args below meth c D cA A ρ0 n0 V ρ H locs ls hag hn0 hP hD hS hL
  rw [xpc_eq hi]
  have hts := V.2.2.2.2.2.2.2.1
  have hK := V.2.2.2.2.2.2.2.2.2.1
  refine va_newa (atype := .int) (ty := .int) (a0 := (n, .inl (fun _ => 0))) (N' := n) V.2.1 V.2.2.1 (hts _ (xall_in _ (xword_in hk hi (.arrayClass .int) (by simp [xword])))) rfl hK hP hD hS V.2.2.2.2.2.2.2.2.2.2.1 (fun _ => rfl) hx1 hx2 (by show n * 4 ≤ _; omega) (Nat.le_of_ble_eq_true hc.1) (Nat.le_of_ble_eq_true hc.2) h1 (fun q cA' H1 hK1 hP1 hD1 hS1 => ?_)
  have e1 : s.vm.findClass ("[" ++ (FieldType.int).toString) = some cA := (hK.2 0 (cA, .int) rfl).2
  have e2 : s.vm.findClass ("[" ++ (FieldType.int).toString) = some cA' := (hK1.2 1 (cA', .int) rfl).2
  have e3 : cA = cA' := Option.some.inj (e1.symm.trans e2)
  subst e3
  exact xnew_go (x := .inl (n, fun _ => 0)) V hag hn0 hL hf hnx hP1 hD1 hS1 kk
/-- Math.max -/
theorem xOK_max {pc idx b : Nat} {v x y : Int32} (hk : k < xN) (hi : xnth (xcd k) i = some (pc, .invokestatic idx, a, b, 2, v)) (hr : xroom st = true) (hc : (Nat.ble nc (xmc k) && Nat.ble ns (xms k)) = true) (kk : xOK k sc E (i + 1, L, .int (if x < y then y else x) :: st) w nc ns) : xOK k sc E (i, L, .int y :: .int x :: st) w nc ns := by
  obtain ⟨h1, -, h3⟩ := xdec hk hi
  have hnx := xnx hk hi rfl
  have h3 : (Nat.ble 1 (xrm k).frames && Nat.ble 40 (xrm k).locals) = true := h3
  rw [Bool.and_eq_true] at h3 hc
  have hr := Nat.le_of_ble_eq_true hr
  have h5 := Nat.le_of_ble_eq_true h3.2
  refine xOK_pure hi kk fun p l e s m args below meth c D cA A ρ0 ρ n0 H locs ls Q V hag hP hD hS hL K => ?_
  have hts := V.2.2.2.2.2.2.2.1
  have K := K ls hL
  rw [hnx] at K
  have hwd : ∀ x ∈ ([.methodLink (xy k).cls idx Lib.Math.max.name, .static Lib.Math.max.name, .initialized "java/lang/Math", .code Lib.Math.max.name Lib.Math.max.code 2 (some .int)] : List Cond), x.before args s = true := fun x hx => hts x (xall_in _ (xword_in hk hi x hx))
  refine va_mmax V.2.1 V.2.2.1 ?_ V.2.2.2.2.2.2.1 (hwd _ (by simp)) (hwd _ (by simp)) (hwd _ (by simp)) (hwd _ (by simp)) (Nat.le_of_ble_eq_true h3.1) ?_ (Nat.le_of_ble_eq_true hc.1) (Nat.le_of_ble_eq_true hc.2) h1 K
  · obtain ⟨lv, g1, -⟩ := hL
    exact V.2.2.2.1.trans g1.1.symm
  · have := xr_map_cat ρ st
    omega
/-- System.arraycopy of whole beginnings -/
theorem xOK_copy {pc idx b q0 q1 n0' n1' n : Nat} {v x : Int32} {f g : Nat → Int32} (hk : k < xN) (hi : xnth (xcd k) i = some (pc, .invokestatic idx, a, b, 3, v)) (hr : xroom st = true) (hq0 : xnth w q0 = some (.inl (n0', f))) (hq1 : xnth w q1 = some (.inl (n1', g))) (hx : (!(decide (x < 0)) && Nat.beq x.toNatClampNeg n && Nat.ble n n0' && Nat.ble n n1') = true)
    (kk : xOK k sc E (i + 1, L, st) (w.set q1 (.inl (n1', va_cpy f g 0 0 n))) nc ns) : xOK k sc E (i, L, .int x :: .int 0 :: .ref q1 :: .int 0 :: .ref q0 :: st) w nc ns := by
  obtain ⟨h1, -, h3⟩ := xdec hk hi
  have hnx := xnx hk hi rfl
  have h3 : (Nat.ble 1 (xrm k).frames && Nat.ble 40 (xrm k).locals) = true := h3
  rw [Bool.and_eq_true] at h3
  have hr := Nat.le_of_ble_eq_true hr
  have h5 := Nat.le_of_ble_eq_true h3.2
  simp only [Bool.and_eq_true] at hx
  have hx1 : ¬ x < 0 := by simpa using hx.1.1.1
  have hx2 := Nat.eq_of_beq_eq_true hx.1.1.2
  have hx3 := Nat.le_of_ble_eq_true hx.1.2
  have hx4 := Nat.le_of_ble_eq_true hx.2
  subst hx2
  refine xOK_cell hi (by simp) kk fun p l e s m args below meth c D cA A ρ0 ρ n0 H locs ls Q V hag hP hD hS hL K => ?_
  have hts := V.2.2.2.2.2.2.2.1
  have hwd : ∀ x ∈ ([.methodLink (xy k).cls idx arraycopyName, .native arraycopyName, .static arraycopyName, .initialized "java/lang/System"] : List Cond), x.before args s = true := fun x hx => hts x (xall_in _ (xword_in hk hi x hx))
  refine va_copyi V.2.1 V.2.2.1 ?_ V.2.2.2.2.2.2.1 (hwd _ (by simp)) (hwd _ (by simp)) (hwd _ (by simp)) (hwd _ (by simp)) V.2.2.2.2.2.2.2.2.2.1 hP hD hS q0 q1 0 0 (xwd_get hq0) (xwd_get hq1) rfl rfl rfl (by decide) (by decide) hx1 (by show 0 + _ ≤ _; omega) (by show 0 + _ ≤ _; omega) (fun _ _ => rfl) (Nat.le_of_ble_eq_true h3.1) ?_ h1 (fun H' locs' hP' hD' hS' => ?_)
  · obtain ⟨lv, g1, -⟩ := hL
    exact V.2.2.2.1.trans g1.1.symm
  · have := xr_map_cat ρ st
    show _ + (7 + 11) ≤ _
    omega
  · have K := K H' locs' hL (by rw [xwd_set]; exact hP') (by rw [xwd_set]; exact hD') hS'
    rw [hnx] at K
    exact K
/-- a switch -/
theorem xOK_tswIn {pc b d t : Nat} {v x : Int32} {df lo hh off : Int} {offs : Array Int} (hk : k < xN) (hi : xnth (xcd k) i = some (pc, .tableswitch df lo hh offs, a, b, d, v)) (h1 : ¬ x.toInt < lo) (h2 : ¬ hh < x.toInt) (ho : offs[(x.toInt - lo).toNat]? = some off) (ht : (pc : Int) + off = (xpc (xcd k) t : Int)) (kk : xOK k sc E (t, L, st) w nc ns) : xOK k sc E (i, L, .int x :: st) w nc ns := by
  obtain ⟨hd, -, -⟩ := xdec hk hi
  refine xOK_pure hi kk fun p l e s m args below meth c D cA A ρ0 ρ n0 H locs ls Q V hag hP hD hS hL K => ?_
  exact lv_tableIn V.2.1 V.2.2.1 hd h1 h2 ho ht (K ls hL)
theorem xOK_tswOut {pc b d t : Nat} {v x : Int32} {df lo hh : Int} {offs : Array Int} (hk : k < xN) (hi : xnth (xcd k) i = some (pc, .tableswitch df lo hh offs, a, b, d, v)) (h1 : x.toInt < lo ∨ hh < x.toInt) (ht : (pc : Int) + df = (xpc (xcd k) t : Int)) (kk : xOK k sc E (t, L, st) w nc ns) : xOK k sc E (i, L, .int x :: st) w nc ns := by
  obtain ⟨hd, -, -⟩ := xdec hk hi
  refine xOK_pure hi kk fun p l e s m args below meth c D cA A ρ0 ρ n0 H locs ls Q V hag hP hD hS hL K => ?_
  exact lv_tableOut V.2.1 V.2.2.1 hd h1 ht (K ls hL)
/-- fewer known locals -/
def xfg : List Nat → List (Option Value) → List (Option Value)
  | [], L => L
  | j :: js, L => xfg js (L.set j none)
theorem xfg_sub : ∀ (js : List Nat) (L : List (Option Value)) (j : Nat) (v : Value), (xfg js L)[j]? = some (some v) → L[j]? = some (some v)
  | [], L, j, v, h => h
  | a :: js, L, j, v, h => by
    have h := xfg_sub js (L.set a none) j v h
    rw [List.getElem?_set] at h
    split at h
    · split at h
      · cases h
      · cases h
    · exact h
theorem xOK_fg (js : List Nat) (kk : xOK k sc E (i, xfg js L, st) w nc ns) : xOK k sc E (i, L, st) w nc ns := by
  intro p l e s m args below meth c D cA A ρ0 n0 V ρ H locs ls hag hn0 hP hD hS hL
  refine kk p l e s m args below meth c D cA A ρ0 n0 V ρ H locs ls hag hn0 hP hD hS ?_
  obtain ⟨lv, g1, g2⟩ := hL
  exact ⟨lv, g1, fun j v hj => g2 j v (xfg_sub js L j v hj)⟩
/-- the ends -/
theorem xOK_vret {pc b d : Nat} {v : Int32} (hk : k < xN) (hi : xnth (xcd k) i = some (pc, .return_, a, b, d, v)) (hc : (Nat.ble nc (xmc k) && Nat.ble ns (xms k)) = true) : xOK k sc (xEnd k none w) (i, L, []) w nc ns := by
  obtain ⟨h1, -, h3⟩ := xdec hk hi
  rw [Bool.and_eq_true] at hc
  intro p l e s m args below meth c D cA A ρ0 n0 V ρ H locs ls hag hn0 hP hD hS hL
  rw [xpc_eq hi]
  have hc1 := Nat.le_of_ble_eq_true hc.1
  refine W.widen hc1 (Nat.le_of_ble_eq_true hc.2) ?_
  have hag' : xag (xmc k) n0 ρ0 ρ := ⟨fun h => hag.1 (by omega), hag.2⟩
  refine W.vret (Qc := xQ k D cA A ρ0 n0 none w) V.2.1 V.2.2.1 (V.2.2.2.2.1.trans (of_decide_eq_true h3)) (fun t ht hW => ?_) hS.2.2 h1 V.2.2.2.2.2.1
  exact ⟨⟨ρ, rfl, hag', by rw [ht]; exact hP, va_K.moved hW.alike V.2.2.2.2.2.2.2.2.2.1, hD⟩, hS.F ht⟩
theorem xOK_iret {pc b d : Nat} {v x : Int32} (hk : k < xN) (hi : xnth (xcd k) i = some (pc, .ireturn, a, b, d, v)) (hb : xrb k x = true) (hc : (Nat.ble nc (xmc k) && Nat.ble ns (xms k)) = true) : xOK k sc (xEnd k (some x) w) (i, L, [.int x]) w nc ns := by
  obtain ⟨h1, -, h3⟩ := xdec hk hi
  rw [Bool.and_eq_true] at hc
  obtain ⟨ty, e1, e2⟩ := xrb_ok h3 hb
  intro p l e s m args below meth c D cA A ρ0 n0 V ρ H locs ls hag hn0 hP hD hS hL
  rw [xpc_eq hi]
  have hc1 := Nat.le_of_ble_eq_true hc.1
  refine W.widen hc1 (Nat.le_of_ble_eq_true hc.2) ?_
  have hag' : xag (xmc k) n0 ρ0 ρ := ⟨fun h => hag.1 (by omega), hag.2⟩
  refine W.zret (Qc := xQ k D cA A ρ0 n0 (some x) w) V.2.1 V.2.2.1 (V.2.2.2.2.1.trans e1) e2 (fun t ht hW => ?_) hS.2.2 h1 V.2.2.2.2.2.1
  exact ⟨⟨x, ρ, rfl, ⟨rfl, hag'⟩, by rw [ht]; exact hP, va_K.moved hW.alike V.2.2.2.2.2.2.2.2.2.1, hD⟩, hS.F ht⟩
end XRB
theorem xargs_in : ∀ (vs : List Value) (i : Nat), (∀ v ∈ vs, v.category = 1) → ∀ (j : Nat) (v : Value), vs[j]? = some v → (i + j, v) ∈ lv_args i vs
  | [], i, _, j, v, h => by simp at h
  | u :: vs, i, hc, 0, v, h => by
    simp at h
    subst h
    exact List.mem_cons_self
  | u :: vs, i, hc, j + 1, v, h => by
    have hu := hc u List.mem_cons_self
    have ih := xargs_in vs (i + 1) (fun v hv => hc v (List.mem_cons_of_mem _ hv)) j v (by simpa using h)
    show (i + (j + 1), v) ∈ (i, u) :: lv_args (if u.category = 2 then i + 2 else i + 1) vs
    rw [if_neg (by rw [hu]; decide)]
    rw [show i + (j + 1) = i + 1 + j by omega]
    exact List.mem_cons_of_mem _ ih
theorem xsl_len : ∀ (vs : List Value), (∀ v ∈ vs, v.category = 1) → (lg_sl vs).length = vs.length
  | [], _ => rfl
  | u :: vs, hc => by
    have hu := hc u List.mem_cons_self
    have ih := xsl_len vs (fun v hv => hc v (List.mem_cons_of_mem _ hv))
    unfold lg_sl at ih ⊢
    rw [List.flatMap_cons, List.length_append, ih, if_neg (by rw [hu]; decide)]
    simp; omega
theorem xent_get {k j : Nat} {av : List Value} {v : Value} (h : (xent k av)[j]? = some (some v)) : av[j]? = some v := by
  unfold xent at h
  rw [List.getElem?_append] at h
  split at h
  · rw [List.getElem?_map] at h
    cases hj : av[j]? with
    | none => rw [hj] at h; cases h
    | some u => rw [hj] at h; cases h; rfl
  · rw [List.getElem?_replicate] at h
    split at h
    · cases h
    · cases h
/-- a method's contract out of its walk -/
theorem xMet_of {k : Nat} {av : List Value} {w wE : xW} {r : Option Int32} (hk : k < xN) (hl : Nat.ble av.length (xnl k) = true) (hc : av.all (fun v => Nat.beq v.category 1) = true) (hw : Nat.ble w.length wE.length = true) (h : xOK k none (xEnd k r wE) (0, xent k av, []) w 0 0) : xMet k av w r wE := by
  refine ⟨Nat.le_of_ble_eq_true hw, fun l D cA ρ sz => ?_⟩
  have hcv : ∀ v ∈ av, v.category = 1 := fun v hv => Nat.eq_of_beq_eq_true (List.all_eq_true.mp hc v hv)
  have hcr : ∀ v ∈ av.map (xr ρ), v.category = 1 := by
    intro v hv
    obtain ⟨u, hu, rfl⟩ := List.mem_map.mp hv
    rw [xr_cat]; exact hcv u hu
  refine Met.ofW (cc := xby k) (maxL := xnl k) (ret := xrt k) (xplain hk) rfl ?_
  intro p e s m args below meth c s₁ B hml hv
  obtain ⟨rfl, hsz, hP, hK, hD0, hN⟩ := hv
  subst hsz
  have hD := hD0.self (sz := s.heap.size)
  have hlen : (lg_sl (av.map (xr ρ))).length ≤ xnl k := by
    rw [xsl_len _ hcr, List.length_map]; exact Nat.le_of_ble_eq_true hl
  have hle := lv_entry (av.map (xr ρ)) (n := xnl k) hlen
  rw [lg_entry_eq]
  generalize (lg_sl (av.map (xr ρ)) ++ List.replicate (xnl k - (lg_sl (av.map (xr ρ))).length) Slot.unset).toArray = ls at hle ⊢
  have hLoc : xLoc ls (xnl k) ρ (xent k av) := by
    refine ⟨_, hle, fun j v hj => ?_⟩
    have hj := xent_get hj
    refine ⟨?_, hcv v (List.mem_of_getElem? hj)⟩
    have := xargs_in (av.map (xr ρ)) 0 hcr j (xr ρ v) (by rw [List.getElem?_map, hj]; rfl)
    rw [Nat.zero_add] at this
    exact this
  have V : xEnv k none p s m (av.map (xr ρ)).toArray meth c D cA (va_A (xwd cA ρ w) s.heap.size) ρ :=
    ⟨hk, B.exec, B.bytes, hml, B.returns, B.notSynchronized, findClass_of_methodNamed B.named, fun w hw => atoms_spec (ws := xws k) B.pre w (List.mem_cons_of_mem _ hw), hN, hK, fun q h => Or.inr h, fun hi => (name_of_methodNamed B.named B.method).1.trans hi, fun n f h => by cases h⟩
  have K := h p l e s m _ below meth c D cA _ ρ w.length V ρ s.heap [] ls ⟨fun _ => rfl, fun _ _ => rfl⟩ (Nat.le_refl _) hP hD va_S.rf hLoc
  have K : W p l e (xrm k) s m (av.map (xr ρ)).toArray below meth c s.heap [] 0 0 _ (F0 m (xpc (xcd k) 0) ls []) := K
  rw [xpc0 hk] at K
  exact K
end
section
theorem xif_pos {α : Type} {c : Prop} {d : Decidable c} {a b r : α} (hc : c) (h : (@ite α c d a b) = r) : a = r := by rw [if_pos hc] at h; exact h
theorem xif_neg {α : Type} {c : Prop} {d : Decidable c} {a b r : α} (hc : ¬ c) (h : (@ite α c d a b) = r) : b = r := by rw [if_neg hc] at h; exact h
theorem xand {a b : Bool} (ha : a = true) (hb : b = true) : (a && b) = true := by rw [ha, hb]; rfl
abbrev xS : Type := (Nat → Int32) × (Nat → Nat → Int32)
def xsc (s : xS) (n : Nat) (v : Int32) : xS := (upd s.1 n v, s.2)
def xsf (s : xS) (n : Nat) (f : Nat → Int32) : xS := (s.1, fun m => if m = n then f else s.2 m)
def xsa (s : xS) (n j : Nat) (v : Int32) : xS := (s.1, fun m => if m = n then upd (s.2 n) j v else s.2 m)
section XUS
variable {k : Nat} {sc : Option (Nat × (Nat → Int32))} {E : xT} {i : Nat} {L : List (Option Value)} {st : List Value} {w w1 : xW} {nc ns a : Nat} {r : Option Int32} {cd : List xE}
theorem xOK_eq {fr fr' : xF} (h : fr' = fr) (kk : xOK k sc E fr w nc ns) : xOK k sc E fr' w nc ns := by subst h; exact kk
theorem xu_if_eq {off : Int} {pc a b d : Nat} {v x : Int32} (he : xcd k = cd) (hk : k < xN) (hi : xnth cd i = some (pc, .ifCond .eq off, a, b, d, v)) (kt : x = 0 → xOK k sc E (a, L, st) w nc ns) (kf : ¬ x = 0 → xOK k sc E (i + 1, L, st) w nc ns) : xOK k sc E (i, L, .int x :: st) w nc ns := by
  subst he
  exact xs_if_eq hk hi kt kf
theorem xu_icmp_eq {off : Int} {pc a b d : Nat} {v x y : Int32} (he : xcd k = cd) (hk : k < xN) (hi : xnth cd i = some (pc, .if_icmp .eq off, a, b, d, v)) (kt : x = y → xOK k sc E (a, L, st) w nc ns) (kf : ¬ x = y → xOK k sc E (i + 1, L, st) w nc ns) : xOK k sc E (i, L, .int y :: .int x :: st) w nc ns := by
  subst he
  exact xs_icmp_eq hk hi kt kf
theorem xu_if_ne {off : Int} {pc a b d : Nat} {v x : Int32} (he : xcd k = cd) (hk : k < xN) (hi : xnth cd i = some (pc, .ifCond .ne off, a, b, d, v)) (kt : ¬ x = 0 → xOK k sc E (a, L, st) w nc ns) (kf : x = 0 → xOK k sc E (i + 1, L, st) w nc ns) : xOK k sc E (i, L, .int x :: st) w nc ns := by
  subst he
  exact xs_if_ne hk hi kt kf
theorem xu_icmp_ne {off : Int} {pc a b d : Nat} {v x y : Int32} (he : xcd k = cd) (hk : k < xN) (hi : xnth cd i = some (pc, .if_icmp .ne off, a, b, d, v)) (kt : ¬ x = y → xOK k sc E (a, L, st) w nc ns) (kf : x = y → xOK k sc E (i + 1, L, st) w nc ns) : xOK k sc E (i, L, .int y :: .int x :: st) w nc ns := by
  subst he
  exact xs_icmp_ne hk hi kt kf
theorem xu_if_lt {off : Int} {pc a b d : Nat} {v x : Int32} (he : xcd k = cd) (hk : k < xN) (hi : xnth cd i = some (pc, .ifCond .lt off, a, b, d, v)) (kt : x < 0 → xOK k sc E (a, L, st) w nc ns) (kf : ¬ x < 0 → xOK k sc E (i + 1, L, st) w nc ns) : xOK k sc E (i, L, .int x :: st) w nc ns := by
  subst he
  exact xs_if_lt hk hi kt kf
theorem xu_icmp_lt {off : Int} {pc a b d : Nat} {v x y : Int32} (he : xcd k = cd) (hk : k < xN) (hi : xnth cd i = some (pc, .if_icmp .lt off, a, b, d, v)) (kt : x < y → xOK k sc E (a, L, st) w nc ns) (kf : ¬ x < y → xOK k sc E (i + 1, L, st) w nc ns) : xOK k sc E (i, L, .int y :: .int x :: st) w nc ns := by
  subst he
  exact xs_icmp_lt hk hi kt kf
theorem xu_if_ge {off : Int} {pc a b d : Nat} {v x : Int32} (he : xcd k = cd) (hk : k < xN) (hi : xnth cd i = some (pc, .ifCond .ge off, a, b, d, v)) (kt : 0 ≤ x → xOK k sc E (a, L, st) w nc ns) (kf : ¬ 0 ≤ x → xOK k sc E (i + 1, L, st) w nc ns) : xOK k sc E (i, L, .int x :: st) w nc ns := by
  subst he
  exact xs_if_ge hk hi kt kf
theorem xu_icmp_ge {off : Int} {pc a b d : Nat} {v x y : Int32} (he : xcd k = cd) (hk : k < xN) (hi : xnth cd i = some (pc, .if_icmp .ge off, a, b, d, v)) (kt : y ≤ x → xOK k sc E (a, L, st) w nc ns) (kf : ¬ y ≤ x → xOK k sc E (i + 1, L, st) w nc ns) : xOK k sc E (i, L, .int y :: .int x :: st) w nc ns := by
  subst he
  exact xs_icmp_ge hk hi kt kf
theorem xu_if_gt {off : Int} {pc a b d : Nat} {v x : Int32} (he : xcd k = cd) (hk : k < xN) (hi : xnth cd i = some (pc, .ifCond .gt off, a, b, d, v)) (kt : 0 < x → xOK k sc E (a, L, st) w nc ns) (kf : ¬ 0 < x → xOK k sc E (i + 1, L, st) w nc ns) : xOK k sc E (i, L, .int x :: st) w nc ns := by
  subst he
  exact xs_if_gt hk hi kt kf
theorem xu_icmp_gt {off : Int} {pc a b d : Nat} {v x y : Int32} (he : xcd k = cd) (hk : k < xN) (hi : xnth cd i = some (pc, .if_icmp .gt off, a, b, d, v)) (kt : y < x → xOK k sc E (a, L, st) w nc ns) (kf : ¬ y < x → xOK k sc E (i + 1, L, st) w nc ns) : xOK k sc E (i, L, .int y :: .int x :: st) w nc ns := by
  subst he
  exact xs_icmp_gt hk hi kt kf
theorem xu_if_le {off : Int} {pc a b d : Nat} {v x : Int32} (he : xcd k = cd) (hk : k < xN) (hi : xnth cd i = some (pc, .ifCond .le off, a, b, d, v)) (kt : x ≤ 0 → xOK k sc E (a, L, st) w nc ns) (kf : ¬ x ≤ 0 → xOK k sc E (i + 1, L, st) w nc ns) : xOK k sc E (i, L, .int x :: st) w nc ns := by
  subst he
  exact xs_if_le hk hi kt kf
theorem xu_icmp_le {off : Int} {pc a b d : Nat} {v x y : Int32} (he : xcd k = cd) (hk : k < xN) (hi : xnth cd i = some (pc, .if_icmp .le off, a, b, d, v)) (kt : x ≤ y → xOK k sc E (a, L, st) w nc ns) (kf : ¬ x ≤ y → xOK k sc E (i + 1, L, st) w nc ns) : xOK k sc E (i, L, .int y :: .int x :: st) w nc ns := by
  subst he
  exact xs_icmp_le hk hi kt kf
theorem xu_callv {pc idx b d q : Nat} {v : Int32} {fs av stk : List Value} (he : xcd k = cd) (hk : k < xN) (hi : xnth cd i = some (pc, .invokevirtual idx, a, b, d, v)) (hM : xMet a (.ref q :: av) w r w1) (hq : xnth w q = some (.inr (b, fs))) (hs : stk = av.reverse ++ .ref q :: st)
    (hn : Nat.beq av.length (xnp a) = true) (hr : xroom st = true) (hz : (Nat.beq (xmc a) 0 && (Nat.beq (xms a) 0 && (Nat.ble nc (xmc k) && Nat.ble ns (xms k)))) = true)
    (kk : xOK k sc E (i + 1, L, xpr r ++ st) w1 nc ns) : xOK k sc E (i, L, stk) w nc ns := by
  subst he
  simp only [Bool.and_eq_true] at hz
  have z1 := Nat.eq_of_beq_eq_true hz.1
  have z2 := Nat.eq_of_beq_eq_true hz.2.1
  exact xOK_callv hk hi hM hq hs hn hr (by rw [z1, z2]; exact xand hz.2.2.1 hz.2.2.2) (by rw [z1]; rfl) (by rw [z1, z2]; exact kk)
theorem xu_calls {pc idx b d : Nat} {v : Int32} {av stk : List Value} (he : xcd k = cd) (hk : k < xN) (hi : xnth cd i = some (pc, .invokestatic idx, a, b, d, v)) (hd0 : Nat.beq d 0 = true) (hM : xMet a av w r w1) (hs : stk = av.reverse ++ st)
    (hn : Nat.beq av.length (xnp a) = true) (hr : xroom st = true) (hz : (Nat.beq (xmc a) 0 && (Nat.beq (xms a) 0 && (Nat.ble nc (xmc k) && Nat.ble ns (xms k)))) = true)
    (kk : xOK k sc E (i + 1, L, xpr r ++ st) w1 nc ns) : xOK k sc E (i, L, stk) w nc ns := by
  subst he
  simp only [Bool.and_eq_true] at hz
  have z1 := Nat.eq_of_beq_eq_true hz.1
  have z2 := Nat.eq_of_beq_eq_true hz.2.1
  exact xOK_calls hk hi hd0 hM hs hn hr (by rw [z1, z2]; exact xand hz.2.2.1 hz.2.2.2) (by rw [z1]; rfl) (by rw [z1, z2]; exact kk)
theorem xu_max {pc idx b : Nat} {v x y : Int32} (he : xcd k = cd) (hk : k < xN) (hi : xnth cd i = some (pc, .invokestatic idx, a, b, 2, v)) (hr : xroom st = true) (hc : (Nat.ble nc (xmc k) && Nat.ble ns (xms k)) = true) (kk : xOK k sc E (i + 1, L, .int (if x < y then y else x) :: st) w nc ns) : xOK k sc E (i, L, .int y :: .int x :: st) w nc ns := by
  subst he
  exact xOK_max hk hi hr hc kk
theorem xu_copy {pc idx b q0 q1 n0' n1' n : Nat} {v x : Int32} {f g : Nat → Int32} (he : xcd k = cd) (hk : k < xN) (hi : xnth cd i = some (pc, .invokestatic idx, a, b, 3, v)) (hr : xroom st = true) (hq0 : xnth w q0 = some (.inl (n0', f))) (hq1 : xnth w q1 = some (.inl (n1', g))) (hx : (!(decide (x < 0)) && Nat.beq x.toNatClampNeg n && Nat.ble n n0' && Nat.ble n n1') = true) (hw : w1 = w.set q1 (.inl (n1', va_cpy f g 0 0 n)))
    (kk : xOK k sc E (i + 1, L, st) w1 nc ns) : xOK k sc E (i, L, .int x :: .int 0 :: .ref q1 :: .int 0 :: .ref q0 :: st) w nc ns := by
  subst he
  subst hw
  exact xOK_copy hk hi hr hq0 hq1 hx kk
theorem xu_tswJ {pc b d t : Nat} {v x j : Int32} {df lo hh off : Int} {offs : Array Int} (he : xcd k = cd) (hk : k < xN) (hi : xnth cd i = some (pc, .tableswitch df lo hh offs, a, b, d, v)) (hx : x = j) (h1 : ¬ j.toInt < lo) (h2 : ¬ hh < j.toInt) (ho : offs[(j.toInt - lo).toNat]? = some off) (ht : (pc : Int) + off = (xpc cd t : Int)) (kk : xOK k sc E (t, L, st) w nc ns) : xOK k sc E (i, L, .int x :: st) w nc ns := by
  subst he
  subst hx
  exact xOK_tswIn hk hi h1 h2 ho ht kk
theorem xsw_out {x l u : Int32} {lo hh : Int} (h : x < l ∨ u < x) (hl : l.toInt = lo) (hu : u.toInt = hh) : x.toInt < lo ∨ hh < x.toInt := by
  subst hl; subst hu
  rcases h with q | q
  · exact Or.inl (Int32.lt_iff_toInt_lt.mp q)
  · exact Or.inr (Int32.lt_iff_toInt_lt.mp q)
theorem xu_tswOut {pc b d t : Nat} {v x l u : Int32} {df lo hh : Int} {offs : Array Int} (he : xcd k = cd) (hk : k < xN) (hi : xnth cd i = some (pc, .tableswitch df lo hh offs, a, b, d, v)) (h1 : x < l ∨ u < x) (hl : l.toInt = lo) (hu : u.toInt = hh) (ht : (pc : Int) + df = (xpc cd t : Int)) (kk : xOK k sc E (t, L, st) w nc ns) : xOK k sc E (i, L, .int x :: st) w nc ns := by
  subst he
  exact xOK_tswOut hk hi (xsw_out h1 hl hu) ht kk
theorem xu_vret {pc b d : Nat} {v : Int32} (he : xcd k = cd) (hk : k < xN) (hi : xnth cd i = some (pc, .return_, a, b, d, v)) (hc : (Nat.ble nc (xmc k) && Nat.ble ns (xms k)) = true) : xOK k sc (xEnd k none w) (i, L, []) w nc ns := by
  subst he
  exact xOK_vret hk hi hc
theorem xu_iret {pc b d : Nat} {v x : Int32} (he : xcd k = cd) (hk : k < xN) (hi : xnth cd i = some (pc, .ireturn, a, b, d, v)) (hb : xrb k x = true) (hc : (Nat.ble nc (xmc k) && Nat.ble ns (xms k)) = true) : xOK k sc (xEnd k (some x) w) (i, L, [.int x]) w nc ns := by
  subst he
  exact xOK_iret hk hi hb hc
theorem xOK_weq {fr : xF} (h : w = w1) (kk : xOK k sc E fr w1 nc ns) : xOK k sc E fr w nc ns := by subst h; exact kk
theorem xu_new {pc idx b d nc' ns' : Nat} {v : Int32} (he : xcd k = cd) (hk : k < xN) (hi : xnth cd i = some (pc, .new idx, a, b, d, v)) (hf : xfit L st w = true) (hc : (Nat.ble (nc + 1) (xmc k) && Nat.ble (ns + b) (xms k)) = true) (h1 : nc + 1 = nc') (h2 : ns + b = ns') (hw : w1 = w ++ [.inr (a, xdf a)]) {n : Nat} (hn : w.length = n) (kk : xOK k sc E (i + 1, L, .ref n :: st) w1 nc' ns') : xOK k sc E (i, L, st) w nc ns := by
  subst he; subst h1; subst h2; subst hw; subst hn
  exact xOK_new hk hi hf hc kk
theorem xu_newa {pc b d n nc' ns' : Nat} {v x : Int32} (he : xcd k = cd) (hk : k < xN) (hi : xnth cd i = some (pc, .newarray .int, a, b, d, v)) (hf : xfit L st w = true) (hx : (!(decide (x < 0)) && Nat.beq x.toNatClampNeg n && Nat.ble n 1000) = true) (hc : (Nat.ble (nc + 1) (xmc k) && Nat.ble (ns + n) (xms k)) = true) (h12 : (nc + 1, ns + n) = (nc', ns')) (hw : w1 = w ++ [.inl (n, fun _ => 0)]) {j : Nat} (hn : w.length = j) (kk : xOK k sc E (i + 1, L, .ref j :: st) w1 nc' ns') : xOK k sc E (i, L, .int x :: st) w nc ns := by
  cases h12
  subst he; subst hw; subst hn
  exact xOK_newa hk hi hf hx hc kk
theorem xu_obj {pc idx b q : Nat} {v : Int32} (he : xcd k = cd) (hk : k < xN) (hi : xnth cd i = some (pc, .invokespecial idx, a, b, 2, v)) (hr : xroom st = true) (kk : xOK k sc E (i + 1, L, st) w nc ns) : xOK k sc E (i, L, .ref q :: st) w nc ns := by
  subst he
  exact xOK_obj hk hi hr kk
theorem xu_calli {pc idx b d q nc' ns' : Nat} {v : Int32} {av stk : List Value} (he : xcd k = cd) (hk : k < xN) (hi : xnth cd i = some (pc, .invokespecial idx, a, b, d, v)) (hd0 : Nat.blt d 2 = true) (hM : xMet a (.ref q :: av) w none w1) (hs : stk = av.reverse ++ .ref q :: st)
    (hn : Nat.beq av.length (xnp a) = true) (hr : xroom st = true) (hc : (Nat.ble (nc + xmc a) (xmc k) && Nat.ble (ns + xms a) (xms k)) = true) (hf : (Nat.beq (xmc a) 0 || xfit L st w) = true) (h1 : nc + xmc a = nc') (h2 : ns + xms a = ns')
    (kk : xOK k sc E (i + 1, L, st) w1 nc' ns') : xOK k sc E (i, L, stk) w nc ns := by
  subst he; subst h1; subst h2
  exact xOK_calli hk hi hd0 hM hs hn hr hc hf kk
end XUS
end
section
def mk (s t : xS) : xW := [.inr (0, [.ref 1, .ref 3, .ref 7, .ref 9, .ref 15, .ref 17, .ref 19, .int (s.1 0)]),
  .inr (1, [.int (s.1 1), .int (s.1 2), .ref 2]),
  .inl (2, s.2 0),
  .inr (2, [.ref 4, .ref 5, .ref 6, .int (s.1 3), .int (s.1 4)]),
  .inl (128, s.2 1),
  .inl (4, s.2 2),
  .inl (200, s.2 3),
  .inr (3, [.ref 8, .int (s.1 5), .int (s.1 6)]),
  .inl (16, s.2 4),
  .inr (5, [.ref 10, .ref 11, .int (s.1 7), .int (s.1 8), .int (s.1 9)]),
  .inl (128, s.2 5),
  .inr (4, [.ref 12, .ref 13, .ref 14, .int (s.1 10), .int (s.1 11)]),
  .inl (4, s.2 6),
  .inl (4, s.2 7),
  .inl (4, s.2 8),
  .inr (6, [.ref 16, .ref 1, .ref 3, .ref 7, .ref 9, .int (s.1 12)]),
  .inl (16, s.2 9),
  .inr (7, [.ref 18, .ref 15, .int (s.1 13), .int (s.1 14), .int (s.1 15), .int (s.1 16), .int (s.1 17)]),
  .inl (16, s.2 10),
  .inr (9, [.ref 20, .int (s.1 18), .ref 1, .ref 3, .ref 9, .ref 18, .ref 16]),
  .inr (8, [.ref 21, .ref 22, .ref 23, .int (s.1 19), .int (s.1 20), .int (s.1 21), .int (s.1 22)]),
  .inl (16, s.2 11),
  .inl (16, s.2 12),
  .inr (4, [.ref 24, .ref 25, .ref 26, .int (s.1 23), .int (s.1 24)]),
  .inl (4, s.2 13),
  .inl (4, s.2 14),
  .inl (4, s.2 15),
  .inr (10, [.ref 28, .ref 29, .ref 30, .ref 31, .ref 32, .ref 33, .int (t.1 0), .ref 34, .int (t.1 1), .int (t.1 2), .int (t.1 3), .int (t.1 4), .ref 35, .ref 36, .ref 37, .ref 38, .int (t.1 5), .ref 39, .int (t.1 6), .int (t.1 7), .int (t.1 8), .int (t.1 9), .int (t.1 10), .ref 40, .int (t.1 11), .ref 41, .int (t.1 12), .ref 42, .int (t.1 13), .int (t.1 14), .int (t.1 15), .int (t.1 16), .int (t.1 17), .int (t.1 18), .int (t.1 19), .int (t.1 20), .int (t.1 21)]),
  .inl (16, t.2 0),
  .inl (16, t.2 1),
  .inl (128, t.2 2),
  .inl (128, t.2 3),
  .inl (128, t.2 4),
  .inl (128, t.2 5),
  .inl (8, t.2 6),
  .inl (16, t.2 7),
  .inl (16, t.2 8),
  .inl (8, t.2 9),
  .inl (8, t.2 10),
  .inl (8, t.2 11),
  .inl (8, t.2 12),
  .inl (16, t.2 13),
  .inl (200, t.2 14)]
def xs0 : xS := (fun n => if n = 22 then 1 else 0, fun _ _ => 0)
def xt0 : xS := (fun _ => 0, fun _ _ => 0)
def f_C_isFramWord_16 (y0 : Int32)  : Option Int32 := if xbl y0 = true then some y0 else none
def f_C_isFramWord_15  : Option Int32 := f_C_isFramWord_16 (0 : Int32) 
def f_C_isFramWord (x0 : Int32)  : Option Int32 := if x0 < 0 then (f_C_isFramWord_15  ) else (if (128 : Int32) ≤ x0 then (f_C_isFramWord_15  ) else (f_C_isFramWord_16 (1 : Int32) ))
def f_C_load_14 (s : xS) : Option (Int32 × xS) := some ((0 : Int32), s)
def f_C_load (x1 x2 : Int32) (s : xS) : Option (Int32 × xS) := if (s.1 0) = 0 then ((f_C_isFramWord x1 ).bind fun q2 => if q2 = 0 then (f_C_load_14  s) else (if xin x1 128 = true then some ((1 : Int32), (xsa s 1 (x1).toNatClampNeg (x2 &&& (65535 : Int32)))) else none)) else (f_C_load_14  s)
def f_Keeper_keepVolatile (s : xS) : Option xS := some (xsf (xsf s 11 (va_cpy (s.2 10) (s.2 11) 0 0 16)) 12 (va_cpy (s.2 9) (s.2 12) 0 0 16))
def f_C_start (x1 : Int32) (s : xS) : Option (Int32 × xS) := if (s.1 0) = 0 then ((f_Keeper_keepVolatile  (xsa s 10 0 (x1 &&& (65534 : Int32)))).bind fun q2 => some ((1 : Int32), (xsc (xsc q2 1 (1 : Int32)) 0 (1 : Int32)))) else (some ((0 : Int32), s))
def f_Samples_append (x1 : Int32) (s : xS) : Option (Int32 × xS) := if (s.1 6) < (16 : Int32) then (if xin (xrem ((s.1 5) + (s.1 6)) (16 : Int32)) 16 = true then some ((1 : Int32), (xsc (xsa s 4 (xrem ((s.1 5) + (s.1 6)) (16 : Int32)).toNatClampNeg x1) 6 ((s.1 6) + (1 : Int32)))) else none) else (some ((0 : Int32), s))
def f_C_sample (x1 : Int32) (s : xS) : Option (Int32 × xS) := (f_Samples_append (x1 &&& (65535 : Int32)) s).bind fun q1 => if xbl q1.1 = true then some (q1.1, q1.2) else none
def f_Power_tell_11 (s : xS) : Option (Int32 × xS) := some ((0 : Int32), s)
def f_Power_tell (x1 x2 : Int32) (s : xS) : Option (Int32 × xS) := if x2 < 0 then (f_Power_tell_11  s) else (if x2 ≤ (1000 : Int32) then (if xin x1 2 = true then some ((1 : Int32), (xsa s 0 (x1).toNatClampNeg x2)) else none) else (f_Power_tell_11  s))
def f_C_failWrite (x1 : Int32) (s : xS) : Option (Int32 × xS) := (f_Power_tell (0 : Int32) x1 s).bind fun q1 => if xbl q1.1 = true then some (q1.1, q1.2) else none
def f_C_failStep (x1 : Int32) (s : xS) : Option (Int32 × xS) := (f_Power_tell (1 : Int32) x1 s).bind fun q1 => if xbl q1.1 = true then some (q1.1, q1.2) else none
def f_J_fill_5 : Nat → Int32 → Int32 → Int32 → xS → Option xS
  | 0, _, _, _, _ => none
  | n + 1, x1, x2, x3, s => if x3 ≤ x2 then (some s) else (if xin x2 16 = true then f_J_fill_5 n x1 (x2 + (1 : Int32)) x3 (xsa s 10 (x2).toNatClampNeg x1) else none)
def f_J_fill (x1 : Int32) (s : xS) : Option xS := f_J_fill_5 1000 x1 (0 : Int32) (16 : Int32) s
def f_J_fill_1_5 : Nat → Int32 → Int32 → Int32 → xS → Option xS
  | 0, _, _, _, _ => none
  | n + 1, x1, x2, x3, s => if x3 ≤ x2 then (some s) else (if xin x2 16 = true then f_J_fill_1_5 n x1 (x2 + (1 : Int32)) x3 (xsa s 9 (x2).toNatClampNeg x1) else none)
def f_J_fill_1 (x1 : Int32) (s : xS) : Option xS := f_J_fill_1_5 1000 x1 (0 : Int32) (16 : Int32) s
def f_J_fill_2_5 : Nat → Int32 → Int32 → Int32 → xS → Option xS
  | 0, _, _, _, _ => none
  | n + 1, x1, x2, x3, s => if x3 ≤ x2 then (some s) else (if xin x2 128 = true then f_J_fill_2_5 n x1 (x2 + (1 : Int32)) x3 (xsa s 5 (x2).toNatClampNeg x1) else none)
def f_J_fill_2 (x1 : Int32) (s : xS) : Option xS := f_J_fill_2_5 1000 x1 (0 : Int32) (128 : Int32) s
def f_Held_clear (s : xS) : Option xS := some (xsc (xsc s 10 (0 : Int32)) 11 (0 : Int32))
def f_Section_begin (s : xS) : Option xS := (f_J_fill_2 (0 : Int32) s).bind fun q1 => (f_Held_clear  q1).bind fun q3 => some (xsc (xsc (xsc q3 7 (0 : Int32)) 8 (0 : Int32)) 9 (0 : Int32))
def f_C_forget (s : xS) : Option xS := (f_J_fill (0 : Int32) s).bind fun q1 => (f_J_fill_1 (0 : Int32) q1).bind fun q3 => (f_Section_begin  q3).bind fun q5 => some (xsc q5 0 (2 : Int32))
def f_Bus_takeHalt (s : xS) : Option (Int32 × xS) := if xbl (s.1 12) = true then some ((s.1 12), (xsc s 12 (0 : Int32))) else none
def f_Power_allows_78 (s : xS) : Option (Int32 × xS) := some ((1 : Int32), s)
def f_Power_allows_64 (x1 : Int32) (s : xS) : Option (Int32 × xS) := if x1 = 0 then (f_Power_allows_78  (xsc s 2 ((s.1 2) + (1 : Int32)))) else (f_Power_allows_78  s)
def f_Power_allows_36 (x1 : Int32) (s : xS) : Option (Int32 × xS) := if (s.1 1) = 0 then (some ((0 : Int32), s)) else (if xin x1 2 = true then if ((s.2 0) (x1).toNatClampNeg) ≤ 0 then (f_Power_allows_64 x1 s) else (if xin x1 2 = true then if xin x1 2 = true then f_Power_allows_64 x1 (xsa s 0 (x1).toNatClampNeg (((s.2 0) (x1).toNatClampNeg) - (1 : Int32))) else none else none) else none)
def f_Power_allows (x1 : Int32) (s : xS) : Option (Int32 × xS) := if (s.1 1) = 0 then (f_Power_allows_36 x1 s) else (if xin x1 2 = true then if ((s.2 0) (x1).toNatClampNeg) = (1 : Int32) then (f_Power_allows_36 x1 (xsa (xsa (xsc s 1 (0 : Int32)) 0 0 (0 : Int32)) 0 1 (0 : Int32))) else (f_Power_allows_36 x1 s) else none)
def f_Held_copyFrom (s : xS) : Option xS := some (xsc (xsc (xsf (xsf (xsf s 13 (va_cpy (s.2 6) (s.2 13) 0 0 4)) 14 (va_cpy (s.2 7) (s.2 14) 0 0 4)) 15 (va_cpy (s.2 8) (s.2 15) 0 0 4)) 23 (s.1 10)) 24 (s.1 11))
def f_Keeper_flip (x1 : Int32) (s : xS) : Option xS := (f_Keeper_keepVolatile  s).bind fun q1 => (f_Held_copyFrom  q1).bind fun q3 => if xbl x1 = true then some (xsc (xsc (xsc (xsc (xsc q3 19 ((q3.1 19) + (q3.1 9))) 20 (0 : Int32)) 21 x1) 22 (0 : Int32)) 18 ((q3.1 18) + (1 : Int32))) else none
def f_Keeper_writeHeldWords_2 : Nat → Int32 → xS → Option (Int32 × xS)
  | 0, _, _ => none
  | n + 1, x1, s => if (s.1 23) ≤ x1 then (some ((1 : Int32), s)) else ((f_Power_allows (0 : Int32) s).bind fun q2 => if q2.1 = 0 then (some ((0 : Int32), q2.2)) else (if xin x1 4 = true then if xin x1 4 = true then if xin ((q2.2.2 13) (x1).toNatClampNeg) 128 = true then f_Keeper_writeHeldWords_2 n (x1 + (1 : Int32)) (xsa q2.2 1 ((q2.2.2 13) (x1).toNatClampNeg).toNatClampNeg ((q2.2.2 14) (x1).toNatClampNeg)) else none else none else none))
def f_Keeper_writeHeldWords (s : xS) : Option (Int32 × xS) := f_Keeper_writeHeldWords_2 1000 (0 : Int32) s
def f_Lasting_placeRecord_20 (s : xS) : Option xS := some s
def f_Lasting_placeRecord (x1 : Int32) (s : xS) : Option xS := if (200 : Int32) ≤ (s.1 4) then (f_Lasting_placeRecord_20  s) else (if xin (s.1 4) 200 = true then f_Lasting_placeRecord_20  (xsa s 3 (s.1 4).toNatClampNeg x1) else none)
def f_Lasting_countRecord_20 (s : xS) : Option xS := some s
def f_Lasting_countRecord (s : xS) : Option xS := if (200 : Int32) ≤ (s.1 4) then (f_Lasting_countRecord_20  s) else (f_Lasting_countRecord_20  (xsc s 4 ((s.1 4) + (1 : Int32))))
def f_Keeper_sendHeldRecords_8 : Nat → Int32 → xS → Option (Int32 × xS)
  | 0, _, _ => none
  | n + 1, x1, s => if (s.1 24) ≤ x1 then (some ((1 : Int32), s)) else ((f_Power_allows (0 : Int32) s).bind fun q2 => if q2.1 = 0 then (some ((0 : Int32), q2.2)) else (if xin x1 4 = true then (f_Lasting_placeRecord ((q2.2.2 15) (x1).toNatClampNeg) q2.2).bind fun q6 => (f_Power_allows (0 : Int32) q6).bind fun q8 => if q8.1 = 0 then (some ((0 : Int32), q8.2)) else ((f_Lasting_countRecord  q8.2).bind fun q11 => f_Keeper_sendHeldRecords_8 n (x1 + (1 : Int32)) (xsc q11 20 ((q11.1 20) + (1 : Int32)))) else none))
def f_Keeper_sendHeldRecords (s : xS) : Option (Int32 × xS) := f_Keeper_sendHeldRecords_8 1000 (s.1 20) s
def f_Keeper_close (s : xS) : Option (Int32 × xS) := (f_Power_allows (0 : Int32) s).bind fun q1 => if q1.1 = 0 then (some ((0 : Int32), q1.2)) else ((f_Power_allows (0 : Int32) (xsc q1.2 3 (0 : Int32))).bind fun q4 => if q4.1 = 0 then (some ((0 : Int32), q4.2)) else (some ((1 : Int32), (xsc q4.2 22 (1 : Int32)))))
def f_Keeper_finish_26 (y0 : Int32) (s : xS) : Option (Int32 × xS) := if xbl y0 = true then some (y0, s) else none
def f_Keeper_finish_25 (s : xS) : Option (Int32 × xS) := f_Keeper_finish_26 (0 : Int32) s
def f_Keeper_finish (s : xS) : Option (Int32 × xS) := (f_Keeper_writeHeldWords  s).bind fun q2 => if q2.1 = 0 then (f_Keeper_finish_25  q2.2) else ((f_Keeper_sendHeldRecords  q2.2).bind fun q5 => if q5.1 = 0 then (f_Keeper_finish_25  q5.2) else ((f_Keeper_close  q5.2).bind fun q8 => if q8.1 = 0 then (f_Keeper_finish_25  q8.2) else (f_Keeper_finish_26 (1 : Int32) q8.2)))
def f_Keeper_checkpoint_29 : Nat → Int32 → Int32 → Int32 → xS → Option (Int32 × xS)
  | 0, _, _, _, _ => none
  | n + 1, x1, x2, x3, s => if x2 ≤ x3 then ((f_Power_allows (0 : Int32) s).bind fun q2 => if q2.1 = 0 then (some ((0 : Int32), q2.2)) else ((f_Keeper_flip x1 q2.2).bind fun q5 => (f_Keeper_finish  q5).bind fun q7 => if q7.1 = 0 then (some ((0 : Int32), q7.2)) else ((f_Section_begin  q7.2).bind fun q10 => some ((1 : Int32), q10)))) else ((f_Power_allows (0 : Int32) s).bind fun q12 => if q12.1 = 0 then (some ((0 : Int32), q12.2)) else (f_Keeper_checkpoint_29 n x1 x2 (x3 + (1 : Int32)) q12.2))
def f_Keeper_checkpoint (x1 : Int32) (s : xS) : Option (Int32 × xS) := f_Keeper_checkpoint_29 1000 x1 (((36 : Int32) + ((2 : Int32) * (s.1 10))) + (s.1 11)) (0 : Int32) s
def f_C_endStep_65 (s : xS) : Option (Int32 × xS) := if xbl (s.1 1) = true then some ((s.1 1), s) else none
def f_C_endStep_51 (s : xS) : Option (Int32 × xS) := if (s.1 1) = 0 then ((f_C_forget  s).bind fun q3 => f_C_endStep_65  q3) else (f_C_endStep_65  s)
def f_C_endStep (s : xS) : Option (Int32 × xS) := (f_Bus_takeHalt  s).bind fun q5 => if (q5.2.1 1) = 0 then (f_C_endStep_51  q5.2) else (if q5.1 = 0 then (f_C_endStep_51  (xsc q5.2 9 ((q5.2.1 9) + (1 : Int32)))) else ((f_Keeper_checkpoint (1 : Int32) (xsc q5.2 9 ((q5.2.1 9) + (1 : Int32)))).bind fun q9 => if q9.1 = 0 then (f_C_endStep_51  q9.2) else (f_C_endStep_51  (xsc q9.2 0 (3 : Int32)))))
def f_Section_isFull_44 (y0 : Int32) (s : xS) : Option (Int32 × xS) := if xbl y0 = true then some (y0, s) else none
def f_Section_isFull_39 (s : xS) : Option (Int32 × xS) := f_Section_isFull_44 (1 : Int32) s
def f_Section_isFull (s : xS) : Option (Int32 × xS) := if (11 : Int32) < (s.1 7) then (f_Section_isFull_39  s) else (if (4 : Int32) ≤ (s.1 10) then (f_Section_isFull_39  s) else (if (4 : Int32) ≤ (s.1 11) then (f_Section_isFull_39  s) else (if (s.1 8) < (3 : Int32) then (f_Section_isFull_44 (0 : Int32) s) else (f_Section_isFull_39  s))))
def f_C_beginStep_39 (y0 : Int32) (s : xS) : Option (Int32 × xS) := if xbl y0 = true then some (y0, s) else none
def f_C_beginStep_34 (s : xS) : Option (Int32 × xS) := f_C_beginStep_39 (1 : Int32) s
def f_C_beginStep (s : xS) : Option (Int32 × xS) := (f_Power_allows (1 : Int32) s).bind fun q2 => if q2.1 = 0 then (some ((0 : Int32), q2.2)) else ((f_Section_isFull  q2.2).bind fun q5 => if q5.1 = 0 then (f_C_beginStep_34  q5.2) else ((f_Keeper_checkpoint (0 : Int32) q5.2).bind fun q8 => if q8.1 = 0 then (f_C_beginStep_39 (0 : Int32) q8.2) else (f_C_beginStep_34  q8.2)))
def f_Bus_inFram_19 (y0 : Int32)  : Option Int32 := if xbl y0 = true then some y0 else none
def f_Bus_inFram_18  : Option Int32 := f_Bus_inFram_19 (0 : Int32) 
def f_Bus_inFram (x0 : Int32)  : Option Int32 := if x0 < (1024 : Int32) then (f_Bus_inFram_18  ) else (if (1280 : Int32) ≤ x0 then (f_Bus_inFram_18  ) else (f_Bus_inFram_19 (1 : Int32) ))
def f_Bus_framWord (x0 : Int32)  : Option Int32 := some ((x0 - (1024 : Int32)) >>> ((1 : Int32) &&& 31))
def f_Section_noteLoad_26 (s : xS) : Option xS := some s
def f_Section_noteLoad (x1 : Int32) (s : xS) : Option xS := if xin x1 128 = true then if ((s.2 5) (x1).toNatClampNeg) = 0 then (if xin x1 128 = true then f_Section_noteLoad_26  (xsc (xsa s 5 (x1).toNatClampNeg (1 : Int32)) 7 ((s.1 7) + (1 : Int32))) else none) else (f_Section_noteLoad_26  s) else none
def f_Held_valueOf_2 : Nat → Int32 → Int32 → Int32 → xS → Option (Int32 × xS)
  | 0, _, _, _, _ => none
  | n + 1, x1, x2, x3, s => if (s.1 10) ≤ x3 then (some (x2, s)) else (if xin x3 4 = true then if ((s.2 6) (x3).toNatClampNeg) = x1 then (if xin x3 4 = true then some (((s.2 7) (x3).toNatClampNeg), s) else none) else (f_Held_valueOf_2 n x1 x2 (x3 + (1 : Int32)) s) else none)
def f_Held_valueOf (x1 x2 : Int32) (s : xS) : Option (Int32 × xS) := f_Held_valueOf_2 1000 x1 x2 (0 : Int32) s
def f_Bus_inSram_19 (y0 : Int32)  : Option Int32 := if xbl y0 = true then some y0 else none
def f_Bus_inSram_18  : Option Int32 := f_Bus_inSram_19 (0 : Int32) 
def f_Bus_inSram (x0 : Int32)  : Option Int32 := if x0 < (512 : Int32) then (f_Bus_inSram_18  ) else (if (544 : Int32) ≤ x0 then (f_Bus_inSram_18  ) else (f_Bus_inSram_19 (1 : Int32) ))
def f_Bus_sramWord (x0 : Int32)  : Option Int32 := some ((x0 - (512 : Int32)) >>> ((1 : Int32) &&& 31))
def f_Bus_fetchWord_27 (y0 : Int32) (s : xS) : Option (Int32 × xS) := some (y0, s)
def f_Bus_fetchWord (x1 : Int32) (s : xS) : Option (Int32 × xS) := (f_Bus_inFram x1 ).bind fun q1 => if q1 = 0 then ((f_Bus_inSram x1 ).bind fun q11 => if q11 = 0 then (f_Bus_fetchWord_27 (0 : Int32) s) else ((f_Bus_sramWord x1 ).bind fun q14 => if xin q14 16 = true then f_Bus_fetchWord_27 ((s.2 9) (q14).toNatClampNeg) s else none)) else ((f_Bus_framWord x1 ).bind fun q4 => (f_Section_noteLoad q4 s).bind fun q6 => if xin q4 128 = true then (f_Held_valueOf q4 ((q6.2 1) (q4).toNatClampNeg) q6).bind fun q9 => some (q9.1, q9.2) else none)
def f_Processor_setRegister_56 (s : xS) : Option xS := some s
def f_Processor_setRegister_9 (x1 x2 : Int32) (s : xS) : Option xS := if xin x1 16 = true then f_Processor_setRegister_56  (xsa s 10 (x1).toNatClampNeg (x2 &&& (65534 : Int32))) else none
def f_Processor_setRegister (x1 x2 : Int32) (s : xS) : Option xS := if x1 = 0 then (f_Processor_setRegister_9 x1 x2 s) else (if x1 = (1 : Int32) then (f_Processor_setRegister_9 x1 x2 s) else (if x1 = (2 : Int32) then (if xin x1 16 = true then f_Processor_setRegister_56  (xsa s 10 (x1).toNatClampNeg (x2 &&& (263 : Int32))) else none) else (if x1 = (3 : Int32) then (f_Processor_setRegister_56  s) else (if xin x1 16 = true then f_Processor_setRegister_56  (xsa s 10 (x1).toNatClampNeg (x2 &&& (65535 : Int32))) else none))))
def f_Processor_nextWord (s : xS) : Option (Int32 × xS) := (f_Bus_fetchWord ((s.2 10) 0) s).bind fun q1 => (f_Processor_setRegister (0 : Int32) (((q1.2.2 10) 0) + (2 : Int32)) q1.2).bind fun q3 => some (q1.1, q3)
def f_Processor_find (x1 x2 : Int32) (s : xS) : Option xS := some (xsc (xsc s 14 x1) 15 x2)
def f_Processor_base_15 (y0 : Int32) (s : xS) : Option (Int32 × xS) := some (y0, s)
def f_Processor_base (x1 : Int32) (s : xS) : Option (Int32 × xS) := if x1 = (2 : Int32) then (f_Processor_base_15 (0 : Int32) s) else (if xin x1 16 = true then f_Processor_base_15 ((s.2 10) (x1).toNatClampNeg) s else none)
def f_Processor_findSource_158 (s : xS) : Option xS := some s
def f_Processor_findSource_154 (y1 y2 y3 : Int32) (s : xS) : Option xS := (f_Processor_setRegister y1 (y2 + y3) s).bind fun q1 => f_Processor_findSource_158  q1
def f_Processor_findSource_153 (y1 y2 : Int32) (s : xS) : Option xS := f_Processor_findSource_154 y1 y2 (2 : Int32) s
def f_Processor_findSource_113 (x1 x2 : Int32) (s : xS) : Option xS := if xin x1 16 = true then (f_Processor_find (2 : Int32) ((s.2 10) (x1).toNatClampNeg) s).bind fun q4 => if x2 = (3 : Int32) then (if xin x1 16 = true then if (q4.1 13) = 0 then (f_Processor_findSource_153 x1 ((q4.2 10) (x1).toNatClampNeg) q4) else (if x1 = (1 : Int32) then (f_Processor_findSource_153 x1 ((q4.2 10) (x1).toNatClampNeg) q4) else (f_Processor_findSource_154 x1 ((q4.2 10) (x1).toNatClampNeg) (1 : Int32) q4)) else none) else (f_Processor_findSource_158  q4) else none
def f_Processor_findSource_53 (x1 x2 : Int32) (s : xS) : Option xS := if x2 = 0 then ((f_Processor_find (1 : Int32) x1 s).bind fun q24 => f_Processor_findSource_158  q24) else (if x2 = (1 : Int32) then ((f_Processor_base x1 s).bind fun q18 => (f_Processor_nextWord  q18.2).bind fun q20 => (f_Processor_find (2 : Int32) ((q18.1 + q20.1) &&& (65535 : Int32)) q20.2).bind fun q22 => f_Processor_findSource_158  q22) else (if x1 = 0 then (if x2 = (3 : Int32) then ((f_Processor_nextWord  s).bind fun q14 => (f_Processor_find (0 : Int32) q14.1 q14.2).bind fun q16 => f_Processor_findSource_158  q16) else (f_Processor_findSource_113 x1 x2 s)) else (f_Processor_findSource_113 x1 x2 s)))
def f_Processor_findSource_47 (y1 y2 : Int32) (s : xS) : Option xS := (f_Processor_find y1 y2 s).bind fun q26 => f_Processor_findSource_158  q26
def f_Processor_findSource_18 (y1 y2 : Int32) (s : xS) : Option xS := (f_Processor_find y1 y2 s).bind fun q28 => f_Processor_findSource_158  q28
def f_Processor_findSource (x1 x2 : Int32) (s : xS) : Option xS := if x1 = (3 : Int32) then (if x2 = (3 : Int32) then (f_Processor_findSource_18 (0 : Int32) (65535 : Int32) s) else (f_Processor_findSource_18 (0 : Int32) x2 s)) else (if x1 = (2 : Int32) then (if x2 < (2 : Int32) then (f_Processor_findSource_53 x1 x2 s) else (if x2 = (2 : Int32) then (f_Processor_findSource_47 (0 : Int32) (4 : Int32) s) else (f_Processor_findSource_47 (0 : Int32) (8 : Int32) s))) else (f_Processor_findSource_53 x1 x2 s))
def f_Processor_mask_15 (y0 : Int32) (s : xS) : Option (Int32 × xS) := some (y0, s)
def f_Processor_mask (s : xS) : Option (Int32 × xS) := if (s.1 13) = 0 then (f_Processor_mask_15 (65535 : Int32) s) else (f_Processor_mask_15 (255 : Int32) s)
def f_Lasting_lengthenLog_18 (s : xS) : Option xS := some s
def f_Lasting_lengthenLog (s : xS) : Option xS := if (4 : Int32) ≤ (s.1 3) then (f_Lasting_lengthenLog_18  s) else (f_Lasting_lengthenLog_18  (xsc s 3 ((s.1 3) + (1 : Int32))))
def f_Samples_take (s : xS) : Option (Int32 × xS) := if (s.1 6) = 0 then (some ((65535 : Int32), s)) else (if xin (s.1 5) 16 = true then some (((s.2 4) (s.1 5).toNatClampNeg), (xsc (xsc s 5 (xrem ((s.1 5) + (1 : Int32)) (16 : Int32))) 6 ((s.1 6) - (1 : Int32)))) else none)
def f_Lasting_placeLogged_18 (s : xS) : Option xS := some s
def f_Lasting_placeLogged (x1 : Int32) (s : xS) : Option xS := if (4 : Int32) ≤ (s.1 3) then (f_Lasting_placeLogged_18  s) else (if xin (s.1 3) 4 = true then f_Lasting_placeLogged_18  (xsa s 2 (s.1 3).toNatClampNeg x1) else none)
def f_Bus_loadSensor_111 (x2 : Int32) (s : xS) : Option (Int32 × xS) := some (x2, s)
def f_Bus_loadSensor_93 (x2 : Int32) (s : xS) : Option (Int32 × xS) := (f_Power_allows (0 : Int32) s).bind fun q1 => if q1.1 = 0 then (f_Bus_loadSensor_111 x2 q1.2) else ((f_Lasting_lengthenLog  q1.2).bind fun q4 => f_Bus_loadSensor_111 x2 q4)
def f_Bus_loadSensor_54 (s : xS) : Option (Int32 × xS) := if (s.1 1) = 0 then (some ((0 : Int32), s)) else ((f_Samples_take  s).bind fun q7 => (f_Power_allows (0 : Int32) q7.2).bind fun q9 => if q9.1 = 0 then (f_Bus_loadSensor_93 (q7.1) q9.2) else ((f_Lasting_placeLogged q7.1 q9.2).bind fun q12 => f_Bus_loadSensor_93 (q7.1) q12))
def f_Bus_loadSensor (s : xS) : Option (Int32 × xS) := if (s.1 3) ≤ (s.1 8) then (f_Bus_loadSensor_54  (xsc s 8 ((s.1 8) + (1 : Int32)))) else (if (4 : Int32) ≤ (s.1 8) then (f_Bus_loadSensor_54  (xsc s 8 ((s.1 8) + (1 : Int32)))) else (if xin (s.1 8) 4 = true then some (((s.2 2) (s.1 8).toNatClampNeg), (xsc s 8 ((s.1 8) + (1 : Int32)))) else none))
def f_Bus_read_47 (y0 : Int32) (s : xS) : Option (Int32 × xS) := some (y0, s)
def f_Bus_read_21 (x1 x2 y0 : Int32) (s : xS) : Option (Int32 × xS) := if x2 = 0 then (some (y0, s)) else (if (x1 &&& (1 : Int32)) = (1 : Int32) then (f_Bus_read_47 (y0 >>> ((8 : Int32) &&& 31)) s) else (f_Bus_read_47 (y0 &&& (255 : Int32)) s))
def f_Bus_read (x1 x2 : Int32) (s : xS) : Option (Int32 × xS) := if (x1 &&& (65534 : Int32)) = (16 : Int32) then ((f_Bus_loadSensor  s).bind fun q6 => f_Bus_read_21 x1 x2 (q6.1) q6.2) else ((f_Bus_fetchWord x1 s).bind fun q4 => f_Bus_read_21 x1 x2 (q4.1) q4.2)
def f_Processor_operand_48 (y0 : Int32) (s : xS) : Option (Int32 × xS) := (f_Processor_mask  s).bind fun q1 => some ((y0 &&& q1.1), q1.2)
def f_Processor_operand (s : xS) : Option (Int32 × xS) := if (s.1 14) = (2 : Int32) then ((f_Bus_read (s.1 15) (s.1 13) s).bind fun q6 => some (q6.1, q6.2)) else (if (s.1 14) = (1 : Int32) then (if xin (s.1 15) 16 = true then f_Processor_operand_48 ((s.2 10) (s.1 15).toNatClampNeg) s else none) else (f_Processor_operand_48 (s.1 15) s))
def f_Processor_highest_15 (y0 : Int32) (s : xS) : Option (Int32 × xS) := some (y0, s)
def f_Processor_highest (s : xS) : Option (Int32 × xS) := if (s.1 13) = 0 then (f_Processor_highest_15 (32768 : Int32) s) else (f_Processor_highest_15 (128 : Int32) s)
def f_Processor_askFlags_46 (x1 y1 y2 : Int32) (s : xS) : Option (Int32 × xS) := some (x1, (xsc (xsc s 16 (y1 ||| y2)) 17 (1 : Int32)))
def f_Processor_askFlags_34 (x1 x3 y1 y2 : Int32) (s : xS) : Option (Int32 × xS) := if x3 = 0 then (f_Processor_askFlags_46 x1 (y1 ||| y2) (0 : Int32) s) else (f_Processor_askFlags_46 x1 (y1 ||| y2) (256 : Int32) s)
def f_Processor_askFlags_19 (x1 x3 y1 y2 : Int32) (s : xS) : Option (Int32 × xS) := (f_Processor_highest  s).bind fun q2 => if (x1 &&& q2.1) = 0 then (f_Processor_askFlags_34 x1 x3 (y1 ||| y2) (0 : Int32) q2.2) else (f_Processor_askFlags_34 x1 x3 (y1 ||| y2) (4 : Int32) q2.2)
def f_Processor_askFlags_10 (x1 x3 y1 : Int32) (s : xS) : Option (Int32 × xS) := if x1 = 0 then (f_Processor_askFlags_19 x1 x3 y1 (2 : Int32) s) else (f_Processor_askFlags_19 x1 x3 y1 (0 : Int32) s)
def f_Processor_askFlags (x1 x2 x3 : Int32) (s : xS) : Option (Int32 × xS) := if x2 = 0 then (f_Processor_askFlags_10 x1 x3 (0 : Int32) s) else (f_Processor_askFlags_10 x1 x3 (1 : Int32) s)
def f_Processor_logical_11 (x2 y1 y2 : Int32) (s : xS) : Option (Int32 × xS) := (f_Processor_askFlags y1 y2 x2 s).bind fun q1 => some (q1.1, q1.2)
def f_Processor_logical (x1 x2 : Int32) (s : xS) : Option (Int32 × xS) := if x1 = 0 then (f_Processor_logical_11 x2 x1 (0 : Int32) s) else (f_Processor_logical_11 x2 x1 (1 : Int32) s)
def f_Processor_carry (s : xS) : Option (Int32 × xS) := some ((((s.2 10) 2) &&& (1 : Int32)), s)
def f_Processor_changed_96 (y1 y2 : Int32) (s : xS) : Option (Int32 × xS) := (f_Processor_askFlags y1 y2 (0 : Int32) s).bind fun q1 => some (q1.1, q1.2)
def f_Processor_changed_54 (y1 y2 : Int32) (s : xS) : Option (Int32 × xS) := (f_Processor_askFlags y1 y2 (0 : Int32) s).bind fun q3 => some (q3.1, q3.2)
def f_Processor_changed (x1 x2 : Int32) (s : xS) : Option (Int32 × xS) := if x1 < (0 : Int32) ∨ (2 : Int32) < x1 then ((f_Processor_logical ((x2).toInt8.toInt32 &&& (65535 : Int32)) (0 : Int32) s).bind fun q6 => some (q6.1, q6.2)) else if x1 = (0 : Int32) then ((f_Processor_carry  s).bind fun q9 => (f_Processor_highest  q9.2).bind fun q11 => if (x2 &&& (1 : Int32)) = (1 : Int32) then (f_Processor_changed_54 ((x2 >>> ((1 : Int32) &&& 31)) ||| (q9.1 * q11.1)) (1 : Int32) q11.2) else (f_Processor_changed_54 ((x2 >>> ((1 : Int32) &&& 31)) ||| (q9.1 * q11.1)) (0 : Int32) q11.2)) else if x1 = (1 : Int32) then (some (((x2 >>> ((8 : Int32) &&& 31)) ||| ((x2 &&& (255 : Int32)) <<< ((8 : Int32) &&& 31))), s)) else if x1 = (2 : Int32) then ((f_Processor_highest  s).bind fun q16 => if (x2 &&& (1 : Int32)) = (1 : Int32) then (f_Processor_changed_96 ((x2 >>> ((1 : Int32) &&& 31)) ||| (x2 &&& q16.1)) (1 : Int32) q16.2) else (f_Processor_changed_96 ((x2 >>> ((1 : Int32) &&& 31)) ||| (x2 &&& q16.1)) (0 : Int32) q16.2)) else none
def f_Processor_setFlags_17 (s : xS) : Option xS := some s
def f_Processor_setFlags (s : xS) : Option xS := if (s.1 17) = 0 then (f_Processor_setFlags_17  s) else (f_Processor_setFlags_17  (xsa s 10 2 (s.1 16)))
def f_Section_noteStore_41 (y0 : Int32) (s : xS) : Option (Int32 × xS) := if xbl y0 = true then some (y0, s) else none
def f_Section_noteStore_26 (x1 : Int32) (s : xS) : Option (Int32 × xS) := if xin x1 128 = true then if ((s.2 5) (x1).toNatClampNeg) = (1 : Int32) then (f_Section_noteStore_41 (1 : Int32) s) else (f_Section_noteStore_41 (0 : Int32) s) else none
def f_Section_noteStore (x1 : Int32) (s : xS) : Option (Int32 × xS) := if xin x1 128 = true then if ((s.2 5) (x1).toNatClampNeg) = 0 then (if xin x1 128 = true then f_Section_noteStore_26 x1 (xsc (xsa s 5 (x1).toNatClampNeg (2 : Int32)) 7 ((s.1 7) + (1 : Int32))) else none) else (f_Section_noteStore_26 x1 s) else none
def f_Held_holdWord_59 (s : xS) : Option xS := some s
def f_Held_holdWord_26 (x1 x2 x3 : Int32) (s : xS) : Option xS := if (4 : Int32) ≤ x3 then (f_Held_holdWord_59  s) else (if xin x3 4 = true then if xin x3 4 = true then f_Held_holdWord_59  (xsc (xsa (xsa s 6 (x3).toNatClampNeg x1) 7 (x3).toNatClampNeg x2) 10 (if (s.1 10) < (x3 + (1 : Int32)) then (x3 + (1 : Int32)) else (s.1 10))) else none else none)
def f_Held_holdWord_2 : Nat → Int32 → Int32 → Int32 → xS → Option xS
  | 0, _, _, _, _ => none
  | n + 1, x1, x2, x3, s => if (s.1 10) ≤ x3 then (f_Held_holdWord_26 x1 x2 x3 s) else (if xin x3 4 = true then if ((s.2 6) (x3).toNatClampNeg) = x1 then (f_Held_holdWord_26 x1 x2 x3 s) else (f_Held_holdWord_2 n x1 x2 (x3 + (1 : Int32)) s) else none)
def f_Held_holdWord (x1 x2 : Int32) (s : xS) : Option xS := f_Held_holdWord_2 1000 x1 x2 (0 : Int32) s
def f_Bus_storeFram_47 (s : xS) : Option xS := some s
def f_Bus_storeFram (x1 x2 : Int32) (s : xS) : Option xS := (f_Section_noteStore x1 s).bind fun q1 => if q1.1 = 0 then ((f_Power_allows (0 : Int32) q1.2).bind fun q4 => if q4.1 = 0 then (f_Bus_storeFram_47  q4.2) else (if xin x1 128 = true then f_Bus_storeFram_47  (xsa q4.2 1 (x1).toNatClampNeg x2) else none)) else ((f_Held_holdWord x1 x2 q1.2).bind fun q8 => f_Bus_storeFram_47  q8)
def f_Lasting_hasRoomFor_17 (y0 : Int32) (s : xS) : Option (Int32 × xS) := if xbl y0 = true then some (y0, s) else none
def f_Lasting_hasRoomFor (x1 : Int32) (s : xS) : Option (Int32 × xS) := if (200 : Int32) ≤ ((s.1 4) + x1) then (f_Lasting_hasRoomFor_17 (0 : Int32) s) else (f_Lasting_hasRoomFor_17 (1 : Int32) s)
def f_Held_holdRecord_28 (s : xS) : Option xS := some s
def f_Held_holdRecord (x1 : Int32) (s : xS) : Option xS := if (4 : Int32) ≤ (s.1 11) then (f_Held_holdRecord_28  s) else (if xin (s.1 11) 4 = true then f_Held_holdRecord_28  (xsc (xsa s 8 (s.1 11).toNatClampNeg x1) 11 ((s.1 11) + (1 : Int32))) else none)
def f_Bus_storeDevice_51 (s : xS) : Option xS := some s
def f_Bus_storeDevice_40 (x1 : Int32) (s : xS) : Option xS := if x1 = (20 : Int32) then (f_Bus_storeDevice_51  (xsc s 12 (1 : Int32))) else (f_Bus_storeDevice_51  s)
def f_Bus_storeDevice (x1 x2 : Int32) (s : xS) : Option xS := if x1 = (18 : Int32) then ((f_Lasting_hasRoomFor (s.1 11) s).bind fun q3 => if q3.1 = 0 then (f_Bus_storeDevice_40 x1 q3.2) else ((f_Held_holdRecord x2 q3.2).bind fun q6 => f_Bus_storeDevice_51  q6)) else (f_Bus_storeDevice_40 x1 s)
def f_Bus_peek_27 (y0 : Int32) (s : xS) : Option (Int32 × xS) := some (y0, s)
def f_Bus_peek (x1 : Int32) (s : xS) : Option (Int32 × xS) := (f_Bus_inFram x1 ).bind fun q1 => if q1 = 0 then ((f_Bus_inSram x1 ).bind fun q9 => if q9 = 0 then (f_Bus_peek_27 (0 : Int32) s) else ((f_Bus_sramWord x1 ).bind fun q12 => if xin q12 16 = true then f_Bus_peek_27 ((s.2 9) (q12).toNatClampNeg) s else none)) else ((f_Bus_framWord x1 ).bind fun q4 => if xin q4 128 = true then (f_Held_valueOf q4 ((s.2 1) (q4).toNatClampNeg) s).bind fun q7 => some (q7.1, q7.2) else none)
def f_Bus_withByte_26 (y0 : Int32)  : Option Int32 := some y0
def f_Bus_withByte (x0 x1 x2 : Int32)  : Option Int32 := if (x1 &&& (1 : Int32)) = (1 : Int32) then (f_Bus_withByte_26 ((x0 &&& (255 : Int32)) ||| (x2 <<< ((8 : Int32) &&& 31))) ) else (f_Bus_withByte_26 ((x0 &&& (65280 : Int32)) ||| x2) )
def f_Bus_write_85 (s : xS) : Option xS := some s
def f_Bus_write_63 (x1 x4 : Int32) (s : xS) : Option xS := (f_Bus_framWord x1 ).bind fun q1 => (f_Bus_storeFram q1 x4 s).bind fun q3 => f_Bus_write_85  q3
def f_Bus_write_18 (x1 x2 x3 y0 : Int32) (s : xS) : Option xS := (f_Bus_inSram x1 ).bind fun q5 => if q5 = 0 then ((f_Bus_inFram x1 ).bind fun q8 => if q8 = 0 then ((f_Bus_storeDevice (x1 &&& (65534 : Int32)) x2 s).bind fun q11 => f_Bus_write_85  q11) else (if x3 = 0 then (f_Bus_write_63 x1 y0 s) else ((f_Bus_framWord x1 ).bind fun q14 => (f_Section_noteLoad q14 s).bind fun q16 => f_Bus_write_63 x1 y0 q16))) else ((f_Bus_sramWord x1 ).bind fun q18 => if xin q18 16 = true then f_Bus_write_85  (xsa s 9 (q18).toNatClampNeg y0) else none)
def f_Bus_write (x1 x2 x3 : Int32) (s : xS) : Option xS := if x3 = 0 then (f_Bus_write_18 x1 x2 x3 x2 s) else ((f_Bus_peek x1 s).bind fun q22 => (f_Bus_withByte q22.1 x1 x2 ).bind fun q24 => f_Bus_write_18 x1 x2 x3 q24 q22.2)
def f_Processor_deliver_64 (s : xS) : Option xS := some s
def f_Processor_deliver_60 (s : xS) : Option xS := (f_Processor_setFlags  s).bind fun q1 => f_Processor_deliver_64  q1
def f_Processor_deliver_44 (s : xS) : Option xS := if (s.1 14) = (1 : Int32) then (if (s.1 15) = (2 : Int32) then (f_Processor_deliver_64  s) else (f_Processor_deliver_60  s)) else (f_Processor_deliver_60  s)
def f_Processor_deliver (x1 : Int32) (s : xS) : Option xS := if (s.1 14) = (2 : Int32) then ((f_Bus_write (s.1 15) x1 (s.1 13) s).bind fun q9 => f_Processor_deliver_44  q9) else (if (s.1 14) = (1 : Int32) then ((f_Processor_setRegister (s.1 15) x1 s).bind fun q7 => f_Processor_deliver_44  q7) else (f_Processor_deliver_44  s))
def f_Processor_push (x1 : Int32) (s : xS) : Option xS := (f_Processor_setRegister (1 : Int32) (((s.2 10) 1) - (2 : Int32)) s).bind fun q1 => (f_Bus_write ((q1.2 10) 1) x1 (q1.1 13) q1).bind fun q3 => some q3
def f_Processor_pop (s : xS) : Option (Int32 × xS) := (f_Bus_read ((s.2 10) 1) (0 : Int32) s).bind fun q1 => (f_Processor_setRegister (1 : Int32) (((q1.2.2 10) 1) + (2 : Int32)) q1.2).bind fun q3 => some (q1.1, q3)
def f_Processor_oneOperand_137 (s : xS) : Option xS := some s
def f_Processor_oneOperand_69 (x1 x2 y1 : Int32) (s : xS) : Option xS := if xbl y1 = true then (f_Processor_findSource (x1 &&& (15 : Int32)) ((x1 >>> ((4 : Int32) &&& 31)) &&& (3 : Int32)) (xsc s 13 y1)).bind fun q2 => (f_Processor_operand  q2).bind fun q4 => if x2 = (4 : Int32) then ((f_Processor_push q4.1 q4.2).bind fun q16 => f_Processor_oneOperand_137  q16) else (if x2 = (5 : Int32) then ((f_Processor_push ((q4.2.2 10) 0) q4.2).bind fun q12 => (f_Processor_setRegister (0 : Int32) q4.1 q12).bind fun q14 => f_Processor_oneOperand_137  q14) else ((f_Processor_changed x2 q4.1 q4.2).bind fun q8 => (f_Processor_deliver q8.1 q8.2).bind fun q10 => f_Processor_oneOperand_137  q10)) else none
def f_Processor_oneOperand_68 (x1 x2 : Int32) (s : xS) : Option xS := f_Processor_oneOperand_69 x1 x2 (0 : Int32) s
def f_Processor_oneOperand_64 (x1 x2 : Int32) (s : xS) : Option xS := f_Processor_oneOperand_69 x1 x2 (1 : Int32) s
def f_Processor_oneOperand_32 (x1 x2 : Int32) (s : xS) : Option xS := if x2 < (6 : Int32) then (if ((x1 >>> ((6 : Int32) &&& 31)) &&& (1 : Int32)) = (1 : Int32) then (if x2 = 0 then (f_Processor_oneOperand_64 x1 x2 s) else (if x2 = (2 : Int32) then (f_Processor_oneOperand_64 x1 x2 s) else (if x2 = (4 : Int32) then (f_Processor_oneOperand_64 x1 x2 s) else (f_Processor_oneOperand_68 x1 x2 s)))) else (f_Processor_oneOperand_68 x1 x2 s)) else (some s)
def f_Processor_oneOperand (x1 : Int32) (s : xS) : Option xS := if ((x1 >>> ((7 : Int32) &&& 31)) &&& (7 : Int32)) = (6 : Int32) then ((f_Processor_pop  s).bind fun q24 => (f_Processor_setRegister (2 : Int32) q24.1 q24.2).bind fun q26 => (f_Processor_pop  q26).bind fun q28 => (f_Processor_setRegister (0 : Int32) q28.1 q28.2).bind fun q30 => f_Processor_oneOperand_32 x1 ((x1 >>> ((7 : Int32) &&& 31)) &&& (7 : Int32)) q30) else (f_Processor_oneOperand_32 x1 ((x1 >>> ((7 : Int32) &&& 31)) &&& (7 : Int32)) s)
def f_Processor_isSet_16 (y0 : Int32) (s : xS) : Option (Int32 × xS) := if xbl y0 = true then some (y0, s) else none
def f_Processor_isSet (x1 : Int32) (s : xS) : Option (Int32 × xS) := if (((s.2 10) 2) &&& x1) = 0 then (f_Processor_isSet_16 (0 : Int32) s) else (f_Processor_isSet_16 (1 : Int32) s)
def f_Processor_holds_123 (y0 : Int32) (s : xS) : Option (Int32 × xS) := if xbl y0 = true then some (y0, s) else none
def f_Processor_holds_106 (y0 : Int32) (s : xS) : Option (Int32 × xS) := if xbl y0 = true then some (y0, s) else none
def f_Processor_holds_81 (y0 : Int32) (s : xS) : Option (Int32 × xS) := if xbl y0 = true then some (y0, s) else none
def f_Processor_holds_61 (y0 : Int32) (s : xS) : Option (Int32 × xS) := if xbl y0 = true then some (y0, s) else none
def f_Processor_holds (x1 : Int32) (s : xS) : Option (Int32 × xS) := (f_Processor_isSet (4 : Int32) s).bind fun q5 => if x1 < (0 : Int32) ∨ (6 : Int32) < x1 then (some ((1 : Int32), q5.2)) else if x1 = (0 : Int32) then ((f_Processor_isSet (2 : Int32) q5.2).bind fun q9 => if q9.1 = 0 then (f_Processor_holds_61 (1 : Int32) q9.2) else (f_Processor_holds_61 (0 : Int32) q9.2)) else if x1 = (1 : Int32) then ((f_Processor_isSet (2 : Int32) q5.2).bind fun q13 => if xbl q13.1 = true then some (q13.1, q13.2) else none) else if x1 = (2 : Int32) then ((f_Processor_isSet (1 : Int32) q5.2).bind fun q17 => if q17.1 = 0 then (f_Processor_holds_81 (1 : Int32) q17.2) else (f_Processor_holds_81 (0 : Int32) q17.2)) else if x1 = (3 : Int32) then ((f_Processor_isSet (1 : Int32) q5.2).bind fun q21 => if xbl q21.1 = true then some (q21.1, q21.2) else none) else if x1 = (4 : Int32) then (if xbl q5.1 = true then some (q5.1, q5.2) else none) else if x1 = (5 : Int32) then ((f_Processor_isSet (256 : Int32) q5.2).bind fun q27 => if q5.1 = q27.1 then (f_Processor_holds_106 (1 : Int32) q27.2) else (f_Processor_holds_106 (0 : Int32) q27.2)) else if x1 = (6 : Int32) then ((f_Processor_isSet (256 : Int32) q5.2).bind fun q31 => if q5.1 = q31.1 then (f_Processor_holds_123 (0 : Int32) q31.2) else (f_Processor_holds_123 (1 : Int32) q31.2)) else none
def f_Processor_jump_43 (s : xS) : Option xS := some s
def f_Processor_jump (x1 : Int32) (s : xS) : Option xS := (f_Processor_holds ((x1 >>> ((10 : Int32) &&& 31)) &&& (7 : Int32)) s).bind fun q1 => if q1.1 = 0 then (f_Processor_jump_43  q1.2) else ((f_Processor_setRegister (0 : Int32) (((q1.2.2 10) 0) + ((2 : Int32) * ((x1 &&& (1023 : Int32)) - ((x1 &&& (512 : Int32)) <<< ((1 : Int32) &&& 31))))) q1.2).bind fun q4 => f_Processor_jump_43  q4)
def f_Processor_signed_21 (y0 : Int32) (s : xS) : Option (Int32 × xS) := some (y0, s)
def f_Processor_signed (x1 : Int32) (s : xS) : Option (Int32 × xS) := (f_Processor_highest  s).bind fun q1 => if (x1 &&& q1.1) = 0 then (f_Processor_signed_21 x1 q1.2) else ((f_Processor_highest  q1.2).bind fun q4 => f_Processor_signed_21 (x1 - ((2 : Int32) * q4.1)) q4.2)
def f_Processor_sum_70 (x6 y1 y2 : Int32) (s : xS) : Option (Int32 × xS) := (f_Processor_askFlags y1 y2 x6 s).bind fun q1 => some (q1.1, q1.2)
def f_Processor_sum_46 (x4 y0 : Int32) (s : xS) : Option (Int32 × xS) := (f_Processor_mask  s).bind fun q3 => (f_Processor_mask  q3.2).bind fun q5 => if x4 ≤ q5.1 then (f_Processor_sum_70 y0 (x4 &&& q3.1) (0 : Int32) q5.2) else (f_Processor_sum_70 y0 (x4 &&& q3.1) (1 : Int32) q5.2)
def f_Processor_sum_41 (x4 : Int32) (s : xS) : Option (Int32 × xS) := f_Processor_sum_46 x4 (1 : Int32) s
def f_Processor_sum (x1 x2 x3 : Int32) (s : xS) : Option (Int32 × xS) := (f_Processor_signed x1 s).bind fun q8 => (f_Processor_signed x2 q8.2).bind fun q10 => (f_Processor_highest  q10.2).bind fun q12 => if ((q8.1 + q10.1) + x3) < (-q12.1) then (f_Processor_sum_41 ((x1 + x2) + x3) q12.2) else ((f_Processor_highest  q12.2).bind fun q15 => if ((q8.1 + q10.1) + x3) < q15.1 then (f_Processor_sum_46 ((x1 + x2) + x3) (0 : Int32) q15.2) else (f_Processor_sum_41 ((x1 + x2) + x3) q15.2))
def f_Processor_decimalSum_110 (y1 y2 : Int32) (s : xS) : Option (Int32 × xS) := (f_Processor_askFlags y1 y2 (0 : Int32) s).bind fun q1 => some (q1.1, q1.2)
def f_Processor_decimalSum_67 (lp : Int32 → Int32 → Int32 → Int32 → Int32 → Int32 → xS → Option (Int32 × xS)) (x1 x2 x3 x5 x6 x7 y0 : Int32) (s : xS) : Option (Int32 × xS) := lp x1 x2 x3 y0 (x5 ||| (((x7 + ((6 : Int32) * y0)) &&& (15 : Int32)) <<< (((4 : Int32) * x6) &&& 31))) (x6 + (1 : Int32)) s
def f_Processor_decimalSum_25 : Nat → Int32 → Int32 → Int32 → Int32 → Int32 → Int32 → xS → Option (Int32 × xS)
  | 0, _, _, _, _, _, _, _ => none
  | n + 1, x1, x2, x3, x4, x5, x6, s => if x3 ≤ x6 then (if x4 = (1 : Int32) then (f_Processor_decimalSum_110 x5 (1 : Int32) s) else (f_Processor_decimalSum_110 x5 (0 : Int32) s)) else (if ((((x1 >>> (((4 : Int32) * x6) &&& 31)) &&& (15 : Int32)) + ((x2 >>> (((4 : Int32) * x6) &&& 31)) &&& (15 : Int32))) + x4) < (10 : Int32) then (f_Processor_decimalSum_67 (f_Processor_decimalSum_25 n) x1 x2 x3 x5 x6 ((((x1 >>> (((4 : Int32) * x6) &&& 31)) &&& (15 : Int32)) + ((x2 >>> (((4 : Int32) * x6) &&& 31)) &&& (15 : Int32))) + x4) (0 : Int32) s) else (f_Processor_decimalSum_67 (f_Processor_decimalSum_25 n) x1 x2 x3 x5 x6 ((((x1 >>> (((4 : Int32) * x6) &&& 31)) &&& (15 : Int32)) + ((x2 >>> (((4 : Int32) * x6) &&& 31)) &&& (15 : Int32))) + x4) (1 : Int32) s))
def f_Processor_decimalSum_12 (x1 x2 y0 : Int32) (s : xS) : Option (Int32 × xS) := (f_Processor_carry  s).bind fun q6 => f_Processor_decimalSum_25 1000 x1 x2 y0 (q6.1) (0 : Int32) (0 : Int32) q6.2
def f_Processor_decimalSum (x1 x2 : Int32) (s : xS) : Option (Int32 × xS) := if (s.1 13) = 0 then (f_Processor_decimalSum_12 x1 x2 (4 : Int32) s) else (f_Processor_decimalSum_12 x1 x2 (2 : Int32) s)
def f_Processor_combined_153 (y1 y2 : Int32) (s : xS) : Option (Int32 × xS) := (f_Processor_logical y1 y2 s).bind fun q1 => some (q1.1, q1.2)
def f_Processor_combined (x1 x2 x3 : Int32) (s : xS) : Option (Int32 × xS) := (f_Processor_mask  s).bind fun q3 => if x1 < (5 : Int32) ∨ (15 : Int32) < x1 then (some (x3, q3.2)) else if x1 = (5 : Int32) then ((f_Processor_sum x2 x3 (0 : Int32) q3.2).bind fun q7 => some (q7.1, q7.2)) else if x1 = (6 : Int32) then ((f_Processor_carry  q3.2).bind fun q10 => (f_Processor_sum x2 x3 q10.1 q10.2).bind fun q12 => some (q12.1, q12.2)) else if x1 = (7 : Int32) then ((f_Processor_carry  q3.2).bind fun q15 => (f_Processor_sum x2 ((x3 ^^^ (-1 : Int32)) &&& q3.1) q15.1 q15.2).bind fun q17 => some (q17.1, q17.2)) else if x1 = (8 : Int32) then ((f_Processor_sum x2 ((x3 ^^^ (-1 : Int32)) &&& q3.1) (1 : Int32) q3.2).bind fun q20 => some (q20.1, q20.2)) else if x1 = (9 : Int32) then ((f_Processor_sum x2 ((x3 ^^^ (-1 : Int32)) &&& q3.1) (1 : Int32) q3.2).bind fun q23 => some (q23.1, q23.2)) else if x1 = (10 : Int32) then ((f_Processor_decimalSum x2 x3 q3.2).bind fun q26 => some (q26.1, q26.2)) else if x1 = (11 : Int32) then ((f_Processor_logical (x2 &&& x3) (0 : Int32) q3.2).bind fun q29 => some (q29.1, q29.2)) else if x1 = (12 : Int32) then (some ((x2 &&& ((x3 ^^^ (-1 : Int32)) &&& q3.1)), q3.2)) else if x1 = (13 : Int32) then (some ((x2 ||| x3), q3.2)) else if x1 = (14 : Int32) then ((f_Processor_highest  q3.2).bind fun q34 => if ((x2 &&& x3) &&& q34.1) = 0 then (f_Processor_combined_153 (x2 ^^^ x3) (0 : Int32) q34.2) else (f_Processor_combined_153 (x2 ^^^ x3) (1 : Int32) q34.2)) else if x1 = (15 : Int32) then ((f_Processor_logical (x2 &&& x3) (0 : Int32) q3.2).bind fun q38 => some (q38.1, q38.2)) else none
def f_Processor_findDestination_31 (s : xS) : Option xS := some s
def f_Processor_findDestination (x1 x2 : Int32) (s : xS) : Option xS := if x2 = 0 then ((f_Processor_find (1 : Int32) x1 s).bind fun q8 => f_Processor_findDestination_31  q8) else ((f_Processor_base x1 s).bind fun q2 => (f_Processor_nextWord  q2.2).bind fun q4 => (f_Processor_find (2 : Int32) ((q2.1 + q4.1) &&& (65535 : Int32)) q4.2).bind fun q6 => f_Processor_findDestination_31  q6)
def f_Processor_twoOperands_109 (s : xS) : Option xS := some s
def f_Processor_twoOperands_96 (s : xS) : Option xS := (f_Processor_setFlags  s).bind fun q1 => f_Processor_twoOperands_109  q1
def f_Processor_twoOperands_72 (x2 x3 y0 : Int32) (s : xS) : Option xS := (f_Processor_combined x2 y0 x3 s).bind fun q3 => if x2 = (9 : Int32) then (f_Processor_twoOperands_96  q3.2) else (if x2 = (11 : Int32) then (f_Processor_twoOperands_96  q3.2) else ((f_Processor_deliver q3.1 q3.2).bind fun q7 => f_Processor_twoOperands_109  q7))
def f_Processor_twoOperands_21 (x1 x2 y1 : Int32) (s : xS) : Option xS := if xbl y1 = true then (f_Processor_findSource ((x1 >>> ((8 : Int32) &&& 31)) &&& (15 : Int32)) ((x1 >>> ((4 : Int32) &&& 31)) &&& (3 : Int32)) (xsc s 13 y1)).bind fun q10 => (f_Processor_operand  q10).bind fun q12 => (f_Processor_findDestination (x1 &&& (15 : Int32)) ((x1 >>> ((7 : Int32) &&& 31)) &&& (1 : Int32)) q12.2).bind fun q14 => if x2 = (4 : Int32) then (f_Processor_twoOperands_72 x2 (q12.1) (0 : Int32) q14) else ((f_Processor_operand  q14).bind fun q17 => f_Processor_twoOperands_72 x2 (q12.1) (q17.1) q17.2) else none
def f_Processor_twoOperands (x1 : Int32) (s : xS) : Option xS := if ((x1 >>> ((6 : Int32) &&& 31)) &&& (1 : Int32)) = (1 : Int32) then (f_Processor_twoOperands_21 x1 (x1 >>> ((12 : Int32) &&& 31)) (1 : Int32) s) else (f_Processor_twoOperands_21 x1 (x1 >>> ((12 : Int32) &&& 31)) (0 : Int32) s)
def f_Processor_execute_55 (s : xS) : Option xS := some s
def f_Processor_execute (s : xS) : Option xS := (f_Processor_nextWord  s).bind fun q1 => if (q1.1 >>> ((12 : Int32) &&& 31)) < (4 : Int32) then (if (q1.1 >>> ((12 : Int32) &&& 31)) < (2 : Int32) then (if (q1.1 >>> ((10 : Int32) &&& 31)) = (4 : Int32) then ((f_Processor_oneOperand q1.1 (xsc q1.2 17 (0 : Int32))).bind fun q6 => f_Processor_execute_55  q6) else (f_Processor_execute_55  (xsc q1.2 17 (0 : Int32)))) else ((f_Processor_jump q1.1 (xsc q1.2 17 (0 : Int32))).bind fun q8 => f_Processor_execute_55  q8)) else ((f_Processor_twoOperands q1.1 (xsc q1.2 17 (0 : Int32))).bind fun q10 => f_Processor_execute_55  q10)
def f_C_run_68 (x2 : Int32) (s : xS) : Option (Int32 × xS) := some (x2, s)
def f_C_run_62 (lp : Int32 → Int32 → Int32 → xS → Option (Int32 × xS)) (x1 x2 x3 : Int32) (s : xS) : Option (Int32 × xS) := lp x1 x2 (x3 + (1 : Int32)) s
def f_C_run_52 (lp : Int32 → Int32 → Int32 → xS → Option (Int32 × xS)) (x1 x2 x3 : Int32) (s : xS) : Option (Int32 × xS) := (f_C_endStep  s).bind fun q1 => if q1.1 = 0 then (f_C_run_62 lp x1 x2 x3 q1.2) else (f_C_run_62 lp x1 (x2 + (1 : Int32)) x3 q1.2)
def f_C_run_25 : Nat → Int32 → Int32 → Int32 → xS → Option (Int32 × xS)
  | 0, _, _, _, _ => none
  | n + 1, x1, x2, x3, s => if x1 ≤ x3 then (f_C_run_68 x2 s) else (if (s.1 0) = (1 : Int32) then ((f_C_beginStep  s).bind fun q6 => if q6.1 = 0 then (f_C_run_52 (f_C_run_25 n) x1 x2 x3 q6.2) else ((f_Processor_execute  q6.2).bind fun q9 => f_C_run_52 (f_C_run_25 n) x1 x2 x3 q9)) else (f_C_run_68 x2 s))
def f_C_run_19 (s : xS) : Option (Int32 × xS) := some ((-1 : Int32), s)
def f_C_run (x1 : Int32) (s : xS) : Option (Int32 × xS) := if (s.1 0) = (1 : Int32) then (if x1 < 0 then (f_C_run_19  s) else (if x1 ≤ (200 : Int32) then (f_C_run_25 1000 x1 (0 : Int32) (0 : Int32) s) else (f_C_run_19  s))) else (f_C_run_19  s)
def f_Keeper_recover_19 (s : xS) : Option (Int32 × xS) := (f_Section_begin  (xsf (xsf s 10 (va_cpy (s.2 11) (s.2 10) 0 0 16)) 9 (va_cpy (s.2 12) (s.2 9) 0 0 16))).bind fun q1 => some ((1 : Int32), q1)
def f_Keeper_recover (s : xS) : Option (Int32 × xS) := if (s.1 22) = 0 then ((f_Keeper_finish  s).bind fun q4 => if q4.1 = 0 then (some ((0 : Int32), q4.2)) else (f_Keeper_recover_19  q4.2)) else (f_Keeper_recover_19  s)
def f_C_boot_49 (y1 : Int32) (s : xS) : Option (Int32 × xS) := some ((1 : Int32), (xsc s 0 y1))
def f_C_boot (s : xS) : Option (Int32 × xS) := if (s.1 0) = (2 : Int32) then ((f_Keeper_recover  (xsc s 1 (1 : Int32))).bind fun q2 => if q2.1 = 0 then (some ((0 : Int32), q2.2)) else (if (q2.2.1 21) = 0 then (f_C_boot_49 (1 : Int32) q2.2) else (f_C_boot_49 (3 : Int32) q2.2))) else (some ((0 : Int32), s))
def f_C_state (s : xS) : Option (Int32 × xS) := some ((s.1 0), s)
def f_C_register_23 (y0 : Int32) (s : xS) : Option (Int32 × xS) := some (y0, s)
def f_C_register_10 (s : xS) : Option (Int32 × xS) := f_C_register_23 (0 : Int32) s
def f_C_register (x1 : Int32) (s : xS) : Option (Int32 × xS) := if x1 < 0 then (f_C_register_10  s) else (if x1 < (16 : Int32) then (if xin x1 16 = true then f_C_register_23 ((s.2 10) (x1).toNatClampNeg) s else none) else (f_C_register_10  s))
def f_C_memory (x1 : Int32) (s : xS) : Option (Int32 × xS) := (f_Bus_peek x1 s).bind fun q1 => some (q1.1, q1.2)
def f_C_fram_20 (y0 : Int32) (s : xS) : Option (Int32 × xS) := some (y0, s)
def f_C_fram (x1 : Int32) (s : xS) : Option (Int32 × xS) := (f_C_isFramWord x1 ).bind fun q1 => if q1 = 0 then (f_C_fram_20 (0 : Int32) s) else (if xin x1 128 = true then f_C_fram_20 ((s.2 1) (x1).toNatClampNeg) s else none)
def f_C_radio_41 (y0 : Int32) (s : xS) : Option (Int32 × xS) := some (y0, s)
def f_C_radio_28 (s : xS) : Option (Int32 × xS) := f_C_radio_41 (0 : Int32) s
def f_C_radio (x1 : Int32) (s : xS) : Option (Int32 × xS) := if x1 = (-1 : Int32) then (some ((s.1 4), s)) else (if x1 < 0 then (f_C_radio_28  s) else (if x1 < (s.1 4) then (if xin x1 200 = true then f_C_radio_41 ((s.2 3) (x1).toNatClampNeg) s else none) else (f_C_radio_28  s)))
def f_C_waiting (s : xS) : Option (Int32 × xS) := some ((s.1 6), s)
def f_C_writes (s : xS) : Option (Int32 × xS) := some ((s.1 2), s)
def f_C_flips (s : xS) : Option (Int32 × xS) := some ((s.1 18), s)
def f_C_retired (s : xS) : Option (Int32 × xS) := some (((s.1 19) + (s.1 9)), s)
def f_C_section (s : xS) : Option (Int32 × xS) := some (((((s.1 7) + ((32 : Int32) * (s.1 10))) + ((256 : Int32) * (s.1 11))) + ((2048 : Int32) * (s.1 3))), s)
def f_M_framNow_24 (y0 : Int32) (s : xS) : Option (Int32 × xS) := some (y0, s)
def f_M_framNow (x1 : Int32) (s : xS) : Option (Int32 × xS) := if xin x1 128 = true then if ((s.2 4) (x1).toNatClampNeg) ≤ 0 then (if xin x1 128 = true then f_M_framNow_24 ((s.2 2) (x1).toNatClampNeg) s else none) else (if xin x1 128 = true then f_M_framNow_24 ((s.2 5) (x1).toNatClampNeg) s else none) else none
def f_M_inFram_19 (y0 : Int32)  : Option Int32 := if xbl y0 = true then some y0 else none
def f_M_inFram_18  : Option Int32 := f_M_inFram_19 (0 : Int32) 
def f_M_inFram (x0 : Int32)  : Option Int32 := if x0 < (1024 : Int32) then (f_M_inFram_18  ) else (if (1279 : Int32) < x0 then (f_M_inFram_18  ) else (f_M_inFram_19 (1 : Int32) ))
def f_M_inSram_19 (y0 : Int32)  : Option Int32 := if xbl y0 = true then some y0 else none
def f_M_inSram_18  : Option Int32 := f_M_inSram_19 (0 : Int32) 
def f_M_inSram (x0 : Int32)  : Option Int32 := if x0 < (512 : Int32) then (f_M_inSram_18  ) else (if (543 : Int32) < x0 then (f_M_inSram_18  ) else (f_M_inSram_19 (1 : Int32) ))
def f_M_plain_76 (y0 : Int32) (s : xS) : Option (Int32 × xS) := some (y0, s)
def f_M_plain_46 (x2 y1 y2 : Int32) (s : xS) : Option (Int32 × xS) := if xin y1 128 = true then (f_M_framNow x2 (xsa s 3 (y1).toNatClampNeg y2)).bind fun q2 => some (q2.1, q2.2) else none
def f_M_plain_40 (x2 y1 : Int32) (s : xS) : Option (Int32 × xS) := if xin x2 128 = true then f_M_plain_46 x2 y1 ((s.2 3) (x2).toNatClampNeg) s else none
def f_M_plain (x1 : Int32) (s : xS) : Option (Int32 × xS) := (f_M_inFram x1 ).bind fun q5 => if q5 = 0 then ((f_M_inSram x1 ).bind fun q8 => if q8 = 0 then (f_M_plain_76 (0 : Int32) s) else (if xin ((x1 - (512 : Int32)) / (2 : Int32)) 16 = true then f_M_plain_76 ((s.2 1) ((x1 - (512 : Int32)) / (2 : Int32)).toNatClampNeg) s else none)) else (if (s.1 15) = 0 then (f_M_plain_40 ((x1 - (1024 : Int32)) / (2 : Int32)) ((x1 - (1024 : Int32)) / (2 : Int32)) s) else (if xin ((x1 - (1024 : Int32)) / (2 : Int32)) 128 = true then if ((s.2 3) ((x1 - (1024 : Int32)) / (2 : Int32)).toNatClampNeg) = 0 then (f_M_plain_46 ((x1 - (1024 : Int32)) / (2 : Int32)) ((x1 - (1024 : Int32)) / (2 : Int32)) (1 : Int32) s) else (f_M_plain_40 ((x1 - (1024 : Int32)) / (2 : Int32)) ((x1 - (1024 : Int32)) / (2 : Int32)) s) else none))
def f_M_fetch (s : xS) : Option (Int32 × xS) := (f_M_plain ((s.2 0) 0) s).bind fun q1 => some (q1.1, (xsa q1.2 0 0 (xrem (((q1.2.2 0) 0) + (2 : Int32)) (65536 : Int32))))
def f_M_merged_39 (y0 : Int32)  : Option Int32 := some y0
def f_M_merged (x0 x1 x2 x3 : Int32)  : Option Int32 := if x3 = 0 then (f_M_merged_39 x2 ) else (if (xrem x1 (2 : Int32)) = 0 then (f_M_merged_39 (((x0 / (256 : Int32)) * (256 : Int32)) + x2) ) else (f_M_merged_39 ((x2 * (256 : Int32)) + (xrem x0 (256 : Int32))) ))
def f_M_fresh_2 : Nat → Int32 → xS → Option xS
  | 0, _, _ => none
  | n + 1, x1, s => if (128 : Int32) ≤ x1 then (some (xsc (xsc (xsc (xsc s 0 (0 : Int32)) 1 (0 : Int32)) 2 (0 : Int32)) 4 (0 : Int32))) else (if xin x1 128 = true then if xin x1 128 = true then f_M_fresh_2 n (x1 + (1 : Int32)) (xsa (xsa s 3 (x1).toNatClampNeg (0 : Int32)) 4 (x1).toNatClampNeg (0 : Int32)) else none else none)
def f_M_fresh (s : xS) : Option xS := f_M_fresh_2 1000 (0 : Int32) s
def f_M_off (s : xS) : Option xS := (f_M_fresh  (xsc (xsc (xsc (xsc (xsc s 15 (0 : Int32)) 14 (2 : Int32)) 16 (0 : Int32)) 17 (0 : Int32)) 3 (0 : Int32))).bind fun q1 => some q1
def f_M_write_41 (y1 : Int32) (s : xS) : Option (Int32 × xS) := some ((1 : Int32), (xsc (xsc s 16 y1) 18 ((s.1 18) + (1 : Int32))))
def f_M_write (s : xS) : Option (Int32 × xS) := if (s.1 15) = 0 then (some ((0 : Int32), s)) else (if (s.1 16) = (1 : Int32) then ((f_M_off  s).bind fun q4 => some ((0 : Int32), q4)) else (if (s.1 16) ≤ 0 then (f_M_write_41 (0 : Int32) s) else (f_M_write_41 ((s.1 16) - (1 : Int32)) s)))
def f_M_keep_68 (s : xS) : Option xS := some s
def f_M_keep_39 (x1 x2 : Int32) (s : xS) : Option xS := if xin x1 128 = true then some (xsa s 5 (x1).toNatClampNeg x2) else none
def f_M_keep (x1 x2 : Int32) (s : xS) : Option xS := if xin x1 128 = true then if ((s.2 3) (x1).toNatClampNeg) = (1 : Int32) then (if xin x1 128 = true then if ((s.2 4) (x1).toNatClampNeg) = 0 then (if xin x1 128 = true then f_M_keep_39 x1 x2 (xsa (xsc s 0 ((s.1 0) + (1 : Int32))) 4 (x1).toNatClampNeg ((s.1 0) + (1 : Int32))) else none) else (f_M_keep_39 x1 x2 s) else none) else (if xin x1 128 = true then (f_M_write  (xsa s 3 (x1).toNatClampNeg (2 : Int32))).bind fun q5 => if q5.1 = 0 then (f_M_keep_68  q5.2) else (if xin x1 128 = true then f_M_keep_68  (xsa q5.2 2 (x1).toNatClampNeg x2) else none) else none) else none
def f_M_store_162 (s : xS) : Option xS := some s
def f_M_store_157 (s : xS) : Option xS := f_M_store_162  (xsc s 4 (1 : Int32))
def f_M_store_107 (x2 : Int32) (s : xS) : Option xS := if (200 : Int32) ≤ ((s.1 13) + (s.1 1)) then (f_M_store_162  s) else (if xin (s.1 1) 8 = true then f_M_store_162  (xsc (xsa s 6 (s.1 1).toNatClampNeg x2) 1 ((s.1 1) + (1 : Int32))) else none)
def f_M_store_76 (x1 x2 x3 x4 y0 : Int32) (s : xS) : Option xS := (f_M_merged y0 x1 x2 x3 ).bind fun q3 => (f_M_keep x4 q3 s).bind fun q5 => f_M_store_162  q5
def f_M_store (x1 x2 x3 : Int32) (s : xS) : Option xS := if (s.1 15) = 0 then (some s) else ((f_M_inSram x1 ).bind fun q8 => if q8 = 0 then ((f_M_inFram x1 ).bind fun q11 => if q11 = 0 then (if x1 = (18 : Int32) then (f_M_store_107 x2 s) else (if x1 = (19 : Int32) then (f_M_store_107 x2 s) else (if x1 = (20 : Int32) then (f_M_store_157  s) else (if x1 = (21 : Int32) then (f_M_store_157  s) else (f_M_store_162  s))))) else (if x3 = 0 then (f_M_store_76 x1 x2 x3 ((x1 - (1024 : Int32)) / (2 : Int32)) (0 : Int32) s) else ((f_M_plain x1 s).bind fun q19 => f_M_store_76 x1 x2 x3 ((x1 - (1024 : Int32)) / (2 : Int32)) (q19.1) q19.2))) else (if xin ((x1 - (512 : Int32)) / (2 : Int32)) 16 = true then (f_M_merged ((s.2 1) ((x1 - (512 : Int32)) / (2 : Int32)).toNatClampNeg) x1 x2 x3 ).bind fun q22 => if xin ((x1 - (512 : Int32)) / (2 : Int32)) 16 = true then f_M_store_162  (xsa s 1 ((x1 - (512 : Int32)) / (2 : Int32)).toNatClampNeg q22) else none else none))
def f_M_put_41 (y1 y2 : Int32) (s : xS) : Option xS := if xin y1 16 = true then some (xsa s 0 (y1).toNatClampNeg y2) else none
def f_M_put (x1 x2 : Int32) (s : xS) : Option xS := if (2 : Int32) ≤ x1 then (if x1 = (2 : Int32) then (f_M_put_41 x1 (x2 &&& (263 : Int32)) s) else (if x1 = (3 : Int32) then (f_M_put_41 x1 (0 : Int32) s) else (f_M_put_41 x1 x2 s))) else (f_M_put_41 x1 ((x2 / (2 : Int32)) * (2 : Int32)) s)
def f_M_back_38 (s : xS) : Option xS := some s
def f_M_back (x1 x2 : Int32) (s : xS) : Option xS := if (s.1 20) = (1 : Int32) then ((f_M_put (s.1 21) x1 s).bind fun q5 => f_M_back_38  q5) else (if (s.1 20) = (2 : Int32) then ((f_M_store (s.1 21) x1 x2 s).bind fun q3 => f_M_back_38  q3) else (f_M_back_38  s))
def f_M_flags_33 (x1 x2 x5 y0 : Int32) (s : xS) : Option xS := some (xsa s 0 2 (((x1 + x5) + y0) + ((256 : Int32) * x2)))
def f_M_flags_25 (x1 x2 x5 y0 y1 : Int32) (s : xS) : Option xS := if y0 < y1 then (f_M_flags_33 x1 x2 x5 (0 : Int32) s) else (f_M_flags_33 x1 x2 x5 (4 : Int32) s)
def f_M_flags_9 (x1 x2 x3 x4 y0 : Int32) (s : xS) : Option xS := if x4 = 0 then (f_M_flags_25 x1 x2 y0 x3 (32768 : Int32) s) else (f_M_flags_25 x1 x2 y0 x3 (128 : Int32) s)
def f_M_flags (x1 x2 x3 x4 : Int32) (s : xS) : Option xS := if x3 = 0 then (f_M_flags_9 x1 x2 x3 x4 (2 : Int32) s) else (f_M_flags_9 x1 x2 x3 x4 (0 : Int32) s)
def f_M_silent_25 (y0 : Int32) (s : xS) : Option (Int32 × xS) := if xbl y0 = true then some (y0, s) else none
def f_M_silent_24 (s : xS) : Option (Int32 × xS) := f_M_silent_25 (0 : Int32) s
def f_M_silent (x1 : Int32) (s : xS) : Option (Int32 × xS) := if x1 = 0 then (f_M_silent_24  s) else (if (s.1 20) = (1 : Int32) then (if (s.1 21) = (2 : Int32) then (f_M_silent_25 (1 : Int32) s) else (f_M_silent_24  s)) else (f_M_silent_24  s))
def f_M_flag_16 (y0 : Int32) (s : xS) : Option (Int32 × xS) := some (y0, s)
def f_M_flag (x1 : Int32) (s : xS) : Option (Int32 × xS) := if (((s.2 0) 2) &&& x1) = 0 then (f_M_flag_16 (0 : Int32) s) else (f_M_flag_16 (1 : Int32) s)
def f_M_signed_14 (y0 : Int32)  : Option Int32 := some y0
def f_M_signed (x0 x1 : Int32)  : Option Int32 := if x0 < (x1 / (2 : Int32)) then (f_M_signed_14 x0 ) else (f_M_signed_14 (x0 - x1) )
def f_M_sense_109 (x1 y1 : Int32) (s : xS) : Option (Int32 × xS) := (f_M_write  (xsc s 12 y1)).bind fun q1 => if q1.1 = 0 then (some ((0 : Int32), q1.2)) else (if xin ((q1.2.1 2) - (1 : Int32)) 8 = true then (f_M_write  (xsa q1.2 12 ((q1.2.1 2) - (1 : Int32)).toNatClampNeg x1)).bind fun q5 => if q5.1 = 0 then (some ((0 : Int32), q5.2)) else (some (x1, (xsc q5.2 11 (q5.2.1 2)))) else none)
def f_M_sense_63 : Nat → Int32 → Int32 → xS → Option (Int32 × xS)
  | 0, _, _, _ => none
  | n + 1, x1, x2, s => if (s.1 12) ≤ x2 then (if (s.1 12) ≤ 0 then (f_M_sense_109 x1 (0 : Int32) s) else (f_M_sense_109 x1 ((s.1 12) - (1 : Int32)) s)) else (if xin x2 16 = true then if xin (x2 - (1 : Int32)) 16 = true then f_M_sense_63 n x1 (x2 + (1 : Int32)) (xsa s 13 (x2 - (1 : Int32)).toNatClampNeg ((s.2 13) (x2).toNatClampNeg)) else none else none)
def f_M_sense_60 (y0 : Int32) (s : xS) : Option (Int32 × xS) := f_M_sense_63 1000 y0 (1 : Int32) s
def f_M_sense (s : xS) : Option (Int32 × xS) := if (s.1 11) < ((s.1 2) + (1 : Int32)) then (if (s.1 15) = 0 then (some ((0 : Int32), (xsc s 2 ((s.1 2) + (1 : Int32))))) else (if (s.1 12) ≤ 0 then (f_M_sense_60 (65535 : Int32) (xsc s 2 ((s.1 2) + (1 : Int32)))) else (f_M_sense_60 ((s.2 13) 0) (xsc s 2 ((s.1 2) + (1 : Int32)))))) else (if xin (((s.1 2) + (1 : Int32)) - (1 : Int32)) 8 = true then some (((s.2 12) (((s.1 2) + (1 : Int32)) - (1 : Int32)).toNatClampNeg), (xsc s 2 ((s.1 2) + (1 : Int32)))) else none)
def f_M_loaded_52 (y0 : Int32) (s : xS) : Option (Int32 × xS) := some (y0, s)
def f_M_loaded_24 (x1 x2 y0 : Int32) (s : xS) : Option (Int32 × xS) := if x2 = 0 then (f_M_loaded_52 y0 s) else (if (xrem x1 (2 : Int32)) = 0 then (f_M_loaded_52 (xrem y0 (256 : Int32)) s) else (f_M_loaded_52 (y0 / (256 : Int32)) s))
def f_M_loaded_12 (x1 x2 : Int32) (s : xS) : Option (Int32 × xS) := (f_M_sense  s).bind fun q3 => f_M_loaded_24 x1 x2 (q3.1) q3.2
def f_M_loaded (x1 x2 : Int32) (s : xS) : Option (Int32 × xS) := if x1 = (16 : Int32) then (f_M_loaded_12 x1 x2 s) else (if x1 = (17 : Int32) then (f_M_loaded_12 x1 x2 s) else ((f_M_plain x1 s).bind fun q7 => f_M_loaded_24 x1 x2 (q7.1) q7.2))
def f_M_indexed_33 (y0 : Int32) (s : xS) : Option (Int32 × xS) := (f_M_fetch  s).bind fun q1 => some ((xrem (q1.1 + y0) (65536 : Int32)), q1.2)
def f_M_indexed_23 (s : xS) : Option (Int32 × xS) := f_M_indexed_33 (0 : Int32) s
def f_M_indexed (x1 : Int32) (s : xS) : Option (Int32 × xS) := if x1 = 0 then (f_M_indexed_33 ((s.2 0) 0) s) else (if x1 = (2 : Int32) then (f_M_indexed_23  s) else (if x1 = (3 : Int32) then (f_M_indexed_23  s) else (if xin x1 16 = true then f_M_indexed_33 ((s.2 0) (x1).toNatClampNeg) s else none)))
def f_M_operand_168 (x6 : Int32) (s : xS) : Option (Int32 × xS) := some (x6, s)
def f_M_operand_163 (x6 y1 y2 y3 : Int32) (s : xS) : Option (Int32 × xS) := if xin y1 16 = true then f_M_operand_168 x6 (xsa s 0 (y1).toNatClampNeg (xrem (y2 + y3) (65536 : Int32))) else none
def f_M_operand_162 (x6 y1 y2 : Int32) (s : xS) : Option (Int32 × xS) := f_M_operand_163 x6 y1 y2 (2 : Int32) s
def f_M_operand_120 (x1 x2 x3 y0 : Int32) (s : xS) : Option (Int32 × xS) := (f_M_loaded y0 x3 (xsc s 21 y0)).bind fun q2 => if x2 = (3 : Int32) then (if x3 = 0 then (f_M_operand_162 (q2.1) x1 y0 q2.2) else (if x1 = (1 : Int32) then (f_M_operand_162 (q2.1) x1 y0 q2.2) else (f_M_operand_163 (q2.1) x1 y0 (1 : Int32) q2.2))) else (f_M_operand_168 (q2.1) q2.2)
def f_M_operand_96 (x1 x2 x3 : Int32) (s : xS) : Option (Int32 × xS) := if x2 = (1 : Int32) then ((f_M_indexed x1 (xsc s 20 (2 : Int32))).bind fun q9 => f_M_operand_120 x1 x2 x3 (q9.1) q9.2) else (if xin x1 16 = true then f_M_operand_120 x1 x2 x3 ((s.2 0) (x1).toNatClampNeg) (xsc s 20 (2 : Int32)) else none)
def f_M_operand_55 (x1 x2 x3 x4 : Int32) (s : xS) : Option (Int32 × xS) := if x2 = 0 then (if xin x1 16 = true then if (!(x4 == 0)) = true then some ((xrem ((s.2 0) (x1).toNatClampNeg) x4), (xsc (xsc s 20 (1 : Int32)) 21 x1)) else none else none) else (if x1 = 0 then (if x2 = (3 : Int32) then ((f_M_fetch  s).bind fun q14 => if (!(x4 == 0)) = true then some ((xrem q14.1 x4), q14.2) else none) else (f_M_operand_96 x1 x2 x3 s)) else (f_M_operand_96 x1 x2 x3 s))
def f_M_operand_35 (x4 y0 : Int32) (s : xS) : Option (Int32 × xS) := if (!(x4 == 0)) = true then some ((xrem y0 x4), s) else none
def f_M_operand_12 (x1 x2 x3 y0 : Int32) (s : xS) : Option (Int32 × xS) := if x1 = (3 : Int32) then (if x2 = (3 : Int32) then (f_M_operand_35 y0 (65535 : Int32) (xsc s 20 (0 : Int32))) else (f_M_operand_35 y0 x2 (xsc s 20 (0 : Int32)))) else (if x1 = (2 : Int32) then (if x2 ≤ (1 : Int32) then (f_M_operand_55 x1 x2 x3 y0 (xsc s 20 (0 : Int32))) else (some (((4 : Int32) * (x2 - (1 : Int32))), (xsc s 20 (0 : Int32))))) else (f_M_operand_55 x1 x2 x3 y0 (xsc s 20 (0 : Int32))))
def f_M_operand (x1 x2 x3 : Int32) (s : xS) : Option (Int32 × xS) := if x3 = 0 then (f_M_operand_12 x1 x2 x3 (65536 : Int32) s) else (f_M_operand_12 x1 x2 x3 (256 : Int32) s)
def f_M_one_331 (x3 x6 : Int32) (s : xS) : Option xS := (f_M_back x6 x3 s).bind fun q1 => some q1
def f_M_one_324 (x3 x6 y1 : Int32) (s : xS) : Option xS := (f_M_flags y1 (0 : Int32) x6 x3 s).bind fun q3 => f_M_one_331 x3 x6 q3
def f_M_one_286 (x1 x3 x4 y0 : Int32) (s : xS) : Option xS := if x1 = (1 : Int32) then (f_M_one_331 x3 y0 s) else ((f_M_silent (1 : Int32) s).bind fun q6 => if q6.1 = 0 then (if x1 = (3 : Int32) then (if y0 = 0 then (f_M_one_324 x3 y0 (0 : Int32) q6.2) else (f_M_one_324 x3 y0 (1 : Int32) q6.2)) else (f_M_one_324 x3 y0 (xrem x4 (2 : Int32)) q6.2)) else (f_M_one_331 x3 y0 q6.2))
def f_M_one_285 (x1 x3 x4 y0 y1 : Int32) (s : xS) : Option xS := f_M_one_286 x1 x3 x4 (y0 + y1) s
def f_M_one_201 (s : xS) : Option xS := some s
def f_M_one_185 (x1 x3 x4 y1 y2 : Int32) (s : xS) : Option xS := (f_M_store y1 y2 x3 s).bind fun q11 => if x1 = (5 : Int32) then ((f_M_put (0 : Int32) x4 q11).bind fun q14 => f_M_one_201  q14) else (f_M_one_201  q11)
def f_M_one_137 (x1 x3 x4 y0 : Int32) (s : xS) : Option xS := if x1 ≤ (3 : Int32) then (if x1 = (1 : Int32) then (f_M_one_286 x1 x3 x4 (((xrem x4 (256 : Int32)) * (256 : Int32)) + (x4 / (256 : Int32))) s) else (if x1 = (3 : Int32) then ((f_M_signed (xrem x4 (256 : Int32)) (256 : Int32) ).bind fun q23 => f_M_one_286 x1 x3 x4 (xrem (q23 + (65536 : Int32)) (65536 : Int32)) s) else (if x1 = 0 then ((f_M_flag (1 : Int32) s).bind fun q21 => f_M_one_285 x1 x3 x4 (x4 / (2 : Int32)) (q21.1 * y0) q21.2) else (if x4 < y0 then (f_M_one_285 x1 x3 x4 (x4 / (2 : Int32)) (0 : Int32) s) else (f_M_one_285 x1 x3 x4 (x4 / (2 : Int32)) y0 s))))) else (if x1 = (4 : Int32) then (f_M_one_185 x1 x3 x4 (((xsa s 0 1 (xrem (((s.2 0) 1) + (65534 : Int32)) (65536 : Int32))).2 0) 1) x4 (xsa s 0 1 (xrem (((s.2 0) 1) + (65534 : Int32)) (65536 : Int32)))) else (f_M_one_185 x1 x3 x4 (((xsa s 0 1 (xrem (((s.2 0) 1) + (65534 : Int32)) (65536 : Int32))).2 0) 1) (((xsa s 0 1 (xrem (((s.2 0) 1) + (65534 : Int32)) (65536 : Int32))).2 0) 0) (xsa s 0 1 (xrem (((s.2 0) 1) + (65534 : Int32)) (65536 : Int32)))))
def f_M_one_107 (x1 x2 y0 : Int32) (s : xS) : Option xS := (f_M_operand (xrem x2 (16 : Int32)) (xrem (x2 / (16 : Int32)) (4 : Int32)) y0 s).bind fun q26 => if y0 = 0 then (f_M_one_137 x1 y0 (q26.1) (32768 : Int32) q26.2) else (f_M_one_137 x1 y0 (q26.1) (128 : Int32) q26.2)
def f_M_one_106 (x1 x2 : Int32) (s : xS) : Option xS := f_M_one_107 x1 x2 (0 : Int32) s
def f_M_one (x1 x2 : Int32) (s : xS) : Option xS := if x1 = (7 : Int32) then (some s) else (if x1 = (6 : Int32) then ((f_M_loaded ((s.2 0) 1) (0 : Int32) s).bind fun q33 => (f_M_put (2 : Int32) q33.1 q33.2).bind fun q35 => (f_M_loaded (((xsa q35 0 1 (xrem (((q35.2 0) 1) + (2 : Int32)) (65536 : Int32))).2 0) 1) (0 : Int32) (xsa q35 0 1 (xrem (((q35.2 0) 1) + (2 : Int32)) (65536 : Int32)))).bind fun q37 => (f_M_put (0 : Int32) q37.1 q37.2).bind fun q39 => some (xsa q39 0 1 (xrem (((q39.2 0) 1) + (2 : Int32)) (65536 : Int32)))) else (if (xrem (x2 / (64 : Int32)) (2 : Int32)) = (1 : Int32) then (if (xrem x1 (2 : Int32)) = 0 then (f_M_one_107 x1 x2 (1 : Int32) s) else (f_M_one_106 x1 x2 s)) else (f_M_one_106 x1 x2 s)))
def f_M_jump_223 (y1 y2 : Int32) (s : xS) : Option xS := if xin y1 16 = true then some (xsa s 0 (y1).toNatClampNeg y2) else none
def f_M_jump_172 (x1 y0 : Int32) (s : xS) : Option xS := (f_M_signed (xrem x1 (1024 : Int32)) (1024 : Int32) ).bind fun q2 => if y0 = 0 then (f_M_jump_223 (0 : Int32) ((s.2 0) 0) s) else (f_M_jump_223 (0 : Int32) (xrem ((((s.2 0) 0) + ((2 : Int32) * q2)) + (65536 : Int32)) (65536 : Int32)) s)
def f_M_jump (x1 : Int32) (s : xS) : Option xS := (f_M_flag (4 : Int32) s).bind fun q5 => (f_M_flag (256 : Int32) q5.2).bind fun q7 => if (xrem (x1 / (1024 : Int32)) (8 : Int32)) = 0 then ((f_M_flag (2 : Int32) q7.2).bind fun q28 => if q28.1 = 0 then (f_M_jump_172 x1 (1 : Int32) q28.2) else (f_M_jump_172 x1 (0 : Int32) q28.2)) else (if (xrem (x1 / (1024 : Int32)) (8 : Int32)) = (1 : Int32) then ((f_M_flag (2 : Int32) q7.2).bind fun q25 => if q25.1 = (1 : Int32) then (f_M_jump_172 x1 (1 : Int32) q25.2) else (f_M_jump_172 x1 (0 : Int32) q25.2)) else (if (xrem (x1 / (1024 : Int32)) (8 : Int32)) = (2 : Int32) then ((f_M_flag (1 : Int32) q7.2).bind fun q22 => if q22.1 = 0 then (f_M_jump_172 x1 (1 : Int32) q22.2) else (f_M_jump_172 x1 (0 : Int32) q22.2)) else (if (xrem (x1 / (1024 : Int32)) (8 : Int32)) = (3 : Int32) then ((f_M_flag (1 : Int32) q7.2).bind fun q19 => if q19.1 = (1 : Int32) then (f_M_jump_172 x1 (1 : Int32) q19.2) else (f_M_jump_172 x1 (0 : Int32) q19.2)) else (if (xrem (x1 / (1024 : Int32)) (8 : Int32)) = (4 : Int32) then (if q5.1 = (1 : Int32) then (f_M_jump_172 x1 (1 : Int32) q7.2) else (f_M_jump_172 x1 (0 : Int32) q7.2)) else (if (xrem (x1 / (1024 : Int32)) (8 : Int32)) = (5 : Int32) then (if q5.1 = q7.1 then (f_M_jump_172 x1 (1 : Int32) q7.2) else (f_M_jump_172 x1 (0 : Int32) q7.2)) else (if (xrem (x1 / (1024 : Int32)) (8 : Int32)) = (6 : Int32) then (if q5.1 = q7.1 then (f_M_jump_172 x1 (0 : Int32) q7.2) else (f_M_jump_172 x1 (1 : Int32) q7.2)) else (f_M_jump_172 x1 (1 : Int32) q7.2)))))))
def f_M_bits_152 (x6 : Int32) (s : xS) : Option (Int32 × xS) := some (x6, s)
def f_M_bits_143 (x4 x6 x8 y1 : Int32) (s : xS) : Option (Int32 × xS) := (f_M_flags y1 x8 x6 x4 s).bind fun q1 => f_M_bits_152 x6 q1
def f_M_bits_126 (x4 x6 x8 y1 : Int32) (s : xS) : Option (Int32 × xS) := (f_M_silent y1 s).bind fun q3 => if q3.1 = 0 then (if x6 = 0 then (f_M_bits_143 x4 x6 x8 (0 : Int32) q3.2) else (f_M_bits_143 x4 x6 x8 (1 : Int32) q3.2)) else (f_M_bits_152 x6 q3.2)
def f_M_bits_107 (x1 x4 x6 x7 y0 : Int32) (s : xS) : Option (Int32 × xS) := if x7 = 0 then (f_M_bits_152 x6 s) else (if x1 = (11 : Int32) then (f_M_bits_126 x4 x6 y0 (0 : Int32) s) else (f_M_bits_126 x4 x6 y0 (1 : Int32) s))
def f_M_bits_106 (x1 x4 x6 x7 : Int32) (s : xS) : Option (Int32 × xS) := f_M_bits_107 x1 x4 x6 x7 (0 : Int32) s
def f_M_bits_78 (x1 x2 x3 x4 x5 x6 y0 : Int32) (s : xS) : Option (Int32 × xS) := if x1 = (14 : Int32) then (if x2 < (x5 / (2 : Int32)) then (f_M_bits_106 x1 x4 x6 y0 s) else (if x3 < (x5 / (2 : Int32)) then (f_M_bits_106 x1 x4 x6 y0 s) else (f_M_bits_107 x1 x4 x6 y0 (1 : Int32) s))) else (f_M_bits_106 x1 x4 x6 y0 s)
def f_M_bits_77 (x1 x2 x3 x4 x5 x6 : Int32) (s : xS) : Option (Int32 × xS) := f_M_bits_78 x1 x2 x3 x4 x5 x6 (0 : Int32) s
def f_M_bits_59 (x1 x2 x3 x4 x5 y0 : Int32) (s : xS) : Option (Int32 × xS) := if x1 = (12 : Int32) then (f_M_bits_77 x1 x2 x3 x4 x5 y0 s) else (if x1 = (13 : Int32) then (f_M_bits_77 x1 x2 x3 x4 x5 y0 s) else (f_M_bits_78 x1 x2 x3 x4 x5 y0 (1 : Int32) s))
def f_M_bits_13 (x1 x2 x3 x4 y0 : Int32) (s : xS) : Option (Int32 × xS) := if x1 = (12 : Int32) then (f_M_bits_59 x1 x2 x3 x4 y0 (x3 &&& ((y0 - (1 : Int32)) - x2)) s) else (if x1 = (13 : Int32) then (f_M_bits_59 x1 x2 x3 x4 y0 (x3 ||| x2) s) else (if x1 = (14 : Int32) then (f_M_bits_59 x1 x2 x3 x4 y0 (x3 ^^^ x2) s) else (f_M_bits_59 x1 x2 x3 x4 y0 (x3 &&& x2) s)))
def f_M_bits (x1 x2 x3 x4 : Int32) (s : xS) : Option (Int32 × xS) := if x4 = 0 then (f_M_bits_13 x1 x2 x3 x4 (65536 : Int32) s) else (f_M_bits_13 x1 x2 x3 x4 (256 : Int32) s)
def f_M_decimal_123 (x5 : Int32) (s : xS) : Option (Int32 × xS) := some (x5, s)
def f_M_decimal_86 (lp : Int32 → Int32 → Int32 → Int32 → Int32 → Int32 → Int32 → xS → Option (Int32 × xS)) (x1 x2 x3 x4 x6 x7 y0 y1 : Int32) (s : xS) : Option (Int32 × xS) := lp x1 x2 x3 x4 (y0 + (y1 * x6)) (x6 * (16 : Int32)) (x7 + (1 : Int32)) s
def f_M_decimal_62 (lp : Int32 → Int32 → Int32 → Int32 → Int32 → Int32 → Int32 → xS → Option (Int32 × xS)) (x1 x2 x3 x5 x6 x7 x8 y0 : Int32) (s : xS) : Option (Int32 × xS) := if x8 ≤ (9 : Int32) then (f_M_decimal_86 lp x1 x2 x3 y0 x6 x7 x5 x8 s) else (f_M_decimal_86 lp x1 x2 x3 y0 x6 x7 x5 (xrem (x8 + (6 : Int32)) (16 : Int32)) s)
def f_M_decimal_27 (lp : Int32 → Int32 → Int32 → Int32 → Int32 → Int32 → Int32 → xS → Option (Int32 × xS)) (x1 x2 x3 x4 x5 x6 x7 y0 y1 : Int32) (s : xS) : Option (Int32 × xS) := if y1 ≤ y0 then ((f_M_silent (1 : Int32) s).bind fun q3 => if q3.1 = 0 then ((f_M_flags x4 (0 : Int32) x5 x3 q3.2).bind fun q6 => f_M_decimal_123 x5 q6) else (f_M_decimal_123 x5 q3.2)) else (if (!(x6 == 0)) = true then if (!(x6 == 0)) = true then if (((xrem (x1 / x6) (16 : Int32)) + (xrem (x2 / x6) (16 : Int32))) + x4) ≤ (9 : Int32) then (f_M_decimal_62 lp x1 x2 x3 x5 x6 x7 (((xrem (x1 / x6) (16 : Int32)) + (xrem (x2 / x6) (16 : Int32))) + x4) (0 : Int32) s) else (f_M_decimal_62 lp x1 x2 x3 x5 x6 x7 (((xrem (x1 / x6) (16 : Int32)) + (xrem (x2 / x6) (16 : Int32))) + x4) (1 : Int32) s) else none else none)
def f_M_decimal_16 : Nat → Int32 → Int32 → Int32 → Int32 → Int32 → Int32 → Int32 → xS → Option (Int32 × xS)
  | 0, _, _, _, _, _, _, _, _ => none
  | n + 1, x1, x2, x3, x4, x5, x6, x7, s => if x3 = 0 then (f_M_decimal_27 (f_M_decimal_16 n) x1 x2 x3 x4 x5 x6 x7 x7 (4 : Int32) s) else (f_M_decimal_27 (f_M_decimal_16 n) x1 x2 x3 x4 x5 x6 x7 x7 (2 : Int32) s)
def f_M_decimal (x1 x2 x3 : Int32) (s : xS) : Option (Int32 × xS) := (f_M_flag (1 : Int32) s).bind fun q12 => f_M_decimal_16 1000 x1 x2 x3 (q12.1) (0 : Int32) (1 : Int32) (0 : Int32) q12.2
def f_M_sum_155 (x10 : Int32) (s : xS) : Option (Int32 × xS) := some (x10, s)
def f_M_sum_148 (x4 x10 y1 y2 : Int32) (s : xS) : Option (Int32 × xS) := (f_M_flags y1 y2 x10 x4 s).bind fun q1 => f_M_sum_155 x10 q1
def f_M_sum_131 (x4 x5 x9 x10 y1 : Int32) (s : xS) : Option (Int32 × xS) := (f_M_signed x10 x5 ).bind fun q3 => if x9 = q3 then (f_M_sum_148 x4 x10 y1 (0 : Int32) s) else (f_M_sum_148 x4 x10 y1 (1 : Int32) s)
def f_M_sum_112 (x4 x5 x8 x9 x10 y1 : Int32) (s : xS) : Option (Int32 × xS) := (f_M_silent y1 s).bind fun q6 => if q6.1 = 0 then (if x8 < x5 then (f_M_sum_131 x4 x5 x9 x10 (0 : Int32) q6.2) else (f_M_sum_131 x4 x5 x9 x10 (1 : Int32) q6.2)) else (f_M_sum_155 x10 q6.2)
def f_M_sum_63 (x1 x3 x4 x5 x6 y0 : Int32) (s : xS) : Option (Int32 × xS) := (f_M_signed x3 x5 ).bind fun q10 => (f_M_signed x6 x5 ).bind fun q12 => if (!(x5 == 0)) = true then if x1 = (9 : Int32) then (f_M_sum_112 x4 x5 ((x3 + x6) + y0) ((q10 + q12) + y0) (xrem ((x3 + x6) + y0) x5) (0 : Int32) s) else (f_M_sum_112 x4 x5 ((x3 + x6) + y0) ((q10 + q12) + y0) (xrem ((x3 + x6) + y0) x5) (1 : Int32) s) else none
def f_M_sum_45 (x1 x3 x4 x5 x6 : Int32) (s : xS) : Option (Int32 × xS) := (f_M_flag (1 : Int32) s).bind fun q16 => f_M_sum_63 x1 x3 x4 x5 x6 (q16.1) q16.2
def f_M_sum_31 (x1 x3 x4 x5 y0 : Int32) (s : xS) : Option (Int32 × xS) := if x1 = (6 : Int32) then (f_M_sum_45 x1 x3 x4 x5 y0 s) else (if x1 = (7 : Int32) then (f_M_sum_45 x1 x3 x4 x5 y0 s) else (if x1 = (5 : Int32) then (f_M_sum_63 x1 x3 x4 x5 y0 (0 : Int32) s) else (f_M_sum_63 x1 x3 x4 x5 y0 (1 : Int32) s)))
def f_M_sum_13 (x1 x2 x3 x4 y0 : Int32) (s : xS) : Option (Int32 × xS) := if (7 : Int32) ≤ x1 then (f_M_sum_31 x1 x3 x4 y0 ((y0 - (1 : Int32)) - x2) s) else (f_M_sum_31 x1 x3 x4 y0 x2 s)
def f_M_sum (x1 x2 x3 x4 : Int32) (s : xS) : Option (Int32 × xS) := if x4 = 0 then (f_M_sum_13 x1 x2 x3 x4 (65536 : Int32) s) else (f_M_sum_13 x1 x2 x3 x4 (256 : Int32) s)
def f_M_two_226 (s : xS) : Option xS := some s
def f_M_two_205 (x1 x3 y0 : Int32) (s : xS) : Option xS := if x1 = (9 : Int32) then (f_M_two_226  s) else (if x1 = (11 : Int32) then (f_M_two_226  s) else ((f_M_back y0 x3 s).bind fun q3 => f_M_two_226  q3))
def f_M_two_148 (x1 x3 x5 x8 : Int32) (s : xS) : Option xS := if x1 = (4 : Int32) then (f_M_two_205 x1 x3 x5 s) else (if (10 : Int32) ≤ x1 then (if x1 = (10 : Int32) then ((f_M_decimal x5 x8 x3 s).bind fun q10 => f_M_two_205 x1 x3 (q10.1) q10.2) else ((f_M_bits x1 x5 x8 x3 s).bind fun q8 => f_M_two_205 x1 x3 (q8.1) q8.2)) else ((f_M_sum x1 x5 x8 x3 s).bind fun q12 => f_M_two_205 x1 x3 (q12.1) q12.2))
def f_M_two_131 (x1 x3 x5 y0 : Int32) (s : xS) : Option xS := f_M_two_148 x1 x3 x5 y0 s
def f_M_two_86 (x1 x3 x4 x5 x6 x7 y1 : Int32) (s : xS) : Option xS := if x6 = 0 then (if xin x4 16 = true then if (!(x7 == 0)) = true then f_M_two_148 x1 x3 x5 (xrem ((s.2 0) (x4).toNatClampNeg) x7) (xsc (xsc s 20 y1) 21 x4) else none else none) else ((f_M_indexed x4 (xsc (xsc s 20 y1) 21 x4)).bind fun q17 => if x1 = (4 : Int32) then (f_M_two_131 x1 x3 x5 (0 : Int32) (xsc q17.2 21 q17.1)) else ((f_M_loaded q17.1 x3 (xsc q17.2 21 q17.1)).bind fun q20 => f_M_two_131 x1 x3 x5 (q20.1) q20.2))
def f_M_two_73 (x1 x3 x4 x5 x6 y0 : Int32) (s : xS) : Option xS := if x6 = 0 then (f_M_two_86 x1 x3 x4 x5 x6 y0 (1 : Int32) s) else (f_M_two_86 x1 x3 x4 x5 x6 y0 (2 : Int32) s)
def f_M_two_59 (x1 x3 x4 x5 y0 : Int32) (s : xS) : Option xS := if x3 = 0 then (f_M_two_73 x1 x3 x4 x5 y0 (65536 : Int32) s) else (f_M_two_73 x1 x3 x4 x5 y0 (256 : Int32) s)
def f_M_two_15 (x1 x2 y0 : Int32) (s : xS) : Option xS := (f_M_operand (xrem (x2 / (256 : Int32)) (16 : Int32)) (xrem (x2 / (16 : Int32)) (4 : Int32)) y0 s).bind fun q24 => if (xrem (x2 / (128 : Int32)) (2 : Int32)) = (1 : Int32) then (f_M_two_59 x1 y0 (xrem x2 (16 : Int32)) (q24.1) (1 : Int32) q24.2) else (f_M_two_59 x1 y0 (xrem x2 (16 : Int32)) (q24.1) (0 : Int32) q24.2)
def f_M_two (x1 x2 : Int32) (s : xS) : Option xS := if (xrem (x2 / (64 : Int32)) (2 : Int32)) = (1 : Int32) then (f_M_two_15 x1 x2 (1 : Int32) s) else (f_M_two_15 x1 x2 (0 : Int32) s)
def f_M_instruction_60 (s : xS) : Option xS := some s
def f_M_instruction (s : xS) : Option xS := (f_M_fetch  s).bind fun q1 => if (q1.1 / (4096 : Int32)) ≤ (3 : Int32) then (if (q1.1 / (4096 : Int32)) ≤ (1 : Int32) then (if (q1.1 / (1024 : Int32)) = (4 : Int32) then ((f_M_one (xrem (q1.1 / (128 : Int32)) (8 : Int32)) q1.1 q1.2).bind fun q6 => f_M_instruction_60  q6) else (f_M_instruction_60  q1.2)) else ((f_M_jump q1.1 q1.2).bind fun q8 => f_M_instruction_60  q8)) else ((f_M_two (q1.1 / (4096 : Int32)) q1.1 q1.2).bind fun q10 => f_M_instruction_60  q10)
def f_M_finish_151 (y1 : Int32) (s : xS) : Option xS := some (xsc s 14 y1)
def f_M_finish_66 (s : xS) : Option xS := some s
def f_M_finish_41 : Nat → xS → Option xS
  | 0, _ => none
  | n + 1, s => if (s.1 6) ≤ (s.1 7) then ((f_M_write  s).bind fun q2 => if q2.1 = 0 then (some q2.2) else ((f_M_write  (xsc q2.2 11 (0 : Int32))).bind fun q5 => if q5.1 = 0 then (some q5.2) else ((f_M_fresh  (xsc q5.2 9 (0 : Int32))).bind fun q8 => if (q8.1 8) = 0 then (f_M_finish_151 (1 : Int32) q8) else (f_M_finish_151 (3 : Int32) q8)))) else ((f_M_write  s).bind fun q11 => if q11.1 = 0 then (f_M_finish_66  q11.2) else ((f_M_write  q11.2).bind fun q14 => if q14.1 = 0 then (f_M_finish_66  q14.2) else (if xin (q14.2.1 7) 8 = true then if xin (q14.2.1 13) 200 = true then f_M_finish_41 n  (xsc (xsc (xsa q14.2 14 (q14.2.1 13).toNatClampNeg ((q14.2.2 11) (q14.2.1 7).toNatClampNeg)) 13 ((q14.2.1 13) + (1 : Int32))) 7 ((q14.2.1 7) + (1 : Int32))) else none else none)))
def f_M_finish_2 : Nat → Int32 → xS → Option xS
  | 0, _, _ => none
  | n + 1, x1, s => if (s.1 5) ≤ x1 then (f_M_finish_41 1000  s) else ((f_M_write  s).bind fun q20 => if q20.1 = 0 then (some q20.2) else (if xin x1 8 = true then if xin x1 8 = true then if xin ((q20.2.2 9) (x1).toNatClampNeg) 128 = true then f_M_finish_2 n (x1 + (1 : Int32)) (xsa q20.2 2 ((q20.2.2 9) (x1).toNatClampNeg).toNatClampNeg ((q20.2.2 10) (x1).toNatClampNeg)) else none else none else none))
def f_M_finish (s : xS) : Option xS := f_M_finish_2 1000 (0 : Int32) s
def f_M_checkpoint_177 : Nat → Int32 → xS → Option xS
  | 0, _, _ => none
  | n + 1, x2, s => if (s.1 1) ≤ x2 then (if xbl (s.1 4) = true then (f_M_finish  (xsc (xsc (xsc s 7 (0 : Int32)) 8 (s.1 4)) 9 (1 : Int32))).bind fun q3 => some q3 else none) else (if xin x2 8 = true then if xin x2 8 = true then f_M_checkpoint_177 n (x2 + (1 : Int32)) (xsa s 11 (x2).toNatClampNeg ((s.2 6) (x2).toNatClampNeg)) else none else none)
def f_M_checkpoint_161 (lp : Int32 → xS → Option xS) (x2 : Int32) (s : xS) : Option xS := lp (x2 + (1 : Int32)) s
def f_M_checkpoint_112 : Nat → Int32 → xS → Option xS
  | 0, _, _ => none
  | n + 1, x2, s => if (128 : Int32) ≤ x2 then (f_M_checkpoint_177 1000 (0 : Int32) (xsc s 6 (s.1 1))) else (if xin x2 128 = true then if ((s.2 4) (x2).toNatClampNeg) ≤ 0 then (f_M_checkpoint_161 (f_M_checkpoint_112 n) x2 s) else (if xin x2 128 = true then if xin (((s.2 4) (x2).toNatClampNeg) - (1 : Int32)) 8 = true then if xin x2 128 = true then if xin x2 128 = true then if xin (((s.2 4) (x2).toNatClampNeg) - (1 : Int32)) 8 = true then f_M_checkpoint_161 (f_M_checkpoint_112 n) x2 (xsa (xsa s 9 (((s.2 4) (x2).toNatClampNeg) - (1 : Int32)).toNatClampNeg x2) 10 (((s.2 4) (x2).toNatClampNeg) - (1 : Int32)).toNatClampNeg ((s.2 5) (x2).toNatClampNeg)) else none else none else none else none else none) else none)
def f_M_checkpoint_66 : Nat → Int32 → xS → Option xS
  | 0, _, _ => none
  | n + 1, x2, s => if (16 : Int32) ≤ x2 then (f_M_checkpoint_112 1000 (0 : Int32) (xsc s 5 (s.1 0))) else (if xin x2 16 = true then if xin x2 16 = true then if xin x2 16 = true then if xin x2 16 = true then f_M_checkpoint_66 n (x2 + (1 : Int32)) (xsa (xsa s 7 (x2).toNatClampNeg ((s.2 0) (x2).toNatClampNeg)) 8 (x2).toNatClampNeg ((s.2 1) (x2).toNatClampNeg)) else none else none else none else none)
def f_M_checkpoint_17 : Nat → Int32 → Int32 → xS → Option xS
  | 0, _, _, _ => none
  | n + 1, x1, x2, s => if x1 ≤ x2 then (f_M_checkpoint_66 1000 (0 : Int32) (xsc (xsc (xsc s 19 ((s.1 19) + (1 : Int32))) 10 ((s.1 10) + (s.1 3))) 3 (0 : Int32))) else ((f_M_write  s).bind fun q21 => if q21.1 = 0 then (some q21.2) else (f_M_checkpoint_17 n x1 (x2 + (1 : Int32)) q21.2))
def f_M_checkpoint (s : xS) : Option xS := f_M_checkpoint_17 1000 (((37 : Int32) + ((2 : Int32) * (s.1 0))) + (s.1 1)) (0 : Int32) s
def f_M_tracked_27 (lp : Int32 → Int32 → xS → Option (Int32 × xS)) (x2 y0 : Int32) (s : xS) : Option (Int32 × xS) := lp y0 (x2 + (1 : Int32)) s
def f_M_tracked_4 : Nat → Int32 → Int32 → xS → Option (Int32 × xS)
  | 0, _, _, _ => none
  | n + 1, x1, x2, s => if (128 : Int32) ≤ x2 then (some (x1, s)) else (if xin x2 128 = true then if ((s.2 3) (x2).toNatClampNeg) ≤ 0 then (f_M_tracked_27 (f_M_tracked_4 n) x2 x1 s) else (f_M_tracked_27 (f_M_tracked_4 n) x2 (x1 + (1 : Int32)) s) else none)
def f_M_tracked (s : xS) : Option (Int32 × xS) := f_M_tracked_4 1000 (0 : Int32) (0 : Int32) s
def f_M_step_115 (s : xS) : Option (Int32 × xS) := if xbl (s.1 15) = true then some ((s.1 15), s) else none
def f_M_step_72 (s : xS) : Option (Int32 × xS) := if (s.1 15) = 0 then (some ((0 : Int32), s)) else ((f_M_instruction  s).bind fun q3 => if (q3.1 15) = 0 then (some ((0 : Int32), q3)) else (if (q3.1 4) = 0 then (f_M_step_115  (xsc q3 3 ((q3.1 3) + (1 : Int32)))) else ((f_M_checkpoint  (xsc q3 3 ((q3.1 3) + (1 : Int32)))).bind fun q7 => f_M_step_115  q7)))
def f_M_step_68 (s : xS) : Option (Int32 × xS) := (f_M_checkpoint  s).bind fun q9 => f_M_step_72  q9
def f_M_step_32 (y1 : Int32) (s : xS) : Option (Int32 × xS) := (f_M_tracked  (xsc s 17 y1)).bind fun q11 => if (11 : Int32) < q11.1 then (f_M_step_68  q11.2) else (if (q11.2.1 0) = (4 : Int32) then (f_M_step_68  q11.2) else (if (q11.2.1 1) = (4 : Int32) then (f_M_step_68  q11.2) else (if (q11.2.1 2) ≤ (2 : Int32) then (f_M_step_72  q11.2) else (f_M_step_68  q11.2))))
def f_M_step (s : xS) : Option (Int32 × xS) := if (s.1 17) = (1 : Int32) then ((f_M_off  s).bind fun q19 => some ((0 : Int32), q19)) else (if (s.1 17) ≤ 0 then (f_M_step_32 (0 : Int32) s) else (f_M_step_32 ((s.1 17) - (1 : Int32)) s))
def f_M_run_54 (x2 : Int32) (s : xS) : Option (Int32 × xS) := some (x2, s)
def f_M_run_48 (lp : Int32 → Int32 → Int32 → xS → Option (Int32 × xS)) (x1 x2 x3 : Int32) (s : xS) : Option (Int32 × xS) := lp x1 x2 (x3 + (1 : Int32)) s
def f_M_run_25 : Nat → Int32 → Int32 → Int32 → xS → Option (Int32 × xS)
  | 0, _, _, _, _ => none
  | n + 1, x1, x2, x3, s => if x1 ≤ x3 then (f_M_run_54 x2 s) else (if (s.1 14) = (1 : Int32) then ((f_M_step  s).bind fun q3 => if q3.1 = 0 then (f_M_run_48 (f_M_run_25 n) x1 x2 x3 q3.2) else (f_M_run_48 (f_M_run_25 n) x1 (x2 + (1 : Int32)) x3 q3.2)) else (f_M_run_54 x2 s))
def f_M_run_19 (s : xS) : Option (Int32 × xS) := some ((-1 : Int32), s)
def f_M_run (x1 : Int32) (s : xS) : Option (Int32 × xS) := if (s.1 14) = (1 : Int32) then (if x1 < 0 then (f_M_run_19  s) else (if x1 ≤ (200 : Int32) then (f_M_run_25 1000 x1 (0 : Int32) (0 : Int32) s) else (f_M_run_19  s))) else (f_M_run_19  s)
def f_M_boot_58 : Nat → Int32 → xS → Option (Int32 × xS)
  | 0, _, _ => none
  | n + 1, x1, s => if (16 : Int32) ≤ x1 then ((f_M_fresh  s).bind fun q2 => some ((1 : Int32), q2)) else (if xin x1 16 = true then if xin x1 16 = true then if xin x1 16 = true then if xin x1 16 = true then f_M_boot_58 n (x1 + (1 : Int32)) (xsa (xsa s 0 (x1).toNatClampNeg ((s.2 7) (x1).toNatClampNeg)) 1 (x1).toNatClampNeg ((s.2 8) (x1).toNatClampNeg)) else none else none else none else none)
def f_M_boot_53 (y1 : Int32) (s : xS) : Option (Int32 × xS) := f_M_boot_58 1000 (0 : Int32) (xsc s 14 y1)
def f_M_boot_31 (s : xS) : Option (Int32 × xS) := if (s.1 15) = 0 then (some ((0 : Int32), s)) else (if (s.1 8) = 0 then (f_M_boot_53 (1 : Int32) s) else (f_M_boot_53 (3 : Int32) s))
def f_M_boot (s : xS) : Option (Int32 × xS) := if (s.1 14) = (2 : Int32) then (if (s.1 9) = 0 then (f_M_boot_31  (xsc (xsc s 15 (1 : Int32)) 14 (1 : Int32))) else ((f_M_finish  (xsc (xsc s 15 (1 : Int32)) 14 (1 : Int32))).bind fun q12 => f_M_boot_31  q12)) else (some ((0 : Int32), s))
def f_M_load_17 (s : xS) : Option (Int32 × xS) := some ((0 : Int32), s)
def f_M_load (x1 x2 : Int32) (s : xS) : Option (Int32 × xS) := if x1 < 0 then (f_M_load_17  s) else (if (127 : Int32) < x1 then (f_M_load_17  s) else (if (s.1 14) = 0 then (if xin x1 128 = true then some ((1 : Int32), (xsa s 2 (x1).toNatClampNeg (x2 &&& (65535 : Int32)))) else none) else (f_M_load_17  s)))
def f_M_start (x1 : Int32) (s : xS) : Option (Int32 × xS) := if (s.1 14) = 0 then (some ((1 : Int32), (xsc (xsc (xsa (xsa s 0 0 (x1 &&& (65534 : Int32))) 7 0 (((xsa s 0 0 (x1 &&& (65534 : Int32))).2 0) 0)) 15 (1 : Int32)) 14 (1 : Int32)))) else (some ((0 : Int32), s))
def f_M_sample (x1 : Int32) (s : xS) : Option (Int32 × xS) := if (s.1 12) = (16 : Int32) then (some ((0 : Int32), s)) else (if xin (s.1 12) 16 = true then some ((1 : Int32), (xsc (xsa s 13 (s.1 12).toNatClampNeg (x1 &&& (65535 : Int32))) 12 ((s.1 12) + (1 : Int32)))) else none)
def f_M_failWrite_11 (s : xS) : Option (Int32 × xS) := some ((0 : Int32), s)
def f_M_failWrite (x1 : Int32) (s : xS) : Option (Int32 × xS) := if x1 < 0 then (f_M_failWrite_11  s) else (if x1 ≤ (1000 : Int32) then (some ((1 : Int32), (xsc s 16 x1))) else (f_M_failWrite_11  s))
def f_M_failStep_11 (s : xS) : Option (Int32 × xS) := some ((0 : Int32), s)
def f_M_failStep (x1 : Int32) (s : xS) : Option (Int32 × xS) := if x1 < 0 then (f_M_failStep_11  s) else (if x1 ≤ (1000 : Int32) then (some ((1 : Int32), (xsc s 17 x1))) else (f_M_failStep_11  s))
def f_M_state (s : xS) : Option (Int32 × xS) := some ((s.1 14), s)
def f_M_register_28 (y0 : Int32) (s : xS) : Option (Int32 × xS) := some (y0, s)
def f_M_register_18 (s : xS) : Option (Int32 × xS) := f_M_register_28 (0 : Int32) s
def f_M_register (x1 : Int32) (s : xS) : Option (Int32 × xS) := if x1 < 0 then (f_M_register_18  s) else (if (15 : Int32) < x1 then (f_M_register_18  s) else (if (s.1 14) = (2 : Int32) then (f_M_register_18  s) else (if xin x1 16 = true then f_M_register_28 ((s.2 0) (x1).toNatClampNeg) s else none)))
def f_M_memory_50 (y0 : Int32) (s : xS) : Option (Int32 × xS) := some (y0, s)
def f_M_memory_49 (s : xS) : Option (Int32 × xS) := f_M_memory_50 (0 : Int32) s
def f_M_memory (x1 : Int32) (s : xS) : Option (Int32 × xS) := (f_M_inFram x1 ).bind fun q1 => if q1 = 0 then ((f_M_inSram x1 ).bind fun q4 => if q4 = 0 then (f_M_memory_49  s) else (if (s.1 14) = (2 : Int32) then (f_M_memory_49  s) else (if xin ((x1 - (512 : Int32)) / (2 : Int32)) 16 = true then f_M_memory_50 ((s.2 1) ((x1 - (512 : Int32)) / (2 : Int32)).toNatClampNeg) s else none))) else ((f_M_framNow ((x1 - (1024 : Int32)) / (2 : Int32)) s).bind fun q9 => some (q9.1, q9.2))
def f_M_fram_20 (y0 : Int32) (s : xS) : Option (Int32 × xS) := some (y0, s)
def f_M_fram_10 (s : xS) : Option (Int32 × xS) := f_M_fram_20 (0 : Int32) s
def f_M_fram (x1 : Int32) (s : xS) : Option (Int32 × xS) := if x1 < 0 then (f_M_fram_10  s) else (if x1 ≤ (127 : Int32) then (if xin x1 128 = true then f_M_fram_20 ((s.2 2) (x1).toNatClampNeg) s else none) else (f_M_fram_10  s))
def f_M_radio_34 (y0 : Int32) (s : xS) : Option (Int32 × xS) := some (y0, s)
def f_M_radio_24 (s : xS) : Option (Int32 × xS) := f_M_radio_34 (0 : Int32) s
def f_M_radio (x1 : Int32) (s : xS) : Option (Int32 × xS) := if x1 = (-1 : Int32) then (f_M_radio_34 (s.1 13) s) else (if x1 < 0 then (f_M_radio_24  s) else (if x1 < (s.1 13) then (if xin x1 200 = true then f_M_radio_34 ((s.2 14) (x1).toNatClampNeg) s else none) else (f_M_radio_24  s)))
def f_M_waiting (s : xS) : Option (Int32 × xS) := some ((s.1 12), s)
def f_M_writes (s : xS) : Option (Int32 × xS) := some ((s.1 18), s)
def f_M_flips (s : xS) : Option (Int32 × xS) := some ((s.1 19), s)
def f_M_retired (s : xS) : Option (Int32 × xS) := some (((s.1 10) + (s.1 3)), s)
def f_M_section (s : xS) : Option (Int32 × xS) := (f_M_tracked  s).bind fun q1 => some ((((q1.1 + ((32 : Int32) * (q1.2.1 0))) + ((256 : Int32) * (q1.2.1 1))) + ((2048 : Int32) * (q1.2.1 11))), q1.2)
def f_L_law_447 (n0 : Nat) (f0 : Nat → Int32) (lp : Int32 → xS → xS → Option Int32) (x3 : Int32) (s t : xS) : Option Int32 := lp (x3 + (3 : Int32)) s t
def f_L_law_18 (n0 : Nat) (f0 : Nat → Int32) : Nat → Int32 → xS → xS → Option Int32
  | 0, _, _, _ => none
  | n + 1, x3, s, t => if ((Int32.ofNat n0) - (3 : Int32)) < x3 then (some (1 : Int32)) else (if xin x3 n0 = true then if ((f0 (x3).toNatClampNeg) &&& (31 : Int32)) < (0 : Int32) ∨ (16 : Int32) < ((f0 (x3).toNatClampNeg) &&& (31 : Int32)) then (f_L_law_447 n0 f0 (f_L_law_18 n0 f0 n) x3 s t) else if ((f0 (x3).toNatClampNeg) &&& (31 : Int32)) = (0 : Int32) then (if xin (x3 + (1 : Int32)) n0 = true then if xin (x3 + (2 : Int32)) n0 = true then (f_C_load (f0 (x3 + (1 : Int32)).toNatClampNeg) (f0 (x3 + (2 : Int32)).toNatClampNeg) s).bind fun q7 => if xin (x3 + (1 : Int32)) n0 = true then if xin (x3 + (2 : Int32)) n0 = true then (f_M_load (f0 (x3 + (1 : Int32)).toNatClampNeg) (f0 (x3 + (2 : Int32)).toNatClampNeg) t).bind fun q11 => if q7.1 = q11.1 then (f_L_law_447 n0 f0 (f_L_law_18 n0 f0 n) x3 q7.2 q11.2) else (some (0 : Int32)) else none else none else none else none) else if ((f0 (x3).toNatClampNeg) &&& (31 : Int32)) = (1 : Int32) then (if xin (x3 + (1 : Int32)) n0 = true then (f_C_start (f0 (x3 + (1 : Int32)).toNatClampNeg) s).bind fun q16 => if xin (x3 + (1 : Int32)) n0 = true then (f_M_start (f0 (x3 + (1 : Int32)).toNatClampNeg) t).bind fun q19 => if q16.1 = q19.1 then (f_L_law_447 n0 f0 (f_L_law_18 n0 f0 n) x3 q16.2 q19.2) else (some (0 : Int32)) else none else none) else if ((f0 (x3).toNatClampNeg) &&& (31 : Int32)) = (2 : Int32) then (if xin (x3 + (1 : Int32)) n0 = true then (f_C_sample (f0 (x3 + (1 : Int32)).toNatClampNeg) s).bind fun q24 => if xin (x3 + (1 : Int32)) n0 = true then (f_M_sample (f0 (x3 + (1 : Int32)).toNatClampNeg) t).bind fun q27 => if q24.1 = q27.1 then (f_L_law_447 n0 f0 (f_L_law_18 n0 f0 n) x3 q24.2 q27.2) else (some (0 : Int32)) else none else none) else if ((f0 (x3).toNatClampNeg) &&& (31 : Int32)) = (3 : Int32) then (if xin (x3 + (1 : Int32)) n0 = true then (f_C_failWrite (f0 (x3 + (1 : Int32)).toNatClampNeg) s).bind fun q32 => if xin (x3 + (1 : Int32)) n0 = true then (f_M_failWrite (f0 (x3 + (1 : Int32)).toNatClampNeg) t).bind fun q35 => if q32.1 = q35.1 then (f_L_law_447 n0 f0 (f_L_law_18 n0 f0 n) x3 q32.2 q35.2) else (some (0 : Int32)) else none else none) else if ((f0 (x3).toNatClampNeg) &&& (31 : Int32)) = (4 : Int32) then (if xin (x3 + (1 : Int32)) n0 = true then (f_C_failStep (f0 (x3 + (1 : Int32)).toNatClampNeg) s).bind fun q40 => if xin (x3 + (1 : Int32)) n0 = true then (f_M_failStep (f0 (x3 + (1 : Int32)).toNatClampNeg) t).bind fun q43 => if q40.1 = q43.1 then (f_L_law_447 n0 f0 (f_L_law_18 n0 f0 n) x3 q40.2 q43.2) else (some (0 : Int32)) else none else none) else if ((f0 (x3).toNatClampNeg) &&& (31 : Int32)) = (5 : Int32) then (if xin (x3 + (1 : Int32)) n0 = true then (f_C_run (f0 (x3 + (1 : Int32)).toNatClampNeg) s).bind fun q48 => if xin (x3 + (1 : Int32)) n0 = true then (f_M_run (f0 (x3 + (1 : Int32)).toNatClampNeg) t).bind fun q51 => if q48.1 = q51.1 then (f_L_law_447 n0 f0 (f_L_law_18 n0 f0 n) x3 q48.2 q51.2) else (some (0 : Int32)) else none else none) else if ((f0 (x3).toNatClampNeg) &&& (31 : Int32)) = (6 : Int32) then ((f_C_boot  s).bind fun q55 => (f_M_boot  t).bind fun q57 => if q55.1 = q57.1 then (f_L_law_447 n0 f0 (f_L_law_18 n0 f0 n) x3 q55.2 q57.2) else (some (0 : Int32))) else if ((f0 (x3).toNatClampNeg) &&& (31 : Int32)) = (7 : Int32) then ((f_C_state  s).bind fun q61 => (f_M_state  t).bind fun q63 => if q61.1 = q63.1 then (f_L_law_447 n0 f0 (f_L_law_18 n0 f0 n) x3 q61.2 q63.2) else (some (0 : Int32))) else if ((f0 (x3).toNatClampNeg) &&& (31 : Int32)) = (8 : Int32) then (if xin (x3 + (1 : Int32)) n0 = true then (f_C_register (f0 (x3 + (1 : Int32)).toNatClampNeg) s).bind fun q68 => if xin (x3 + (1 : Int32)) n0 = true then (f_M_register (f0 (x3 + (1 : Int32)).toNatClampNeg) t).bind fun q71 => if q68.1 = q71.1 then (f_L_law_447 n0 f0 (f_L_law_18 n0 f0 n) x3 q68.2 q71.2) else (some (0 : Int32)) else none else none) else if ((f0 (x3).toNatClampNeg) &&& (31 : Int32)) = (9 : Int32) then (if xin (x3 + (1 : Int32)) n0 = true then (f_C_memory (f0 (x3 + (1 : Int32)).toNatClampNeg) s).bind fun q76 => if xin (x3 + (1 : Int32)) n0 = true then (f_M_memory (f0 (x3 + (1 : Int32)).toNatClampNeg) t).bind fun q79 => if q76.1 = q79.1 then (f_L_law_447 n0 f0 (f_L_law_18 n0 f0 n) x3 q76.2 q79.2) else (some (0 : Int32)) else none else none) else if ((f0 (x3).toNatClampNeg) &&& (31 : Int32)) = (10 : Int32) then (if xin (x3 + (1 : Int32)) n0 = true then (f_C_fram (f0 (x3 + (1 : Int32)).toNatClampNeg) s).bind fun q84 => if xin (x3 + (1 : Int32)) n0 = true then (f_M_fram (f0 (x3 + (1 : Int32)).toNatClampNeg) t).bind fun q87 => if q84.1 = q87.1 then (f_L_law_447 n0 f0 (f_L_law_18 n0 f0 n) x3 q84.2 q87.2) else (some (0 : Int32)) else none else none) else if ((f0 (x3).toNatClampNeg) &&& (31 : Int32)) = (11 : Int32) then (if xin (x3 + (1 : Int32)) n0 = true then (f_C_radio (f0 (x3 + (1 : Int32)).toNatClampNeg) s).bind fun q92 => if xin (x3 + (1 : Int32)) n0 = true then (f_M_radio (f0 (x3 + (1 : Int32)).toNatClampNeg) t).bind fun q95 => if q92.1 = q95.1 then (f_L_law_447 n0 f0 (f_L_law_18 n0 f0 n) x3 q92.2 q95.2) else (some (0 : Int32)) else none else none) else if ((f0 (x3).toNatClampNeg) &&& (31 : Int32)) = (12 : Int32) then ((f_C_waiting  s).bind fun q99 => (f_M_waiting  t).bind fun q101 => if q99.1 = q101.1 then (f_L_law_447 n0 f0 (f_L_law_18 n0 f0 n) x3 q99.2 q101.2) else (some (0 : Int32))) else if ((f0 (x3).toNatClampNeg) &&& (31 : Int32)) = (13 : Int32) then ((f_C_writes  s).bind fun q105 => (f_M_writes  t).bind fun q107 => if q105.1 = q107.1 then (f_L_law_447 n0 f0 (f_L_law_18 n0 f0 n) x3 q105.2 q107.2) else (some (0 : Int32))) else if ((f0 (x3).toNatClampNeg) &&& (31 : Int32)) = (14 : Int32) then ((f_C_flips  s).bind fun q111 => (f_M_flips  t).bind fun q113 => if q111.1 = q113.1 then (f_L_law_447 n0 f0 (f_L_law_18 n0 f0 n) x3 q111.2 q113.2) else (some (0 : Int32))) else if ((f0 (x3).toNatClampNeg) &&& (31 : Int32)) = (15 : Int32) then ((f_C_retired  s).bind fun q117 => (f_M_retired  t).bind fun q119 => if q117.1 = q119.1 then (f_L_law_447 n0 f0 (f_L_law_18 n0 f0 n) x3 q117.2 q119.2) else (some (0 : Int32))) else if ((f0 (x3).toNatClampNeg) &&& (31 : Int32)) = (16 : Int32) then ((f_C_section  s).bind fun q123 => (f_M_section  t).bind fun q125 => if q123.1 = q125.1 then (f_L_law_447 n0 f0 (f_L_law_18 n0 f0 n) x3 q123.2 q125.2) else (some (0 : Int32))) else none else none)
end
section
set_option maxRecDepth 100000 in
set_option maxHeartbeats 4000000 in
theorem t_C_isFramWord_16 (s t : xS) (q : Int32) (y0 : Int32)  (h : f_C_isFramWord_16 y0  = some q) : xOK 18 none (xEnd 18 (some q) (mk s t)) (8, [none], [.int y0]) (mk s t) 0 0 := by
  unfold f_C_isFramWord_16 at h
  by_cases o1 : xbl y0 = true
  case neg => have h := xif_neg o1 h; cases h
  have h := xif_pos o1 h
  cases h
  exact xu_iret e_18 hk_18 rfl o1 rfl
set_option maxRecDepth 100000 in
set_option maxHeartbeats 4000000 in
theorem t_C_isFramWord_15 (s t : xS) (q : Int32)  (h : f_C_isFramWord_15   = some q) : xOK 18 none (xEnd 18 (some q) (mk s t)) (7, [none], []) (mk s t) 0 0 := by
  unfold f_C_isFramWord_15 at h
  refine xOK_steps (fr' := (8, [none], [.int (0 : Int32)])) (w' := (mk s t)) (ob := true) e_18 hk_18 1 rfl rfl ?_
  exact t_C_isFramWord_16 s t q _  h
set_option maxRecDepth 100000 in
set_option maxHeartbeats 4000000 in
theorem m_C_isFramWord (x0 : Int32) (s t : xS) (q : Int32) (h : f_C_isFramWord x0  = some q) : xMet 18 [.int x0] (mk s t) (some q) (mk s t) := by
  refine xMet_of hk_18 rfl rfl rfl ?_
  refine xOK_eq (fr := (0, [some (.int x0)], [])) rfl ?_
  unfold f_C_isFramWord at h
  refine xOK_steps (fr' := (1, [some (.int x0)], [.int x0])) (w' := (mk s t)) (ob := true) e_18 hk_18 1 rfl rfl ?_
  refine xu_if_lt e_18 hk_18 rfl (fun c2 => ?_) (fun c2 => ?_)
  · have h := xif_pos c2 h
    refine xOK_fg [0] ?_
    exact t_C_isFramWord_15 s t q   h
  · have h := xif_neg c2 h
    refine xOK_steps (fr' := (4, [some (.int x0)], [.int (128 : Int32), .int x0])) (w' := (mk s t)) (ob := true) e_18 hk_18 2 rfl rfl ?_
    refine xu_icmp_ge e_18 hk_18 rfl (fun c3 => ?_) (fun c3 => ?_)
    · have h := xif_pos c3 h
      refine xOK_fg [0] ?_
      exact t_C_isFramWord_15 s t q   h
    · have h := xif_neg c3 h
      refine xOK_steps (fr' := (8, [some (.int x0)], [.int (1 : Int32)])) (w' := (mk s t)) (ob := true) e_18 hk_18 2 rfl rfl ?_
      refine xOK_fg [0] ?_
      exact t_C_isFramWord_16 s t q _  h
set_option maxRecDepth 100000 in
set_option maxHeartbeats 4000000 in
theorem t_Bus_inFram_19 (s t : xS) (q : Int32) (y0 : Int32)  (h : f_Bus_inFram_19 y0  = some q) : xOK 56 none (xEnd 56 (some q) (mk s t)) (9, [none], [.int y0]) (mk s t) 0 0 := by
  unfold f_Bus_inFram_19 at h
  by_cases o1 : xbl y0 = true
  case neg => have h := xif_neg o1 h; cases h
  have h := xif_pos o1 h
  cases h
  exact xu_iret e_56 hk_56 rfl o1 rfl
set_option maxRecDepth 100000 in
set_option maxHeartbeats 4000000 in
theorem t_Bus_inFram_18 (s t : xS) (q : Int32)  (h : f_Bus_inFram_18   = some q) : xOK 56 none (xEnd 56 (some q) (mk s t)) (8, [none], []) (mk s t) 0 0 := by
  unfold f_Bus_inFram_18 at h
  refine xOK_steps (fr' := (9, [none], [.int (0 : Int32)])) (w' := (mk s t)) (ob := true) e_56 hk_56 1 rfl rfl ?_
  exact t_Bus_inFram_19 s t q _  h
set_option maxRecDepth 100000 in
set_option maxHeartbeats 4000000 in
theorem m_Bus_inFram (x0 : Int32) (s t : xS) (q : Int32) (h : f_Bus_inFram x0  = some q) : xMet 56 [.int x0] (mk s t) (some q) (mk s t) := by
  refine xMet_of hk_56 rfl rfl rfl ?_
  refine xOK_eq (fr := (0, [some (.int x0)], [])) rfl ?_
  unfold f_Bus_inFram at h
  refine xOK_steps (fr' := (2, [some (.int x0)], [.int (1024 : Int32), .int x0])) (w' := (mk s t)) (ob := true) e_56 hk_56 2 rfl rfl ?_
  refine xu_icmp_lt e_56 hk_56 rfl (fun c2 => ?_) (fun c2 => ?_)
  · have h := xif_pos c2 h
    refine xOK_fg [0] ?_
    exact t_Bus_inFram_18 s t q   h
  · have h := xif_neg c2 h
    refine xOK_steps (fr' := (5, [some (.int x0)], [.int (1280 : Int32), .int x0])) (w' := (mk s t)) (ob := true) e_56 hk_56 2 rfl rfl ?_
    refine xu_icmp_ge e_56 hk_56 rfl (fun c3 => ?_) (fun c3 => ?_)
    · have h := xif_pos c3 h
      refine xOK_fg [0] ?_
      exact t_Bus_inFram_18 s t q   h
    · have h := xif_neg c3 h
      refine xOK_steps (fr' := (9, [some (.int x0)], [.int (1 : Int32)])) (w' := (mk s t)) (ob := true) e_56 hk_56 2 rfl rfl ?_
      refine xOK_fg [0] ?_
      exact t_Bus_inFram_19 s t q _  h
set_option maxRecDepth 100000 in
set_option maxHeartbeats 4000000 in
theorem m_Bus_framWord (x0 : Int32) (s t : xS) (q : Int32) (h : f_Bus_framWord x0  = some q) : xMet 58 [.int x0] (mk s t) (some q) (mk s t) := by
  refine xMet_of hk_58 rfl rfl rfl ?_
  refine xOK_eq (fr := (0, [some (.int x0)], [])) rfl ?_
  unfold f_Bus_framWord at h
  refine xOK_steps (fr' := (5, [some (.int x0)], [.int ((x0 - (1024 : Int32)) >>> ((1 : Int32) &&& 31))])) (w' := (mk s t)) (ob := true) e_58 hk_58 5 rfl rfl ?_
  cases h
  exact xu_iret e_58 hk_58 rfl rfl rfl
set_option maxRecDepth 100000 in
set_option maxHeartbeats 4000000 in
theorem t_Bus_inSram_19 (s t : xS) (q : Int32) (y0 : Int32)  (h : f_Bus_inSram_19 y0  = some q) : xOK 55 none (xEnd 55 (some q) (mk s t)) (9, [none], [.int y0]) (mk s t) 0 0 := by
  unfold f_Bus_inSram_19 at h
  by_cases o1 : xbl y0 = true
  case neg => have h := xif_neg o1 h; cases h
  have h := xif_pos o1 h
  cases h
  exact xu_iret e_55 hk_55 rfl o1 rfl
set_option maxRecDepth 100000 in
set_option maxHeartbeats 4000000 in
theorem t_Bus_inSram_18 (s t : xS) (q : Int32)  (h : f_Bus_inSram_18   = some q) : xOK 55 none (xEnd 55 (some q) (mk s t)) (8, [none], []) (mk s t) 0 0 := by
  unfold f_Bus_inSram_18 at h
  refine xOK_steps (fr' := (9, [none], [.int (0 : Int32)])) (w' := (mk s t)) (ob := true) e_55 hk_55 1 rfl rfl ?_
  exact t_Bus_inSram_19 s t q _  h
set_option maxRecDepth 100000 in
set_option maxHeartbeats 4000000 in
theorem m_Bus_inSram (x0 : Int32) (s t : xS) (q : Int32) (h : f_Bus_inSram x0  = some q) : xMet 55 [.int x0] (mk s t) (some q) (mk s t) := by
  refine xMet_of hk_55 rfl rfl rfl ?_
  refine xOK_eq (fr := (0, [some (.int x0)], [])) rfl ?_
  unfold f_Bus_inSram at h
  refine xOK_steps (fr' := (2, [some (.int x0)], [.int (512 : Int32), .int x0])) (w' := (mk s t)) (ob := true) e_55 hk_55 2 rfl rfl ?_
  refine xu_icmp_lt e_55 hk_55 rfl (fun c2 => ?_) (fun c2 => ?_)
  · have h := xif_pos c2 h
    refine xOK_fg [0] ?_
    exact t_Bus_inSram_18 s t q   h
  · have h := xif_neg c2 h
    refine xOK_steps (fr' := (5, [some (.int x0)], [.int (544 : Int32), .int x0])) (w' := (mk s t)) (ob := true) e_55 hk_55 2 rfl rfl ?_
    refine xu_icmp_ge e_55 hk_55 rfl (fun c3 => ?_) (fun c3 => ?_)
    · have h := xif_pos c3 h
      refine xOK_fg [0] ?_
      exact t_Bus_inSram_18 s t q   h
    · have h := xif_neg c3 h
      refine xOK_steps (fr' := (9, [some (.int x0)], [.int (1 : Int32)])) (w' := (mk s t)) (ob := true) e_55 hk_55 2 rfl rfl ?_
      refine xOK_fg [0] ?_
      exact t_Bus_inSram_19 s t q _  h
set_option maxRecDepth 100000 in
set_option maxHeartbeats 4000000 in
theorem m_Bus_sramWord (x0 : Int32) (s t : xS) (q : Int32) (h : f_Bus_sramWord x0  = some q) : xMet 57 [.int x0] (mk s t) (some q) (mk s t) := by
  refine xMet_of hk_57 rfl rfl rfl ?_
  refine xOK_eq (fr := (0, [some (.int x0)], [])) rfl ?_
  unfold f_Bus_sramWord at h
  refine xOK_steps (fr' := (5, [some (.int x0)], [.int ((x0 - (512 : Int32)) >>> ((1 : Int32) &&& 31))])) (w' := (mk s t)) (ob := true) e_57 hk_57 5 rfl rfl ?_
  cases h
  exact xu_iret e_57 hk_57 rfl rfl rfl
set_option maxRecDepth 100000 in
set_option maxHeartbeats 4000000 in
theorem t_Bus_withByte_26 (s t : xS) (q : Int32) (y0 : Int32)  (h : f_Bus_withByte_26 y0  = some q) : xOK 54 none (xEnd 54 (some q) (mk s t)) (18, [none, none, none], [.int y0]) (mk s t) 0 0 := by
  unfold f_Bus_withByte_26 at h
  cases h
  exact xu_iret e_54 hk_54 rfl rfl rfl
set_option maxRecDepth 100000 in
set_option maxHeartbeats 4000000 in
theorem m_Bus_withByte (x0 x1 x2 : Int32) (s t : xS) (q : Int32) (h : f_Bus_withByte x0 x1 x2  = some q) : xMet 54 [.int x0, .int x1, .int x2] (mk s t) (some q) (mk s t) := by
  refine xMet_of hk_54 rfl rfl rfl ?_
  refine xOK_eq (fr := (0, [some (.int x0), some (.int x1), some (.int x2)], [])) rfl ?_
  unfold f_Bus_withByte at h
  refine xOK_steps (fr' := (4, [some (.int x0), some (.int x1), some (.int x2)], [.int (1 : Int32), .int (x1 &&& (1 : Int32))])) (w' := (mk s t)) (ob := true) e_54 hk_54 4 rfl rfl ?_
  refine xu_icmp_ne e_54 hk_54 rfl (fun c1 => ?_) (fun c1 => ?_)
  · have h := xif_neg c1 h
    refine xOK_steps (fr' := (18, [some (.int x0), some (.int x1), some (.int x2)], [.int ((x0 &&& (65280 : Int32)) ||| x2)])) (w' := (mk s t)) (ob := true) e_54 hk_54 5 rfl rfl ?_
    refine xOK_fg [0, 1, 2] ?_
    exact t_Bus_withByte_26 s t q _  h
  · have h := xif_pos c1 h
    refine xOK_steps (fr' := (18, [some (.int x0), some (.int x1), some (.int x2)], [.int ((x0 &&& (255 : Int32)) ||| (x2 <<< ((8 : Int32) &&& 31)))])) (w' := (mk s t)) (ob := true) e_54 hk_54 8 rfl rfl ?_
    refine xOK_fg [0, 1, 2] ?_
    exact t_Bus_withByte_26 s t q _  h
set_option maxRecDepth 100000 in
set_option maxHeartbeats 4000000 in
theorem t_M_inFram_19 (s t : xS) (q : Int32) (y0 : Int32)  (h : f_M_inFram_19 y0  = some q) : xOK 104 none (xEnd 104 (some q) (mk s t)) (9, [none], [.int y0]) (mk s t) 0 0 := by
  unfold f_M_inFram_19 at h
  by_cases o1 : xbl y0 = true
  case neg => have h := xif_neg o1 h; cases h
  have h := xif_pos o1 h
  cases h
  exact xu_iret e_104 hk_104 rfl o1 rfl
set_option maxRecDepth 100000 in
set_option maxHeartbeats 4000000 in
theorem t_M_inFram_18 (s t : xS) (q : Int32)  (h : f_M_inFram_18   = some q) : xOK 104 none (xEnd 104 (some q) (mk s t)) (8, [none], []) (mk s t) 0 0 := by
  unfold f_M_inFram_18 at h
  refine xOK_steps (fr' := (9, [none], [.int (0 : Int32)])) (w' := (mk s t)) (ob := true) e_104 hk_104 1 rfl rfl ?_
  exact t_M_inFram_19 s t q _  h
set_option maxRecDepth 100000 in
set_option maxHeartbeats 4000000 in
theorem m_M_inFram (x0 : Int32) (s t : xS) (q : Int32) (h : f_M_inFram x0  = some q) : xMet 104 [.int x0] (mk s t) (some q) (mk s t) := by
  refine xMet_of hk_104 rfl rfl rfl ?_
  refine xOK_eq (fr := (0, [some (.int x0)], [])) rfl ?_
  unfold f_M_inFram at h
  refine xOK_steps (fr' := (2, [some (.int x0)], [.int (1024 : Int32), .int x0])) (w' := (mk s t)) (ob := true) e_104 hk_104 2 rfl rfl ?_
  refine xu_icmp_lt e_104 hk_104 rfl (fun c2 => ?_) (fun c2 => ?_)
  · have h := xif_pos c2 h
    refine xOK_fg [0] ?_
    exact t_M_inFram_18 s t q   h
  · have h := xif_neg c2 h
    refine xOK_steps (fr' := (5, [some (.int x0)], [.int (1279 : Int32), .int x0])) (w' := (mk s t)) (ob := true) e_104 hk_104 2 rfl rfl ?_
    refine xu_icmp_gt e_104 hk_104 rfl (fun c3 => ?_) (fun c3 => ?_)
    · have h := xif_pos c3 h
      refine xOK_fg [0] ?_
      exact t_M_inFram_18 s t q   h
    · have h := xif_neg c3 h
      refine xOK_steps (fr' := (9, [some (.int x0)], [.int (1 : Int32)])) (w' := (mk s t)) (ob := true) e_104 hk_104 2 rfl rfl ?_
      refine xOK_fg [0] ?_
      exact t_M_inFram_19 s t q _  h
set_option maxRecDepth 100000 in
set_option maxHeartbeats 4000000 in
theorem t_M_inSram_19 (s t : xS) (q : Int32) (y0 : Int32)  (h : f_M_inSram_19 y0  = some q) : xOK 103 none (xEnd 103 (some q) (mk s t)) (9, [none], [.int y0]) (mk s t) 0 0 := by
  unfold f_M_inSram_19 at h
  by_cases o1 : xbl y0 = true
  case neg => have h := xif_neg o1 h; cases h
  have h := xif_pos o1 h
  cases h
  exact xu_iret e_103 hk_103 rfl o1 rfl
set_option maxRecDepth 100000 in
set_option maxHeartbeats 4000000 in
theorem t_M_inSram_18 (s t : xS) (q : Int32)  (h : f_M_inSram_18   = some q) : xOK 103 none (xEnd 103 (some q) (mk s t)) (8, [none], []) (mk s t) 0 0 := by
  unfold f_M_inSram_18 at h
  refine xOK_steps (fr' := (9, [none], [.int (0 : Int32)])) (w' := (mk s t)) (ob := true) e_103 hk_103 1 rfl rfl ?_
  exact t_M_inSram_19 s t q _  h
set_option maxRecDepth 100000 in
set_option maxHeartbeats 4000000 in
theorem m_M_inSram (x0 : Int32) (s t : xS) (q : Int32) (h : f_M_inSram x0  = some q) : xMet 103 [.int x0] (mk s t) (some q) (mk s t) := by
  refine xMet_of hk_103 rfl rfl rfl ?_
  refine xOK_eq (fr := (0, [some (.int x0)], [])) rfl ?_
  unfold f_M_inSram at h
  refine xOK_steps (fr' := (2, [some (.int x0)], [.int (512 : Int32), .int x0])) (w' := (mk s t)) (ob := true) e_103 hk_103 2 rfl rfl ?_
  refine xu_icmp_lt e_103 hk_103 rfl (fun c2 => ?_) (fun c2 => ?_)
  · have h := xif_pos c2 h
    refine xOK_fg [0] ?_
    exact t_M_inSram_18 s t q   h
  · have h := xif_neg c2 h
    refine xOK_steps (fr' := (5, [some (.int x0)], [.int (543 : Int32), .int x0])) (w' := (mk s t)) (ob := true) e_103 hk_103 2 rfl rfl ?_
    refine xu_icmp_gt e_103 hk_103 rfl (fun c3 => ?_) (fun c3 => ?_)
    · have h := xif_pos c3 h
      refine xOK_fg [0] ?_
      exact t_M_inSram_18 s t q   h
    · have h := xif_neg c3 h
      refine xOK_steps (fr' := (9, [some (.int x0)], [.int (1 : Int32)])) (w' := (mk s t)) (ob := true) e_103 hk_103 2 rfl rfl ?_
      refine xOK_fg [0] ?_
      exact t_M_inSram_19 s t q _  h
set_option maxRecDepth 100000 in
set_option maxHeartbeats 4000000 in
theorem t_M_merged_39 (s t : xS) (q : Int32) (y0 : Int32)  (h : f_M_merged_39 y0  = some q) : xOK 109 none (xEnd 109 (some q) (mk s t)) (23, [none, none, none, none], [.int y0]) (mk s t) 0 0 := by
  unfold f_M_merged_39 at h
  cases h
  exact xu_iret e_109 hk_109 rfl rfl rfl
set_option maxRecDepth 100000 in
set_option maxHeartbeats 4000000 in
theorem m_M_merged (x0 x1 x2 x3 : Int32) (s t : xS) (q : Int32) (h : f_M_merged x0 x1 x2 x3  = some q) : xMet 109 [.int x0, .int x1, .int x2, .int x3] (mk s t) (some q) (mk s t) := by
  refine xMet_of hk_109 rfl rfl rfl ?_
  refine xOK_eq (fr := (0, [some (.int x0), some (.int x1), some (.int x2), some (.int x3)], [])) rfl ?_
  unfold f_M_merged at h
  refine xOK_steps (fr' := (1, [some (.int x0), some (.int x1), some (.int x2), some (.int x3)], [.int x3])) (w' := (mk s t)) (ob := true) e_109 hk_109 1 rfl rfl ?_
  refine xu_if_ne e_109 hk_109 rfl (fun c1 => ?_) (fun c1 => ?_)
  · have h := xif_neg c1 h
    refine xOK_steps (fr' := (7, [some (.int x0), some (.int x1), some (.int x2), some (.int x3)], [.int (xrem x1 (2 : Int32))])) (w' := (mk s t)) (ob := true) e_109 hk_109 3 rfl rfl ?_
    refine xu_if_ne e_109 hk_109 rfl (fun c2 => ?_) (fun c2 => ?_)
    · have h := xif_neg c2 h
      refine xOK_steps (fr' := (23, [some (.int x0), some (.int x1), some (.int x2), some (.int x3)], [.int ((x2 * (256 : Int32)) + (xrem x0 (256 : Int32)))])) (w' := (mk s t)) (ob := true) e_109 hk_109 7 rfl rfl ?_
      refine xOK_fg [0, 1, 2, 3] ?_
      exact t_M_merged_39 s t q _  h
    · have h := xif_pos c2 h
      refine xOK_steps (fr' := (23, [some (.int x0), some (.int x1), some (.int x2), some (.int x3)], [.int (((x0 / (256 : Int32)) * (256 : Int32)) + x2)])) (w' := (mk s t)) (ob := true) e_109 hk_109 8 rfl rfl ?_
      refine xOK_fg [0, 1, 2, 3] ?_
      exact t_M_merged_39 s t q _  h
  · have h := xif_pos c1 h
    refine xOK_steps (fr' := (23, [some (.int x0), some (.int x1), some (.int x2), some (.int x3)], [.int x2])) (w' := (mk s t)) (ob := true) e_109 hk_109 2 rfl rfl ?_
    refine xOK_fg [0, 1, 2, 3] ?_
    exact t_M_merged_39 s t q _  h
set_option maxRecDepth 100000 in
set_option maxHeartbeats 4000000 in
theorem t_M_signed_14 (s t : xS) (q : Int32) (y0 : Int32)  (h : f_M_signed_14 y0  = some q) : xOK 119 none (xEnd 119 (some q) (mk s t)) (10, [none, none], [.int y0]) (mk s t) 0 0 := by
  unfold f_M_signed_14 at h
  cases h
  exact xu_iret e_119 hk_119 rfl rfl rfl
set_option maxRecDepth 100000 in
set_option maxHeartbeats 4000000 in
theorem m_M_signed (x0 x1 : Int32) (s t : xS) (q : Int32) (h : f_M_signed x0 x1  = some q) : xMet 119 [.int x0, .int x1] (mk s t) (some q) (mk s t) := by
  refine xMet_of hk_119 rfl rfl rfl ?_
  refine xOK_eq (fr := (0, [some (.int x0), some (.int x1)], [])) rfl ?_
  unfold f_M_signed at h
  refine xOK_steps (fr' := (4, [some (.int x0), some (.int x1)], [.int (x1 / (2 : Int32)), .int x0])) (w' := (mk s t)) (ob := true) e_119 hk_119 4 rfl rfl ?_
  refine xu_icmp_lt e_119 hk_119 rfl (fun c1 => ?_) (fun c1 => ?_)
  · have h := xif_pos c1 h
    refine xOK_steps (fr' := (10, [some (.int x0), some (.int x1)], [.int x0])) (w' := (mk s t)) (ob := true) e_119 hk_119 1 rfl rfl ?_
    refine xOK_fg [0, 1] ?_
    exact t_M_signed_14 s t q _  h
  · have h := xif_neg c1 h
    refine xOK_steps (fr' := (10, [some (.int x0), some (.int x1)], [.int (x0 - x1)])) (w' := (mk s t)) (ob := true) e_119 hk_119 4 rfl rfl ?_
    refine xOK_fg [0, 1] ?_
    exact t_M_signed_14 s t q _  h
end
section
set_option maxRecDepth 100000 in
set_option maxHeartbeats 4000000 in
theorem t_C_load_14 (t : xS) (q : (Int32 × xS)) (s : xS) (h : f_C_load_14  s = some q) : xOK 1 none (xEnd 1 (some q.1) (mk q.2 t)) (6, [none, none, none], []) (mk s t) 0 0 := by
  unfold f_C_load_14 at h
  refine xOK_steps (fr' := (7, [none, none, none], [.int (0 : Int32)])) (w' := (mk s t)) (ob := true) e_1 hk_1 1 rfl rfl ?_
  cases h
  exact xu_iret e_1 hk_1 rfl rfl rfl
set_option maxRecDepth 100000 in
set_option maxHeartbeats 4000000 in
theorem m_C_load (x1 x2 : Int32) (s t : xS) (q : (Int32 × xS)) (h : f_C_load x1 x2 s = some q) : xMet 1 [.ref 0, .int x1, .int x2] (mk s t) (some q.1) (mk q.2 t) := by
  refine xMet_of hk_1 rfl rfl rfl ?_
  refine xOK_eq (fr := (0, [some (.ref 0), some (.int x1), some (.int x2)], [])) rfl ?_
  unfold f_C_load at h
  refine xOK_steps (fr' := (2, [some (.ref 0), some (.int x1), some (.int x2)], [.int (s.1 0)])) (w' := (mk s t)) (ob := true) e_1 hk_1 2 rfl rfl ?_
  refine xu_if_ne e_1 hk_1 rfl (fun c1 => ?_) (fun c1 => ?_)
  · have h := xif_neg c1 h
    refine xOK_fg [0, 1, 2] ?_
    exact t_C_load_14 t q  _ h
  · have h := xif_pos c1 h
    refine xOK_steps (fr' := (4, [some (.ref 0), some (.int x1), some (.int x2)], [.int x1])) (w' := (mk s t)) (ob := true) e_1 hk_1 1 rfl rfl ?_
    obtain ⟨q2, e3, h⟩ := Option.bind_eq_some_iff.mp h
    refine xu_calls (r := (some q2)) (av := [.int x1]) (st := []) (w1 := (mk s t)) e_1 hk_1 rfl rfl (m_C_isFramWord _ _ _ _ e3) rfl rfl rfl rfl ?_
    refine xu_if_ne e_1 hk_1 rfl (fun c4 => ?_) (fun c4 => ?_)
    · have h := xif_neg c4 h
      by_cases o5 : xin x1 128 = true
      case neg => have h := xif_neg o5 h; cases h
      have h := xif_pos o5 h
      refine xOK_steps (fr' := (17, [some (.ref 0), some (.int x1), some (.int x2)], [.int (1 : Int32)])) (w' := (mk (xsa s 1 (x1).toNatClampNeg (x2 &&& (65535 : Int32))) t)) (ob := xin x1 128 && (true)) e_1 hk_1 9 rfl (xand o5 rfl) ?_
      cases h
      exact xu_iret e_1 hk_1 rfl rfl rfl
    · have h := xif_pos c4 h
      refine xOK_fg [0, 1, 2] ?_
      exact t_C_load_14 t q  _ h
set_option maxRecDepth 100000 in
set_option maxHeartbeats 4000000 in
theorem m_Keeper_keepVolatile (s t : xS) (q : xS) (h : f_Keeper_keepVolatile  s = some q) : xMet 89 [.ref 19] (mk s t) none (mk q t) := by
  refine xMet_of hk_89 rfl rfl rfl ?_
  refine xOK_eq (fr := (0, [some (.ref 19)], [])) rfl ?_
  unfold f_Keeper_keepVolatile at h
  refine xOK_steps (fr' := (8, [some (.ref 19)], [.int (16 : Int32), .int (0 : Int32), .ref 21, .int (0 : Int32), .ref 18])) (w' := (mk s t)) (ob := true) e_89 hk_89 8 rfl rfl ?_
  refine xu_copy (n := 16) (q0 := 18) (q1 := 21) (w1 := (mk (xsf s 11 (va_cpy (s.2 10) (s.2 11) 0 0 16)) t)) e_89 hk_89 rfl rfl rfl rfl rfl rfl ?_
  refine xOK_steps (fr' := (17, [some (.ref 19)], [.int (16 : Int32), .int (0 : Int32), .ref 22, .int (0 : Int32), .ref 16])) (w' := (mk (xsf s 11 (va_cpy (s.2 10) (s.2 11) 0 0 16)) t)) (ob := true) e_89 hk_89 8 rfl rfl ?_
  refine xu_copy (n := 16) (q0 := 16) (q1 := 22) (w1 := (mk (xsf (xsf s 11 (va_cpy (s.2 10) (s.2 11) 0 0 16)) 12 (va_cpy (s.2 9) (s.2 12) 0 0 16)) t)) e_89 hk_89 rfl rfl rfl rfl rfl rfl ?_
  cases h
  exact xu_vret e_89 hk_89 rfl rfl
set_option maxRecDepth 100000 in
set_option maxHeartbeats 4000000 in
theorem m_C_start (x1 : Int32) (s t : xS) (q : (Int32 × xS)) (h : f_C_start x1 s = some q) : xMet 2 [.ref 0, .int x1] (mk s t) (some q.1) (mk q.2 t) := by
  refine xMet_of hk_2 rfl rfl rfl ?_
  refine xOK_eq (fr := (0, [some (.ref 0), some (.int x1)], [])) rfl ?_
  unfold f_C_start at h
  refine xOK_steps (fr' := (2, [some (.ref 0), some (.int x1)], [.int (s.1 0)])) (w' := (mk s t)) (ob := true) e_2 hk_2 2 rfl rfl ?_
  refine xu_if_eq e_2 hk_2 rfl (fun c1 => ?_) (fun c1 => ?_)
  · have h := xif_pos c1 h
    refine xOK_steps (fr' := (15, [some (.ref 0), some (.int x1)], [.ref 19])) (w' := (mk (xsa s 10 0 (x1 &&& (65534 : Int32))) t)) (ob := true) e_2 hk_2 10 rfl rfl ?_
    obtain ⟨q2, e3, h⟩ := Option.bind_eq_some_iff.mp h
    refine xu_callv (q := 19) (r := none) (av := []) (st := []) (w1 := (mk q2 t)) e_2 hk_2 rfl (m_Keeper_keepVolatile  _ _ _ e3) rfl rfl rfl rfl rfl ?_
    refine xOK_steps (fr' := (24, [some (.ref 0), some (.int x1)], [.int (1 : Int32)])) (w' := (mk (xsc (xsc q2 1 (1 : Int32)) 0 (1 : Int32)) t)) (ob := true) e_2 hk_2 8 rfl rfl ?_
    cases h
    exact xu_iret e_2 hk_2 rfl rfl rfl
  · have h := xif_neg c1 h
    refine xOK_steps (fr' := (4, [some (.ref 0), some (.int x1)], [.int (0 : Int32)])) (w' := (mk s t)) (ob := true) e_2 hk_2 1 rfl rfl ?_
    cases h
    exact xu_iret e_2 hk_2 rfl rfl rfl
set_option maxRecDepth 100000 in
set_option maxHeartbeats 4000000 in
theorem m_Samples_append (x1 : Int32) (s t : xS) (q : (Int32 × xS)) (h : f_Samples_append x1 s = some q) : xMet 32 [.ref 7, .int x1] (mk s t) (some q.1) (mk q.2 t) := by
  refine xMet_of hk_32 rfl rfl rfl ?_
  refine xOK_eq (fr := (0, [some (.ref 7), some (.int x1)], [])) rfl ?_
  unfold f_Samples_append at h
  refine xOK_steps (fr' := (3, [some (.ref 7), some (.int x1)], [.int (16 : Int32), .int (s.1 6)])) (w' := (mk s t)) (ob := true) e_32 hk_32 3 rfl rfl ?_
  refine xu_icmp_lt e_32 hk_32 rfl (fun c1 => ?_) (fun c1 => ?_)
  · have h := xif_pos c1 h
    by_cases o2 : xin (xrem ((s.1 5) + (s.1 6)) (16 : Int32)) 16 = true
    case neg => have h := xif_neg o2 h; cases h
    have h := xif_pos o2 h
    refine xOK_steps (fr' := (24, [some (.ref 7), some (.int x1)], [.int (1 : Int32)])) (w' := (mk (xsc (xsa s 4 (xrem ((s.1 5) + (s.1 6)) (16 : Int32)).toNatClampNeg x1) 6 ((s.1 6) + (1 : Int32))) t)) (ob := xin (xrem ((s.1 5) + (s.1 6)) (16 : Int32)) 16 && (true)) e_32 hk_32 18 rfl (xand o2 rfl) ?_
    cases h
    exact xu_iret e_32 hk_32 rfl rfl rfl
  · have h := xif_neg c1 h
    refine xOK_steps (fr' := (5, [some (.ref 7), some (.int x1)], [.int (0 : Int32)])) (w' := (mk s t)) (ob := true) e_32 hk_32 1 rfl rfl ?_
    cases h
    exact xu_iret e_32 hk_32 rfl rfl rfl
set_option maxRecDepth 100000 in
set_option maxHeartbeats 4000000 in
theorem m_C_sample (x1 : Int32) (s t : xS) (q : (Int32 × xS)) (h : f_C_sample x1 s = some q) : xMet 3 [.ref 0, .int x1] (mk s t) (some q.1) (mk q.2 t) := by
  refine xMet_of hk_3 rfl rfl rfl ?_
  refine xOK_eq (fr := (0, [some (.ref 0), some (.int x1)], [])) rfl ?_
  unfold f_C_sample at h
  refine xOK_steps (fr' := (5, [some (.ref 0), some (.int x1)], [.int (x1 &&& (65535 : Int32)), .ref 7])) (w' := (mk s t)) (ob := true) e_3 hk_3 5 rfl rfl ?_
  obtain ⟨q1, e2, h⟩ := Option.bind_eq_some_iff.mp h
  refine xu_callv (q := 7) (r := (some q1.1)) (av := [.int (x1 &&& (65535 : Int32))]) (st := []) (w1 := (mk q1.2 t)) e_3 hk_3 rfl (m_Samples_append _ _ _ _ e2) rfl rfl rfl rfl rfl ?_
  by_cases o3 : xbl q1.1 = true
  case neg => have h := xif_neg o3 h; cases h
  have h := xif_pos o3 h
  cases h
  exact xu_iret e_3 hk_3 rfl o3 rfl
set_option maxRecDepth 100000 in
set_option maxHeartbeats 4000000 in
theorem t_Power_tell_11 (t : xS) (q : (Int32 × xS)) (s : xS) (h : f_Power_tell_11  s = some q) : xOK 23 none (xEnd 23 (some q.1) (mk q.2 t)) (5, [none, none, none], []) (mk s t) 0 0 := by
  unfold f_Power_tell_11 at h
  refine xOK_steps (fr' := (6, [none, none, none], [.int (0 : Int32)])) (w' := (mk s t)) (ob := true) e_23 hk_23 1 rfl rfl ?_
  cases h
  exact xu_iret e_23 hk_23 rfl rfl rfl
set_option maxRecDepth 100000 in
set_option maxHeartbeats 4000000 in
theorem m_Power_tell (x1 x2 : Int32) (s t : xS) (q : (Int32 × xS)) (h : f_Power_tell x1 x2 s = some q) : xMet 23 [.ref 1, .int x1, .int x2] (mk s t) (some q.1) (mk q.2 t) := by
  refine xMet_of hk_23 rfl rfl rfl ?_
  refine xOK_eq (fr := (0, [some (.ref 1), some (.int x1), some (.int x2)], [])) rfl ?_
  unfold f_Power_tell at h
  refine xOK_steps (fr' := (1, [some (.ref 1), some (.int x1), some (.int x2)], [.int x2])) (w' := (mk s t)) (ob := true) e_23 hk_23 1 rfl rfl ?_
  refine xu_if_lt e_23 hk_23 rfl (fun c1 => ?_) (fun c1 => ?_)
  · have h := xif_pos c1 h
    refine xOK_fg [0, 1, 2] ?_
    exact t_Power_tell_11 t q  _ h
  · have h := xif_neg c1 h
    refine xOK_steps (fr' := (4, [some (.ref 1), some (.int x1), some (.int x2)], [.int (1000 : Int32), .int x2])) (w' := (mk s t)) (ob := true) e_23 hk_23 2 rfl rfl ?_
    refine xu_icmp_le e_23 hk_23 rfl (fun c2 => ?_) (fun c2 => ?_)
    · have h := xif_pos c2 h
      by_cases o3 : xin x1 2 = true
      case neg => have h := xif_neg o3 h; cases h
      have h := xif_pos o3 h
      refine xOK_steps (fr' := (13, [some (.ref 1), some (.int x1), some (.int x2)], [.int (1 : Int32)])) (w' := (mk (xsa s 0 (x1).toNatClampNeg x2) t)) (ob := xin x1 2 && (true)) e_23 hk_23 6 rfl (xand o3 rfl) ?_
      cases h
      exact xu_iret e_23 hk_23 rfl rfl rfl
    · have h := xif_neg c2 h
      refine xOK_fg [0, 1, 2] ?_
      exact t_Power_tell_11 t q  _ h
set_option maxRecDepth 100000 in
set_option maxHeartbeats 4000000 in
theorem m_C_failWrite (x1 : Int32) (s t : xS) (q : (Int32 × xS)) (h : f_C_failWrite x1 s = some q) : xMet 4 [.ref 0, .int x1] (mk s t) (some q.1) (mk q.2 t) := by
  refine xMet_of hk_4 rfl rfl rfl ?_
  refine xOK_eq (fr := (0, [some (.ref 0), some (.int x1)], [])) rfl ?_
  unfold f_C_failWrite at h
  refine xOK_steps (fr' := (4, [some (.ref 0), some (.int x1)], [.int x1, .int (0 : Int32), .ref 1])) (w' := (mk s t)) (ob := true) e_4 hk_4 4 rfl rfl ?_
  obtain ⟨q1, e2, h⟩ := Option.bind_eq_some_iff.mp h
  refine xu_callv (q := 1) (r := (some q1.1)) (av := [.int (0 : Int32), .int x1]) (st := []) (w1 := (mk q1.2 t)) e_4 hk_4 rfl (m_Power_tell _ _ _ _ _ e2) rfl rfl rfl rfl rfl ?_
  by_cases o3 : xbl q1.1 = true
  case neg => have h := xif_neg o3 h; cases h
  have h := xif_pos o3 h
  cases h
  exact xu_iret e_4 hk_4 rfl o3 rfl
set_option maxRecDepth 100000 in
set_option maxHeartbeats 4000000 in
theorem m_C_failStep (x1 : Int32) (s t : xS) (q : (Int32 × xS)) (h : f_C_failStep x1 s = some q) : xMet 5 [.ref 0, .int x1] (mk s t) (some q.1) (mk q.2 t) := by
  refine xMet_of hk_5 rfl rfl rfl ?_
  refine xOK_eq (fr := (0, [some (.ref 0), some (.int x1)], [])) rfl ?_
  unfold f_C_failStep at h
  refine xOK_steps (fr' := (4, [some (.ref 0), some (.int x1)], [.int x1, .int (1 : Int32), .ref 1])) (w' := (mk s t)) (ob := true) e_5 hk_5 4 rfl rfl ?_
  obtain ⟨q1, e2, h⟩ := Option.bind_eq_some_iff.mp h
  refine xu_callv (q := 1) (r := (some q1.1)) (av := [.int (1 : Int32), .int x1]) (st := []) (w1 := (mk q1.2 t)) e_5 hk_5 rfl (m_Power_tell _ _ _ _ _ e2) rfl rfl rfl rfl rfl ?_
  by_cases o3 : xbl q1.1 = true
  case neg => have h := xif_neg o3 h; cases h
  have h := xif_pos o3 h
  cases h
  exact xu_iret e_5 hk_5 rfl o3 rfl
set_option maxRecDepth 100000 in
set_option maxHeartbeats 4000000 in
theorem t_J_fill_5 (t : xS) (q : xS) : ∀ (n : Nat), ∀ (x1 x2 x3 : Int32) (s : xS), f_J_fill_5 n x1 x2 x3 s = some q → xOK 147 none (xEnd 147 none (mk q t)) (5, [some (.ref 18), some (.int x1), some (.int x2), some (.int x3)], []) (mk s t) 0 0 := by
  intro n
  induction n with
  | zero => intro x1 x2 x3 s h; cases h
  | succ n ih =>
    intro x1 x2 x3 s h
    unfold f_J_fill_5 at h
    refine xOK_steps (fr' := (7, [some (.ref 18), some (.int x1), some (.int x2), some (.int x3)], [.int x3, .int x2])) (w' := (mk s t)) (ob := true) e_147 hk_147 2 rfl rfl ?_
    refine xu_icmp_ge e_147 hk_147 rfl (fun c1 => ?_) (fun c1 => ?_)
    · have h := xif_pos c1 h
      cases h
      exact xu_vret e_147 hk_147 rfl rfl
    · have h := xif_neg c1 h
      by_cases o2 : xin x2 16 = true
      case neg => have h := xif_neg o2 h; cases h
      have h := xif_pos o2 h
      refine xOK_steps (fr' := (5, [some (.ref 18), some (.int x1), some (.int (x2 + (1 : Int32))), some (.int x3)], [])) (w' := (mk (xsa s 10 (x2).toNatClampNeg x1) t)) (ob := xin x2 16 && (true)) e_147 hk_147 6 rfl (xand o2 rfl) ?_
      exact ih _ _ _ _ h
set_option maxRecDepth 100000 in
set_option maxHeartbeats 4000000 in
theorem m_J_fill (x1 : Int32) (s t : xS) (q : xS) (h : f_J_fill x1 s = some q) : xMet 147 [.ref 18, .int x1] (mk s t) none (mk q t) := by
  refine xMet_of hk_147 rfl rfl rfl ?_
  refine xOK_eq (fr := (0, [some (.ref 18), some (.int x1), none, none], [])) rfl ?_
  unfold f_J_fill at h
  refine xOK_steps (fr' := (5, [some (.ref 18), some (.int x1), some (.int (0 : Int32)), some (.int (16 : Int32))], [])) (w' := (mk s t)) (ob := true) e_147 hk_147 5 rfl rfl ?_
  exact t_J_fill_5 t q _ _ _ _ _ h
set_option maxRecDepth 100000 in
set_option maxHeartbeats 4000000 in
theorem t_J_fill_1_5 (t : xS) (q : xS) : ∀ (n : Nat), ∀ (x1 x2 x3 : Int32) (s : xS), f_J_fill_1_5 n x1 x2 x3 s = some q → xOK 147 none (xEnd 147 none (mk q t)) (5, [some (.ref 16), some (.int x1), some (.int x2), some (.int x3)], []) (mk s t) 0 0 := by
  intro n
  induction n with
  | zero => intro x1 x2 x3 s h; cases h
  | succ n ih =>
    intro x1 x2 x3 s h
    unfold f_J_fill_1_5 at h
    refine xOK_steps (fr' := (7, [some (.ref 16), some (.int x1), some (.int x2), some (.int x3)], [.int x3, .int x2])) (w' := (mk s t)) (ob := true) e_147 hk_147 2 rfl rfl ?_
    refine xu_icmp_ge e_147 hk_147 rfl (fun c1 => ?_) (fun c1 => ?_)
    · have h := xif_pos c1 h
      cases h
      exact xu_vret e_147 hk_147 rfl rfl
    · have h := xif_neg c1 h
      by_cases o2 : xin x2 16 = true
      case neg => have h := xif_neg o2 h; cases h
      have h := xif_pos o2 h
      refine xOK_steps (fr' := (5, [some (.ref 16), some (.int x1), some (.int (x2 + (1 : Int32))), some (.int x3)], [])) (w' := (mk (xsa s 9 (x2).toNatClampNeg x1) t)) (ob := xin x2 16 && (true)) e_147 hk_147 6 rfl (xand o2 rfl) ?_
      exact ih _ _ _ _ h
set_option maxRecDepth 100000 in
set_option maxHeartbeats 4000000 in
theorem m_J_fill_1 (x1 : Int32) (s t : xS) (q : xS) (h : f_J_fill_1 x1 s = some q) : xMet 147 [.ref 16, .int x1] (mk s t) none (mk q t) := by
  refine xMet_of hk_147 rfl rfl rfl ?_
  refine xOK_eq (fr := (0, [some (.ref 16), some (.int x1), none, none], [])) rfl ?_
  unfold f_J_fill_1 at h
  refine xOK_steps (fr' := (5, [some (.ref 16), some (.int x1), some (.int (0 : Int32)), some (.int (16 : Int32))], [])) (w' := (mk s t)) (ob := true) e_147 hk_147 5 rfl rfl ?_
  exact t_J_fill_1_5 t q _ _ _ _ _ h
set_option maxRecDepth 100000 in
set_option maxHeartbeats 4000000 in
theorem t_J_fill_2_5 (t : xS) (q : xS) : ∀ (n : Nat), ∀ (x1 x2 x3 : Int32) (s : xS), f_J_fill_2_5 n x1 x2 x3 s = some q → xOK 147 none (xEnd 147 none (mk q t)) (5, [some (.ref 10), some (.int x1), some (.int x2), some (.int x3)], []) (mk s t) 0 0 := by
  intro n
  induction n with
  | zero => intro x1 x2 x3 s h; cases h
  | succ n ih =>
    intro x1 x2 x3 s h
    unfold f_J_fill_2_5 at h
    refine xOK_steps (fr' := (7, [some (.ref 10), some (.int x1), some (.int x2), some (.int x3)], [.int x3, .int x2])) (w' := (mk s t)) (ob := true) e_147 hk_147 2 rfl rfl ?_
    refine xu_icmp_ge e_147 hk_147 rfl (fun c1 => ?_) (fun c1 => ?_)
    · have h := xif_pos c1 h
      cases h
      exact xu_vret e_147 hk_147 rfl rfl
    · have h := xif_neg c1 h
      by_cases o2 : xin x2 128 = true
      case neg => have h := xif_neg o2 h; cases h
      have h := xif_pos o2 h
      refine xOK_steps (fr' := (5, [some (.ref 10), some (.int x1), some (.int (x2 + (1 : Int32))), some (.int x3)], [])) (w' := (mk (xsa s 5 (x2).toNatClampNeg x1) t)) (ob := xin x2 128 && (true)) e_147 hk_147 6 rfl (xand o2 rfl) ?_
      exact ih _ _ _ _ h
set_option maxRecDepth 100000 in
set_option maxHeartbeats 4000000 in
theorem m_J_fill_2 (x1 : Int32) (s t : xS) (q : xS) (h : f_J_fill_2 x1 s = some q) : xMet 147 [.ref 10, .int x1] (mk s t) none (mk q t) := by
  refine xMet_of hk_147 rfl rfl rfl ?_
  refine xOK_eq (fr := (0, [some (.ref 10), some (.int x1), none, none], [])) rfl ?_
  unfold f_J_fill_2 at h
  refine xOK_steps (fr' := (5, [some (.ref 10), some (.int x1), some (.int (0 : Int32)), some (.int (128 : Int32))], [])) (w' := (mk s t)) (ob := true) e_147 hk_147 5 rfl rfl ?_
  exact t_J_fill_2_5 t q _ _ _ _ _ h
set_option maxRecDepth 100000 in
set_option maxHeartbeats 4000000 in
theorem m_Held_clear (s t : xS) (q : xS) (h : f_Held_clear  s = some q) : xMet 35 [.ref 11] (mk s t) none (mk q t) := by
  refine xMet_of hk_35 rfl rfl rfl ?_
  refine xOK_eq (fr := (0, [some (.ref 11)], [])) rfl ?_
  unfold f_Held_clear at h
  refine xOK_steps (fr' := (6, [some (.ref 11)], [])) (w' := (mk (xsc (xsc s 10 (0 : Int32)) 11 (0 : Int32)) t)) (ob := true) e_35 hk_35 6 rfl rfl ?_
  cases h
  exact xu_vret e_35 hk_35 rfl rfl
set_option maxRecDepth 100000 in
set_option maxHeartbeats 4000000 in
theorem m_Section_begin (s t : xS) (q : xS) (h : f_Section_begin  s = some q) : xMet 41 [.ref 9] (mk s t) none (mk q t) := by
  refine xMet_of hk_41 rfl rfl rfl ?_
  refine xOK_eq (fr := (0, [some (.ref 9)], [])) rfl ?_
  unfold f_Section_begin at h
  refine xOK_steps (fr' := (3, [some (.ref 9)], [.int (0 : Int32), .ref 10])) (w' := (mk s t)) (ob := true) e_41 hk_41 3 rfl rfl ?_
  obtain ⟨q1, e2, h⟩ := Option.bind_eq_some_iff.mp h
  refine xu_calls (r := none) (av := [.ref 10, .int (0 : Int32)]) (st := []) (w1 := (mk q1 t)) e_41 hk_41 rfl rfl (m_J_fill_2 _ _ _ _ e2) rfl rfl rfl rfl ?_
  refine xOK_steps (fr' := (6, [some (.ref 9)], [.ref 11])) (w' := (mk q1 t)) (ob := true) e_41 hk_41 2 rfl rfl ?_
  obtain ⟨q3, e4, h⟩ := Option.bind_eq_some_iff.mp h
  refine xu_callv (q := 11) (r := none) (av := []) (st := []) (w1 := (mk q3 t)) e_41 hk_41 rfl (m_Held_clear  _ _ _ e4) rfl rfl rfl rfl rfl ?_
  refine xOK_steps (fr' := (16, [some (.ref 9)], [])) (w' := (mk (xsc (xsc (xsc q3 7 (0 : Int32)) 8 (0 : Int32)) 9 (0 : Int32)) t)) (ob := true) e_41 hk_41 9 rfl rfl ?_
  cases h
  exact xu_vret e_41 hk_41 rfl rfl
set_option maxRecDepth 100000 in
set_option maxHeartbeats 4000000 in
theorem m_C_forget (s t : xS) (q : xS) (h : f_C_forget  s = some q) : xMet 21 [.ref 0] (mk s t) none (mk q t) := by
  refine xMet_of hk_21 rfl rfl rfl ?_
  refine xOK_eq (fr := (0, [some (.ref 0)], [])) rfl ?_
  unfold f_C_forget at h
  refine xOK_steps (fr' := (4, [some (.ref 0)], [.int (0 : Int32), .ref 18])) (w' := (mk s t)) (ob := true) e_21 hk_21 4 rfl rfl ?_
  obtain ⟨q1, e2, h⟩ := Option.bind_eq_some_iff.mp h
  refine xu_calls (r := none) (av := [.ref 18, .int (0 : Int32)]) (st := []) (w1 := (mk q1 t)) e_21 hk_21 rfl rfl (m_J_fill _ _ _ _ e2) rfl rfl rfl rfl ?_
  refine xOK_steps (fr' := (9, [some (.ref 0)], [.int (0 : Int32), .ref 16])) (w' := (mk q1 t)) (ob := true) e_21 hk_21 4 rfl rfl ?_
  obtain ⟨q3, e4, h⟩ := Option.bind_eq_some_iff.mp h
  refine xu_calls (r := none) (av := [.ref 16, .int (0 : Int32)]) (st := []) (w1 := (mk q3 t)) e_21 hk_21 rfl rfl (m_J_fill_1 _ _ _ _ e4) rfl rfl rfl rfl ?_
  refine xOK_steps (fr' := (12, [some (.ref 0)], [.ref 9])) (w' := (mk q3 t)) (ob := true) e_21 hk_21 2 rfl rfl ?_
  obtain ⟨q5, e6, h⟩ := Option.bind_eq_some_iff.mp h
  refine xu_callv (q := 9) (r := none) (av := []) (st := []) (w1 := (mk q5 t)) e_21 hk_21 rfl (m_Section_begin  _ _ _ e6) rfl rfl rfl rfl rfl ?_
  refine xOK_steps (fr' := (16, [some (.ref 0)], [])) (w' := (mk (xsc q5 0 (2 : Int32)) t)) (ob := true) e_21 hk_21 3 rfl rfl ?_
  cases h
  exact xu_vret e_21 hk_21 rfl rfl
set_option maxRecDepth 100000 in
set_option maxHeartbeats 4000000 in
theorem m_Bus_takeHalt (s t : xS) (q : (Int32 × xS)) (h : f_Bus_takeHalt  s = some q) : xMet 46 [.ref 15] (mk s t) (some q.1) (mk q.2 t) := by
  refine xMet_of hk_46 rfl rfl rfl ?_
  refine xOK_eq (fr := (0, [some (.ref 15), none], [])) rfl ?_
  unfold f_Bus_takeHalt at h
  refine xOK_steps (fr' := (7, [some (.ref 15), some (.int (s.1 12))], [.int (s.1 12)])) (w' := (mk (xsc s 12 (0 : Int32)) t)) (ob := true) e_46 hk_46 7 rfl rfl ?_
  by_cases o1 : xbl (s.1 12) = true
  case neg => have h := xif_neg o1 h; cases h
  have h := xif_pos o1 h
  cases h
  exact xu_iret e_46 hk_46 rfl o1 rfl
set_option maxRecDepth 100000 in
set_option maxHeartbeats 4000000 in
theorem t_Power_allows_78 (t : xS) (q : (Int32 × xS)) (s : xS) (h : f_Power_allows_78  s = some q) : xOK 24 none (xEnd 24 (some q.1) (mk q.2 t)) (48, [none, none], []) (mk s t) 0 0 := by
  unfold f_Power_allows_78 at h
  refine xOK_steps (fr' := (49, [none, none], [.int (1 : Int32)])) (w' := (mk s t)) (ob := true) e_24 hk_24 1 rfl rfl ?_
  cases h
  exact xu_iret e_24 hk_24 rfl rfl rfl
set_option maxRecDepth 100000 in
set_option maxHeartbeats 4000000 in
theorem t_Power_allows_64 (t : xS) (q : (Int32 × xS)) (x1 : Int32) (s : xS) (h : f_Power_allows_64 x1 s = some q) : xOK 24 none (xEnd 24 (some q.1) (mk q.2 t)) (40, [some (.ref 1), some (.int x1)], []) (mk s t) 0 0 := by
  unfold f_Power_allows_64 at h
  refine xOK_steps (fr' := (41, [some (.ref 1), some (.int x1)], [.int x1])) (w' := (mk s t)) (ob := true) e_24 hk_24 1 rfl rfl ?_
  refine xu_if_ne e_24 hk_24 rfl (fun c1 => ?_) (fun c1 => ?_)
  · have h := xif_neg c1 h
    refine xOK_fg [0, 1] ?_
    exact t_Power_allows_78 t q  _ h
  · have h := xif_pos c1 h
    refine xOK_steps (fr' := (48, [some (.ref 1), some (.int x1)], [])) (w' := (mk (xsc s 2 ((s.1 2) + (1 : Int32))) t)) (ob := true) e_24 hk_24 6 rfl rfl ?_
    refine xOK_fg [0, 1] ?_
    exact t_Power_allows_78 t q  _ h
set_option maxRecDepth 100000 in
set_option maxHeartbeats 4000000 in
theorem t_Power_allows_36 (t : xS) (q : (Int32 × xS)) (x1 : Int32) (s : xS) (h : f_Power_allows_36 x1 s = some q) : xOK 24 none (xEnd 24 (some q.1) (mk q.2 t)) (22, [some (.ref 1), some (.int x1)], []) (mk s t) 0 0 := by
  unfold f_Power_allows_36 at h
  refine xOK_steps (fr' := (24, [some (.ref 1), some (.int x1)], [.int (s.1 1)])) (w' := (mk s t)) (ob := true) e_24 hk_24 2 rfl rfl ?_
  refine xu_if_ne e_24 hk_24 rfl (fun c2 => ?_) (fun c2 => ?_)
  · have h := xif_neg c2 h
    by_cases o3 : xin x1 2 = true
    case neg => have h := xif_neg o3 h; cases h
    have h := xif_pos o3 h
    refine xOK_steps (fr' := (31, [some (.ref 1), some (.int x1)], [.int ((s.2 0) (x1).toNatClampNeg)])) (w' := (mk s t)) (ob := xin x1 2 && (true)) e_24 hk_24 4 rfl (xand o3 rfl) ?_
    refine xu_if_le e_24 hk_24 rfl (fun c4 => ?_) (fun c4 => ?_)
    · have h := xif_pos c4 h
      exact t_Power_allows_64 t q _ _ h
    · have h := xif_neg c4 h
      by_cases o5 : xin x1 2 = true
      case neg => have h := xif_neg o5 h; cases h
      have h := xif_pos o5 h
      by_cases o6 : xin x1 2 = true
      case neg => have h := xif_neg o6 h; cases h
      have h := xif_pos o6 h
      refine xOK_steps (fr' := (40, [some (.ref 1), some (.int x1)], [])) (w' := (mk (xsa s 0 (x1).toNatClampNeg (((s.2 0) (x1).toNatClampNeg) - (1 : Int32))) t)) (ob := xin x1 2 && (xin x1 2 && (true))) e_24 hk_24 8 rfl (xand o5 (xand o6 rfl)) ?_
      exact t_Power_allows_64 t q _ _ h
  · have h := xif_pos c2 h
    refine xOK_steps (fr' := (26, [some (.ref 1), some (.int x1)], [.int (0 : Int32)])) (w' := (mk s t)) (ob := true) e_24 hk_24 1 rfl rfl ?_
    cases h
    exact xu_iret e_24 hk_24 rfl rfl rfl
set_option maxRecDepth 100000 in
set_option maxHeartbeats 4000000 in
theorem m_Power_allows (x1 : Int32) (s t : xS) (q : (Int32 × xS)) (h : f_Power_allows x1 s = some q) : xMet 24 [.ref 1, .int x1] (mk s t) (some q.1) (mk q.2 t) := by
  refine xMet_of hk_24 rfl rfl rfl ?_
  refine xOK_eq (fr := (0, [some (.ref 1), some (.int x1)], [])) rfl ?_
  unfold f_Power_allows at h
  refine xOK_steps (fr' := (2, [some (.ref 1), some (.int x1)], [.int (s.1 1)])) (w' := (mk s t)) (ob := true) e_24 hk_24 2 rfl rfl ?_
  refine xu_if_eq e_24 hk_24 rfl (fun c7 => ?_) (fun c7 => ?_)
  · have h := xif_pos c7 h
    exact t_Power_allows_36 t q _ _ h
  · have h := xif_neg c7 h
    by_cases o8 : xin x1 2 = true
    case neg => have h := xif_neg o8 h; cases h
    have h := xif_pos o8 h
    refine xOK_steps (fr' := (8, [some (.ref 1), some (.int x1)], [.int (1 : Int32), .int ((s.2 0) (x1).toNatClampNeg)])) (w' := (mk s t)) (ob := xin x1 2 && (true)) e_24 hk_24 5 rfl (xand o8 rfl) ?_
    refine xu_icmp_ne e_24 hk_24 rfl (fun c9 => ?_) (fun c9 => ?_)
    · have h := xif_neg c9 h
      exact t_Power_allows_36 t q _ _ h
    · have h := xif_pos c9 h
      refine xOK_steps (fr' := (22, [some (.ref 1), some (.int x1)], [])) (w' := (mk (xsa (xsa (xsc s 1 (0 : Int32)) 0 0 (0 : Int32)) 0 1 (0 : Int32)) t)) (ob := true) e_24 hk_24 13 rfl rfl ?_
      exact t_Power_allows_36 t q _ _ h
set_option maxRecDepth 100000 in
set_option maxHeartbeats 4000000 in
theorem m_Held_copyFrom (s t : xS) (q : xS) (h : f_Held_copyFrom  s = some q) : xMet 36 [.ref 23, .ref 11] (mk s t) none (mk q t) := by
  refine xMet_of hk_36 rfl rfl rfl ?_
  refine xOK_eq (fr := (0, [some (.ref 23), some (.ref 11)], [])) rfl ?_
  unfold f_Held_copyFrom at h
  refine xOK_steps (fr' := (7, [some (.ref 23), some (.ref 11)], [.int (4 : Int32), .int (0 : Int32), .ref 24, .int (0 : Int32), .ref 12])) (w' := (mk s t)) (ob := true) e_36 hk_36 7 rfl rfl ?_
  refine xu_copy (n := 4) (q0 := 12) (q1 := 24) (w1 := (mk (xsf s 13 (va_cpy (s.2 6) (s.2 13) 0 0 4)) t)) e_36 hk_36 rfl rfl rfl rfl rfl rfl ?_
  refine xOK_steps (fr' := (15, [some (.ref 23), some (.ref 11)], [.int (4 : Int32), .int (0 : Int32), .ref 25, .int (0 : Int32), .ref 13])) (w' := (mk (xsf s 13 (va_cpy (s.2 6) (s.2 13) 0 0 4)) t)) (ob := true) e_36 hk_36 7 rfl rfl ?_
  refine xu_copy (n := 4) (q0 := 13) (q1 := 25) (w1 := (mk (xsf (xsf s 13 (va_cpy (s.2 6) (s.2 13) 0 0 4)) 14 (va_cpy (s.2 7) (s.2 14) 0 0 4)) t)) e_36 hk_36 rfl rfl rfl rfl rfl rfl ?_
  refine xOK_steps (fr' := (23, [some (.ref 23), some (.ref 11)], [.int (4 : Int32), .int (0 : Int32), .ref 26, .int (0 : Int32), .ref 14])) (w' := (mk (xsf (xsf s 13 (va_cpy (s.2 6) (s.2 13) 0 0 4)) 14 (va_cpy (s.2 7) (s.2 14) 0 0 4)) t)) (ob := true) e_36 hk_36 7 rfl rfl ?_
  refine xu_copy (n := 4) (q0 := 14) (q1 := 26) (w1 := (mk (xsf (xsf (xsf s 13 (va_cpy (s.2 6) (s.2 13) 0 0 4)) 14 (va_cpy (s.2 7) (s.2 14) 0 0 4)) 15 (va_cpy (s.2 8) (s.2 15) 0 0 4)) t)) e_36 hk_36 rfl rfl rfl rfl rfl rfl ?_
  refine xOK_steps (fr' := (32, [some (.ref 23), some (.ref 11)], [])) (w' := (mk (xsc (xsc (xsf (xsf (xsf s 13 (va_cpy (s.2 6) (s.2 13) 0 0 4)) 14 (va_cpy (s.2 7) (s.2 14) 0 0 4)) 15 (va_cpy (s.2 8) (s.2 15) 0 0 4)) 23 (s.1 10)) 24 (s.1 11)) t)) (ob := true) e_36 hk_36 8 rfl rfl ?_
  cases h
  exact xu_vret e_36 hk_36 rfl rfl
set_option maxRecDepth 100000 in
set_option maxHeartbeats 4000000 in
theorem m_Keeper_flip (x1 : Int32) (s t : xS) (q : xS) (h : f_Keeper_flip x1 s = some q) : xMet 92 [.ref 19, .int x1] (mk s t) none (mk q t) := by
  refine xMet_of hk_92 rfl rfl rfl ?_
  refine xOK_eq (fr := (0, [some (.ref 19), some (.int x1)], [])) rfl ?_
  unfold f_Keeper_flip at h
  refine xOK_steps (fr' := (1, [some (.ref 19), some (.int x1)], [.ref 19])) (w' := (mk s t)) (ob := true) e_92 hk_92 1 rfl rfl ?_
  obtain ⟨q1, e2, h⟩ := Option.bind_eq_some_iff.mp h
  refine xu_callv (q := 19) (r := none) (av := []) (st := []) (w1 := (mk q1 t)) e_92 hk_92 rfl (m_Keeper_keepVolatile  _ _ _ e2) rfl rfl rfl rfl rfl ?_
  refine xOK_steps (fr' := (8, [some (.ref 19), some (.int x1)], [.ref 11, .ref 23])) (w' := (mk q1 t)) (ob := true) e_92 hk_92 6 rfl rfl ?_
  obtain ⟨q3, e4, h⟩ := Option.bind_eq_some_iff.mp h
  refine xu_callv (q := 23) (r := none) (av := [.ref 11]) (st := []) (w1 := (mk q3 t)) e_92 hk_92 rfl (m_Held_copyFrom  _ _ _ e4) rfl rfl rfl rfl rfl ?_
  by_cases o5 : xbl x1 = true
  case neg => have h := xif_neg o5 h; cases h
  have h := xif_pos o5 h
  refine xOK_steps (fr' := (36, [some (.ref 19), some (.int x1)], [])) (w' := (mk (xsc (xsc (xsc (xsc (xsc q3 19 ((q3.1 19) + (q3.1 9))) 20 (0 : Int32)) 21 x1) 22 (0 : Int32)) 18 ((q3.1 18) + (1 : Int32))) t)) (ob := xbl x1 && (true)) e_92 hk_92 27 rfl (xand o5 rfl) ?_
  cases h
  exact xu_vret e_92 hk_92 rfl rfl
set_option maxRecDepth 100000 in
set_option maxHeartbeats 4000000 in
theorem t_Keeper_writeHeldWords_2 (t : xS) (q : (Int32 × xS)) : ∀ (n : Nat), ∀ (x1 : Int32) (s : xS), f_Keeper_writeHeldWords_2 n x1 s = some q → xOK 94 none (xEnd 94 (some q.1) (mk q.2 t)) (2, [some (.ref 19), some (.int x1)], []) (mk s t) 0 0 := by
  intro n
  induction n with
  | zero => intro x1 s h; cases h
  | succ n ih =>
    intro x1 s h
    unfold f_Keeper_writeHeldWords_2 at h
    refine xOK_steps (fr' := (7, [some (.ref 19), some (.int x1)], [.int (s.1 23), .int x1])) (w' := (mk s t)) (ob := true) e_94 hk_94 5 rfl rfl ?_
    refine xu_icmp_ge e_94 hk_94 rfl (fun c1 => ?_) (fun c1 => ?_)
    · have h := xif_pos c1 h
      refine xOK_steps (fr' := (34, [some (.ref 19), some (.int x1)], [.int (1 : Int32)])) (w' := (mk s t)) (ob := true) e_94 hk_94 1 rfl rfl ?_
      cases h
      exact xu_iret e_94 hk_94 rfl rfl rfl
    · have h := xif_neg c1 h
      refine xOK_steps (fr' := (11, [some (.ref 19), some (.int x1)], [.int (0 : Int32), .ref 1])) (w' := (mk s t)) (ob := true) e_94 hk_94 3 rfl rfl ?_
      obtain ⟨q2, e3, h⟩ := Option.bind_eq_some_iff.mp h
      refine xu_callv (q := 1) (r := (some q2.1)) (av := [.int (0 : Int32)]) (st := []) (w1 := (mk q2.2 t)) e_94 hk_94 rfl (m_Power_allows _ _ _ _ e3) rfl rfl rfl rfl rfl ?_
      refine xu_if_ne e_94 hk_94 rfl (fun c4 => ?_) (fun c4 => ?_)
      · have h := xif_neg c4 h
        by_cases o5 : xin x1 4 = true
        case neg => have h := xif_neg o5 h; cases h
        have h := xif_pos o5 h
        by_cases o6 : xin x1 4 = true
        case neg => have h := xif_neg o6 h; cases h
        have h := xif_pos o6 h
        by_cases o7 : xin ((q2.2.2 13) (x1).toNatClampNeg) 128 = true
        case neg => have h := xif_neg o7 h; cases h
        have h := xif_pos o7 h
        refine xOK_steps (fr' := (2, [some (.ref 19), some (.int (x1 + (1 : Int32)))], [])) (w' := (mk (xsa q2.2 1 ((q2.2.2 13) (x1).toNatClampNeg).toNatClampNeg ((q2.2.2 14) (x1).toNatClampNeg)) t)) (ob := xin x1 4 && (xin x1 4 && (xin ((q2.2.2 13) (x1).toNatClampNeg) 128 && (true)))) e_94 hk_94 18 rfl (xand o5 (xand o6 (xand o7 rfl))) ?_
        exact ih _ _ h
      · have h := xif_pos c4 h
        refine xOK_steps (fr' := (14, [some (.ref 19), some (.int x1)], [.int (0 : Int32)])) (w' := (mk q2.2 t)) (ob := true) e_94 hk_94 1 rfl rfl ?_
        cases h
        exact xu_iret e_94 hk_94 rfl rfl rfl
set_option maxRecDepth 100000 in
set_option maxHeartbeats 4000000 in
theorem m_Keeper_writeHeldWords (s t : xS) (q : (Int32 × xS)) (h : f_Keeper_writeHeldWords  s = some q) : xMet 94 [.ref 19] (mk s t) (some q.1) (mk q.2 t) := by
  refine xMet_of hk_94 rfl rfl rfl ?_
  refine xOK_eq (fr := (0, [some (.ref 19), none], [])) rfl ?_
  unfold f_Keeper_writeHeldWords at h
  refine xOK_steps (fr' := (2, [some (.ref 19), some (.int (0 : Int32))], [])) (w' := (mk s t)) (ob := true) e_94 hk_94 2 rfl rfl ?_
  exact t_Keeper_writeHeldWords_2 t q _ _ _ h
set_option maxRecDepth 100000 in
set_option maxHeartbeats 4000000 in
theorem t_Lasting_placeRecord_20 (t : xS) (q : xS) (s : xS) (h : f_Lasting_placeRecord_20  s = some q) : xOK 29 none (xEnd 29 none (mk q t)) (10, [none, none], []) (mk s t) 0 0 := by
  unfold f_Lasting_placeRecord_20 at h
  cases h
  exact xu_vret e_29 hk_29 rfl rfl
set_option maxRecDepth 100000 in
set_option maxHeartbeats 4000000 in
theorem m_Lasting_placeRecord (x1 : Int32) (s t : xS) (q : xS) (h : f_Lasting_placeRecord x1 s = some q) : xMet 29 [.ref 3, .int x1] (mk s t) none (mk q t) := by
  refine xMet_of hk_29 rfl rfl rfl ?_
  refine xOK_eq (fr := (0, [some (.ref 3), some (.int x1)], [])) rfl ?_
  unfold f_Lasting_placeRecord at h
  refine xOK_steps (fr' := (3, [some (.ref 3), some (.int x1)], [.int (200 : Int32), .int (s.1 4)])) (w' := (mk s t)) (ob := true) e_29 hk_29 3 rfl rfl ?_
  refine xu_icmp_ge e_29 hk_29 rfl (fun c1 => ?_) (fun c1 => ?_)
  · have h := xif_pos c1 h
    refine xOK_fg [0, 1] ?_
    exact t_Lasting_placeRecord_20 t q  _ h
  · have h := xif_neg c1 h
    by_cases o2 : xin (s.1 4) 200 = true
    case neg => have h := xif_neg o2 h; cases h
    have h := xif_pos o2 h
    refine xOK_steps (fr' := (10, [some (.ref 3), some (.int x1)], [])) (w' := (mk (xsa s 3 (s.1 4).toNatClampNeg x1) t)) (ob := xin (s.1 4) 200 && (true)) e_29 hk_29 6 rfl (xand o2 rfl) ?_
    refine xOK_fg [0, 1] ?_
    exact t_Lasting_placeRecord_20 t q  _ h
set_option maxRecDepth 100000 in
set_option maxHeartbeats 4000000 in
theorem t_Lasting_countRecord_20 (t : xS) (q : xS) (s : xS) (h : f_Lasting_countRecord_20  s = some q) : xOK 30 none (xEnd 30 none (mk q t)) (10, [none], []) (mk s t) 0 0 := by
  unfold f_Lasting_countRecord_20 at h
  cases h
  exact xu_vret e_30 hk_30 rfl rfl
set_option maxRecDepth 100000 in
set_option maxHeartbeats 4000000 in
theorem m_Lasting_countRecord (s t : xS) (q : xS) (h : f_Lasting_countRecord  s = some q) : xMet 30 [.ref 3] (mk s t) none (mk q t) := by
  refine xMet_of hk_30 rfl rfl rfl ?_
  refine xOK_eq (fr := (0, [some (.ref 3)], [])) rfl ?_
  unfold f_Lasting_countRecord at h
  refine xOK_steps (fr' := (3, [some (.ref 3)], [.int (200 : Int32), .int (s.1 4)])) (w' := (mk s t)) (ob := true) e_30 hk_30 3 rfl rfl ?_
  refine xu_icmp_ge e_30 hk_30 rfl (fun c1 => ?_) (fun c1 => ?_)
  · have h := xif_pos c1 h
    refine xOK_fg [0] ?_
    exact t_Lasting_countRecord_20 t q  _ h
  · have h := xif_neg c1 h
    refine xOK_steps (fr' := (10, [some (.ref 3)], [])) (w' := (mk (xsc s 4 ((s.1 4) + (1 : Int32))) t)) (ob := true) e_30 hk_30 6 rfl rfl ?_
    refine xOK_fg [0] ?_
    exact t_Lasting_countRecord_20 t q  _ h
set_option maxRecDepth 100000 in
set_option maxHeartbeats 4000000 in
theorem t_Keeper_sendHeldRecords_8 (t : xS) (q : (Int32 × xS)) : ∀ (n : Nat), ∀ (x1 : Int32) (s : xS), f_Keeper_sendHeldRecords_8 n x1 s = some q → xOK 95 none (xEnd 95 (some q.1) (mk q.2 t)) (4, [some (.ref 19), some (.int x1)], []) (mk s t) 0 0 := by
  intro n
  induction n with
  | zero => intro x1 s h; cases h
  | succ n ih =>
    intro x1 s h
    unfold f_Keeper_sendHeldRecords_8 at h
    refine xOK_steps (fr' := (9, [some (.ref 19), some (.int x1)], [.int (s.1 24), .int x1])) (w' := (mk s t)) (ob := true) e_95 hk_95 5 rfl rfl ?_
    refine xu_icmp_ge e_95 hk_95 rfl (fun c1 => ?_) (fun c1 => ?_)
    · have h := xif_pos c1 h
      refine xOK_steps (fr' := (46, [some (.ref 19), some (.int x1)], [.int (1 : Int32)])) (w' := (mk s t)) (ob := true) e_95 hk_95 1 rfl rfl ?_
      cases h
      exact xu_iret e_95 hk_95 rfl rfl rfl
    · have h := xif_neg c1 h
      refine xOK_steps (fr' := (13, [some (.ref 19), some (.int x1)], [.int (0 : Int32), .ref 1])) (w' := (mk s t)) (ob := true) e_95 hk_95 3 rfl rfl ?_
      obtain ⟨q2, e3, h⟩ := Option.bind_eq_some_iff.mp h
      refine xu_callv (q := 1) (r := (some q2.1)) (av := [.int (0 : Int32)]) (st := []) (w1 := (mk q2.2 t)) e_95 hk_95 rfl (m_Power_allows _ _ _ _ e3) rfl rfl rfl rfl rfl ?_
      refine xu_if_ne e_95 hk_95 rfl (fun c4 => ?_) (fun c4 => ?_)
      · have h := xif_neg c4 h
        by_cases o5 : xin x1 4 = true
        case neg => have h := xif_neg o5 h; cases h
        have h := xif_pos o5 h
        refine xOK_steps (fr' := (25, [some (.ref 19), some (.int x1)], [.int ((q2.2.2 15) (x1).toNatClampNeg), .ref 3])) (w' := (mk q2.2 t)) (ob := xin x1 4 && (true)) e_95 hk_95 8 rfl (xand o5 rfl) ?_
        obtain ⟨q6, e7, h⟩ := Option.bind_eq_some_iff.mp h
        refine xu_callv (q := 3) (r := none) (av := [.int ((q2.2.2 15) (x1).toNatClampNeg)]) (st := []) (w1 := (mk q6 t)) e_95 hk_95 rfl (m_Lasting_placeRecord _ _ _ _ e7) rfl rfl rfl rfl rfl ?_
        refine xOK_steps (fr' := (29, [some (.ref 19), some (.int x1)], [.int (0 : Int32), .ref 1])) (w' := (mk q6 t)) (ob := true) e_95 hk_95 3 rfl rfl ?_
        obtain ⟨q8, e9, h⟩ := Option.bind_eq_some_iff.mp h
        refine xu_callv (q := 1) (r := (some q8.1)) (av := [.int (0 : Int32)]) (st := []) (w1 := (mk q8.2 t)) e_95 hk_95 rfl (m_Power_allows _ _ _ _ e9) rfl rfl rfl rfl rfl ?_
        refine xu_if_ne e_95 hk_95 rfl (fun c10 => ?_) (fun c10 => ?_)
        · have h := xif_neg c10 h
          refine xOK_steps (fr' := (35, [some (.ref 19), some (.int x1)], [.ref 3])) (w' := (mk q8.2 t)) (ob := true) e_95 hk_95 2 rfl rfl ?_
          obtain ⟨q11, e12, h⟩ := Option.bind_eq_some_iff.mp h
          refine xu_callv (q := 3) (r := none) (av := []) (st := []) (w1 := (mk q11 t)) e_95 hk_95 rfl (m_Lasting_countRecord  _ _ _ e12) rfl rfl rfl rfl rfl ?_
          refine xOK_steps (fr' := (4, [some (.ref 19), some (.int (x1 + (1 : Int32)))], [])) (w' := (mk (xsc q11 20 ((q11.1 20) + (1 : Int32))) t)) (ob := true) e_95 hk_95 9 rfl rfl ?_
          exact ih _ _ h
        · have h := xif_pos c10 h
          refine xOK_steps (fr' := (32, [some (.ref 19), some (.int x1)], [.int (0 : Int32)])) (w' := (mk q8.2 t)) (ob := true) e_95 hk_95 1 rfl rfl ?_
          cases h
          exact xu_iret e_95 hk_95 rfl rfl rfl
      · have h := xif_pos c4 h
        refine xOK_steps (fr' := (16, [some (.ref 19), some (.int x1)], [.int (0 : Int32)])) (w' := (mk q2.2 t)) (ob := true) e_95 hk_95 1 rfl rfl ?_
        cases h
        exact xu_iret e_95 hk_95 rfl rfl rfl
set_option maxRecDepth 100000 in
set_option maxHeartbeats 4000000 in
theorem m_Keeper_sendHeldRecords (s t : xS) (q : (Int32 × xS)) (h : f_Keeper_sendHeldRecords  s = some q) : xMet 95 [.ref 19] (mk s t) (some q.1) (mk q.2 t) := by
  refine xMet_of hk_95 rfl rfl rfl ?_
  refine xOK_eq (fr := (0, [some (.ref 19), none], [])) rfl ?_
  unfold f_Keeper_sendHeldRecords at h
  refine xOK_steps (fr' := (4, [some (.ref 19), some (.int (s.1 20))], [])) (w' := (mk s t)) (ob := true) e_95 hk_95 4 rfl rfl ?_
  exact t_Keeper_sendHeldRecords_8 t q _ _ _ h
set_option maxRecDepth 100000 in
set_option maxHeartbeats 4000000 in
theorem m_Keeper_close (s t : xS) (q : (Int32 × xS)) (h : f_Keeper_close  s = some q) : xMet 96 [.ref 19] (mk s t) (some q.1) (mk q.2 t) := by
  refine xMet_of hk_96 rfl rfl rfl ?_
  refine xOK_eq (fr := (0, [some (.ref 19)], [])) rfl ?_
  unfold f_Keeper_close at h
  refine xOK_steps (fr' := (3, [some (.ref 19)], [.int (0 : Int32), .ref 1])) (w' := (mk s t)) (ob := true) e_96 hk_96 3 rfl rfl ?_
  obtain ⟨q1, e2, h⟩ := Option.bind_eq_some_iff.mp h
  refine xu_callv (q := 1) (r := (some q1.1)) (av := [.int (0 : Int32)]) (st := []) (w1 := (mk q1.2 t)) e_96 hk_96 rfl (m_Power_allows _ _ _ _ e2) rfl rfl rfl rfl rfl ?_
  refine xu_if_ne e_96 hk_96 rfl (fun c3 => ?_) (fun c3 => ?_)
  · have h := xif_neg c3 h
    refine xOK_steps (fr' := (14, [some (.ref 19)], [.int (0 : Int32), .ref 1])) (w' := (mk (xsc q1.2 3 (0 : Int32)) t)) (ob := true) e_96 hk_96 7 rfl rfl ?_
    obtain ⟨q4, e5, h⟩ := Option.bind_eq_some_iff.mp h
    refine xu_callv (q := 1) (r := (some q4.1)) (av := [.int (0 : Int32)]) (st := []) (w1 := (mk q4.2 t)) e_96 hk_96 rfl (m_Power_allows _ _ _ _ e5) rfl rfl rfl rfl rfl ?_
    refine xu_if_ne e_96 hk_96 rfl (fun c6 => ?_) (fun c6 => ?_)
    · have h := xif_neg c6 h
      refine xOK_steps (fr' := (23, [some (.ref 19)], [.int (1 : Int32)])) (w' := (mk (xsc q4.2 22 (1 : Int32)) t)) (ob := true) e_96 hk_96 5 rfl rfl ?_
      cases h
      exact xu_iret e_96 hk_96 rfl rfl rfl
    · have h := xif_pos c6 h
      refine xOK_steps (fr' := (17, [some (.ref 19)], [.int (0 : Int32)])) (w' := (mk q4.2 t)) (ob := true) e_96 hk_96 1 rfl rfl ?_
      cases h
      exact xu_iret e_96 hk_96 rfl rfl rfl
  · have h := xif_pos c3 h
    refine xOK_steps (fr' := (6, [some (.ref 19)], [.int (0 : Int32)])) (w' := (mk q1.2 t)) (ob := true) e_96 hk_96 1 rfl rfl ?_
    cases h
    exact xu_iret e_96 hk_96 rfl rfl rfl
set_option maxRecDepth 100000 in
set_option maxHeartbeats 4000000 in
theorem t_Keeper_finish_26 (t : xS) (q : (Int32 × xS)) (y0 : Int32) (s : xS) (h : f_Keeper_finish_26 y0 s = some q) : xOK 93 none (xEnd 93 (some q.1) (mk q.2 t)) (12, [none], [.int y0]) (mk s t) 0 0 := by
  unfold f_Keeper_finish_26 at h
  by_cases o1 : xbl y0 = true
  case neg => have h := xif_neg o1 h; cases h
  have h := xif_pos o1 h
  cases h
  exact xu_iret e_93 hk_93 rfl o1 rfl
set_option maxRecDepth 100000 in
set_option maxHeartbeats 4000000 in
theorem t_Keeper_finish_25 (t : xS) (q : (Int32 × xS)) (s : xS) (h : f_Keeper_finish_25  s = some q) : xOK 93 none (xEnd 93 (some q.1) (mk q.2 t)) (11, [none], []) (mk s t) 0 0 := by
  unfold f_Keeper_finish_25 at h
  refine xOK_steps (fr' := (12, [none], [.int (0 : Int32)])) (w' := (mk s t)) (ob := true) e_93 hk_93 1 rfl rfl ?_
  exact t_Keeper_finish_26 t q _ _ h
set_option maxRecDepth 100000 in
set_option maxHeartbeats 4000000 in
theorem m_Keeper_finish (s t : xS) (q : (Int32 × xS)) (h : f_Keeper_finish  s = some q) : xMet 93 [.ref 19] (mk s t) (some q.1) (mk q.2 t) := by
  refine xMet_of hk_93 rfl rfl rfl ?_
  refine xOK_eq (fr := (0, [some (.ref 19)], [])) rfl ?_
  unfold f_Keeper_finish at h
  refine xOK_steps (fr' := (1, [some (.ref 19)], [.ref 19])) (w' := (mk s t)) (ob := true) e_93 hk_93 1 rfl rfl ?_
  obtain ⟨q2, e3, h⟩ := Option.bind_eq_some_iff.mp h
  refine xu_callv (q := 19) (r := (some q2.1)) (av := []) (st := []) (w1 := (mk q2.2 t)) e_93 hk_93 rfl (m_Keeper_writeHeldWords  _ _ _ e3) rfl rfl rfl rfl rfl ?_
  refine xu_if_eq e_93 hk_93 rfl (fun c4 => ?_) (fun c4 => ?_)
  · have h := xif_pos c4 h
    refine xOK_fg [0] ?_
    exact t_Keeper_finish_25 t q  _ h
  · have h := xif_neg c4 h
    refine xOK_steps (fr' := (4, [some (.ref 19)], [.ref 19])) (w' := (mk q2.2 t)) (ob := true) e_93 hk_93 1 rfl rfl ?_
    obtain ⟨q5, e6, h⟩ := Option.bind_eq_some_iff.mp h
    refine xu_callv (q := 19) (r := (some q5.1)) (av := []) (st := []) (w1 := (mk q5.2 t)) e_93 hk_93 rfl (m_Keeper_sendHeldRecords  _ _ _ e6) rfl rfl rfl rfl rfl ?_
    refine xu_if_eq e_93 hk_93 rfl (fun c7 => ?_) (fun c7 => ?_)
    · have h := xif_pos c7 h
      refine xOK_fg [0] ?_
      exact t_Keeper_finish_25 t q  _ h
    · have h := xif_neg c7 h
      refine xOK_steps (fr' := (7, [some (.ref 19)], [.ref 19])) (w' := (mk q5.2 t)) (ob := true) e_93 hk_93 1 rfl rfl ?_
      obtain ⟨q8, e9, h⟩ := Option.bind_eq_some_iff.mp h
      refine xu_callv (q := 19) (r := (some q8.1)) (av := []) (st := []) (w1 := (mk q8.2 t)) e_93 hk_93 rfl (m_Keeper_close  _ _ _ e9) rfl rfl rfl rfl rfl ?_
      refine xu_if_eq e_93 hk_93 rfl (fun c10 => ?_) (fun c10 => ?_)
      · have h := xif_pos c10 h
        refine xOK_fg [0] ?_
        exact t_Keeper_finish_25 t q  _ h
      · have h := xif_neg c10 h
        refine xOK_steps (fr' := (12, [some (.ref 19)], [.int (1 : Int32)])) (w' := (mk q8.2 t)) (ob := true) e_93 hk_93 2 rfl rfl ?_
        refine xOK_fg [0] ?_
        exact t_Keeper_finish_26 t q _ _ h
set_option maxRecDepth 100000 in
set_option maxHeartbeats 4000000 in
theorem t_Keeper_checkpoint_29 (t : xS) (q : (Int32 × xS)) : ∀ (n : Nat), ∀ (x1 x2 x3 : Int32) (s : xS), f_Keeper_checkpoint_29 n x1 x2 x3 s = some q → xOK 90 none (xEnd 90 (some q.1) (mk q.2 t)) (16, [some (.ref 19), some (.int x1), some (.int x2), some (.int x3)], []) (mk s t) 0 0 := by
  intro n
  induction n with
  | zero => intro x1 x2 x3 s h; cases h
  | succ n ih =>
    intro x1 x2 x3 s h
    unfold f_Keeper_checkpoint_29 at h
    refine xOK_steps (fr' := (18, [some (.ref 19), some (.int x1), some (.int x2), some (.int x3)], [.int x2, .int x3])) (w' := (mk s t)) (ob := true) e_90 hk_90 2 rfl rfl ?_
    refine xu_icmp_ge e_90 hk_90 rfl (fun c1 => ?_) (fun c1 => ?_)
    · have h := xif_pos c1 h
      refine xOK_steps (fr' := (31, [some (.ref 19), some (.int x1), some (.int x2), some (.int x3)], [.int (0 : Int32), .ref 1])) (w' := (mk s t)) (ob := true) e_90 hk_90 3 rfl rfl ?_
      obtain ⟨q2, e3, h⟩ := Option.bind_eq_some_iff.mp h
      refine xu_callv (q := 1) (r := (some q2.1)) (av := [.int (0 : Int32)]) (st := []) (w1 := (mk q2.2 t)) e_90 hk_90 rfl (m_Power_allows _ _ _ _ e3) rfl rfl rfl rfl rfl ?_
      refine xu_if_ne e_90 hk_90 rfl (fun c4 => ?_) (fun c4 => ?_)
      · have h := xif_neg c4 h
        refine xOK_steps (fr' := (37, [some (.ref 19), some (.int x1), some (.int x2), some (.int x3)], [.int x1, .ref 19])) (w' := (mk q2.2 t)) (ob := true) e_90 hk_90 2 rfl rfl ?_
        obtain ⟨q5, e6, h⟩ := Option.bind_eq_some_iff.mp h
        refine xu_callv (q := 19) (r := none) (av := [.int x1]) (st := []) (w1 := (mk q5 t)) e_90 hk_90 rfl (m_Keeper_flip _ _ _ _ e6) rfl rfl rfl rfl rfl ?_
        refine xOK_steps (fr' := (39, [some (.ref 19), some (.int x1), some (.int x2), some (.int x3)], [.ref 19])) (w' := (mk q5 t)) (ob := true) e_90 hk_90 1 rfl rfl ?_
        obtain ⟨q7, e8, h⟩ := Option.bind_eq_some_iff.mp h
        refine xu_callv (q := 19) (r := (some q7.1)) (av := []) (st := []) (w1 := (mk q7.2 t)) e_90 hk_90 rfl (m_Keeper_finish  _ _ _ e8) rfl rfl rfl rfl rfl ?_
        refine xu_if_ne e_90 hk_90 rfl (fun c9 => ?_) (fun c9 => ?_)
        · have h := xif_neg c9 h
          refine xOK_steps (fr' := (45, [some (.ref 19), some (.int x1), some (.int x2), some (.int x3)], [.ref 9])) (w' := (mk q7.2 t)) (ob := true) e_90 hk_90 2 rfl rfl ?_
          obtain ⟨q10, e11, h⟩ := Option.bind_eq_some_iff.mp h
          refine xu_callv (q := 9) (r := none) (av := []) (st := []) (w1 := (mk q10 t)) e_90 hk_90 rfl (m_Section_begin  _ _ _ e11) rfl rfl rfl rfl rfl ?_
          refine xOK_steps (fr' := (47, [some (.ref 19), some (.int x1), some (.int x2), some (.int x3)], [.int (1 : Int32)])) (w' := (mk q10 t)) (ob := true) e_90 hk_90 1 rfl rfl ?_
          cases h
          exact xu_iret e_90 hk_90 rfl rfl rfl
        · have h := xif_pos c9 h
          refine xOK_steps (fr' := (42, [some (.ref 19), some (.int x1), some (.int x2), some (.int x3)], [.int (0 : Int32)])) (w' := (mk q7.2 t)) (ob := true) e_90 hk_90 1 rfl rfl ?_
          cases h
          exact xu_iret e_90 hk_90 rfl rfl rfl
      · have h := xif_pos c4 h
        refine xOK_steps (fr' := (34, [some (.ref 19), some (.int x1), some (.int x2), some (.int x3)], [.int (0 : Int32)])) (w' := (mk q2.2 t)) (ob := true) e_90 hk_90 1 rfl rfl ?_
        cases h
        exact xu_iret e_90 hk_90 rfl rfl rfl
    · have h := xif_neg c1 h
      refine xOK_steps (fr' := (22, [some (.ref 19), some (.int x1), some (.int x2), some (.int x3)], [.int (0 : Int32), .ref 1])) (w' := (mk s t)) (ob := true) e_90 hk_90 3 rfl rfl ?_
      obtain ⟨q12, e13, h⟩ := Option.bind_eq_some_iff.mp h
      refine xu_callv (q := 1) (r := (some q12.1)) (av := [.int (0 : Int32)]) (st := []) (w1 := (mk q12.2 t)) e_90 hk_90 rfl (m_Power_allows _ _ _ _ e13) rfl rfl rfl rfl rfl ?_
      refine xu_if_ne e_90 hk_90 rfl (fun c14 => ?_) (fun c14 => ?_)
      · have h := xif_neg c14 h
        refine xOK_steps (fr' := (16, [some (.ref 19), some (.int x1), some (.int x2), some (.int (x3 + (1 : Int32)))], [])) (w' := (mk q12.2 t)) (ob := true) e_90 hk_90 2 rfl rfl ?_
        exact ih _ _ _ _ h
      · have h := xif_pos c14 h
        refine xOK_steps (fr' := (25, [some (.ref 19), some (.int x1), some (.int x2), some (.int x3)], [.int (0 : Int32)])) (w' := (mk q12.2 t)) (ob := true) e_90 hk_90 1 rfl rfl ?_
        cases h
        exact xu_iret e_90 hk_90 rfl rfl rfl
set_option maxRecDepth 100000 in
set_option maxHeartbeats 4000000 in
theorem m_Keeper_checkpoint (x1 : Int32) (s t : xS) (q : (Int32 × xS)) (h : f_Keeper_checkpoint x1 s = some q) : xMet 90 [.ref 19, .int x1] (mk s t) (some q.1) (mk q.2 t) := by
  refine xMet_of hk_90 rfl rfl rfl ?_
  refine xOK_eq (fr := (0, [some (.ref 19), some (.int x1), none, none], [])) rfl ?_
  unfold f_Keeper_checkpoint at h
  refine xOK_steps (fr' := (16, [some (.ref 19), some (.int x1), some (.int (((36 : Int32) + ((2 : Int32) * (s.1 10))) + (s.1 11))), some (.int (0 : Int32))], [])) (w' := (mk s t)) (ob := true) e_90 hk_90 16 rfl rfl ?_
  exact t_Keeper_checkpoint_29 t q _ _ _ _ _ h
set_option maxRecDepth 100000 in
set_option maxHeartbeats 4000000 in
theorem t_C_endStep_65 (t : xS) (q : (Int32 × xS)) (s : xS) (h : f_C_endStep_65  s = some q) : xOK 20 none (xEnd 20 (some q.1) (mk q.2 t)) (31, [some (.ref 0), none], []) (mk s t) 0 0 := by
  unfold f_C_endStep_65 at h
  refine xOK_steps (fr' := (34, [some (.ref 0), none], [.int (s.1 1)])) (w' := (mk s t)) (ob := true) e_20 hk_20 3 rfl rfl ?_
  by_cases o1 : xbl (s.1 1) = true
  case neg => have h := xif_neg o1 h; cases h
  have h := xif_pos o1 h
  cases h
  exact xu_iret e_20 hk_20 rfl o1 rfl
set_option maxRecDepth 100000 in
set_option maxHeartbeats 4000000 in
theorem t_C_endStep_51 (t : xS) (q : (Int32 × xS)) (s : xS) (h : f_C_endStep_51  s = some q) : xOK 20 none (xEnd 20 (some q.1) (mk q.2 t)) (25, [some (.ref 0), none], []) (mk s t) 0 0 := by
  unfold f_C_endStep_51 at h
  refine xOK_steps (fr' := (28, [some (.ref 0), none], [.int (s.1 1)])) (w' := (mk s t)) (ob := true) e_20 hk_20 3 rfl rfl ?_
  refine xu_if_ne e_20 hk_20 rfl (fun c2 => ?_) (fun c2 => ?_)
  · have h := xif_neg c2 h
    exact t_C_endStep_65 t q  _ h
  · have h := xif_pos c2 h
    refine xOK_steps (fr' := (30, [some (.ref 0), none], [.ref 0])) (w' := (mk s t)) (ob := true) e_20 hk_20 1 rfl rfl ?_
    obtain ⟨q3, e4, h⟩ := Option.bind_eq_some_iff.mp h
    refine xu_callv (q := 0) (r := none) (av := []) (st := []) (w1 := (mk q3 t)) e_20 hk_20 rfl (m_C_forget  _ _ _ e4) rfl rfl rfl rfl rfl ?_
    exact t_C_endStep_65 t q  _ h
set_option maxRecDepth 100000 in
set_option maxHeartbeats 4000000 in
theorem m_C_endStep (s t : xS) (q : (Int32 × xS)) (h : f_C_endStep  s = some q) : xMet 20 [.ref 0] (mk s t) (some q.1) (mk q.2 t) := by
  refine xMet_of hk_20 rfl rfl rfl ?_
  refine xOK_eq (fr := (0, [some (.ref 0), none], [])) rfl ?_
  unfold f_C_endStep at h
  refine xOK_steps (fr' := (2, [some (.ref 0), none], [.ref 15])) (w' := (mk s t)) (ob := true) e_20 hk_20 2 rfl rfl ?_
  obtain ⟨q5, e6, h⟩ := Option.bind_eq_some_iff.mp h
  refine xu_callv (q := 15) (r := (some q5.1)) (av := []) (st := []) (w1 := (mk q5.2 t)) e_20 hk_20 rfl (m_Bus_takeHalt  _ _ _ e6) rfl rfl rfl rfl rfl ?_
  refine xOK_steps (fr' := (7, [some (.ref 0), some (.int q5.1)], [.int (q5.2.1 1)])) (w' := (mk q5.2 t)) (ob := true) e_20 hk_20 4 rfl rfl ?_
  refine xu_if_eq e_20 hk_20 rfl (fun c7 => ?_) (fun c7 => ?_)
  · have h := xif_pos c7 h
    refine xOK_fg [1] ?_
    exact t_C_endStep_51 t q  _ h
  · have h := xif_neg c7 h
    refine xOK_steps (fr' := (16, [some (.ref 0), some (.int q5.1)], [.int q5.1])) (w' := (mk (xsc q5.2 9 ((q5.2.1 9) + (1 : Int32))) t)) (ob := true) e_20 hk_20 8 rfl rfl ?_
    refine xu_if_eq e_20 hk_20 rfl (fun c8 => ?_) (fun c8 => ?_)
    · have h := xif_pos c8 h
      refine xOK_fg [1] ?_
      exact t_C_endStep_51 t q  _ h
    · have h := xif_neg c8 h
      refine xOK_steps (fr' := (20, [some (.ref 0), some (.int q5.1)], [.int (1 : Int32), .ref 19])) (w' := (mk (xsc q5.2 9 ((q5.2.1 9) + (1 : Int32))) t)) (ob := true) e_20 hk_20 3 rfl rfl ?_
      obtain ⟨q9, e10, h⟩ := Option.bind_eq_some_iff.mp h
      refine xu_callv (q := 19) (r := (some q9.1)) (av := [.int (1 : Int32)]) (st := []) (w1 := (mk q9.2 t)) e_20 hk_20 rfl (m_Keeper_checkpoint _ _ _ _ e10) rfl rfl rfl rfl rfl ?_
      refine xu_if_eq e_20 hk_20 rfl (fun c11 => ?_) (fun c11 => ?_)
      · have h := xif_pos c11 h
        refine xOK_fg [1] ?_
        exact t_C_endStep_51 t q  _ h
      · have h := xif_neg c11 h
        refine xOK_steps (fr' := (25, [some (.ref 0), some (.int q5.1)], [])) (w' := (mk (xsc q9.2 0 (3 : Int32)) t)) (ob := true) e_20 hk_20 3 rfl rfl ?_
        refine xOK_fg [1] ?_
        exact t_C_endStep_51 t q  _ h
set_option maxRecDepth 100000 in
set_option maxHeartbeats 4000000 in
theorem t_Section_isFull_44 (t : xS) (q : (Int32 × xS)) (y0 : Int32) (s : xS) (h : f_Section_isFull_44 y0 s = some q) : xOK 42 none (xEnd 42 (some q.1) (mk q.2 t)) (21, [none], [.int y0]) (mk s t) 0 0 := by
  unfold f_Section_isFull_44 at h
  by_cases o1 : xbl y0 = true
  case neg => have h := xif_neg o1 h; cases h
  have h := xif_pos o1 h
  cases h
  exact xu_iret e_42 hk_42 rfl o1 rfl
set_option maxRecDepth 100000 in
set_option maxHeartbeats 4000000 in
theorem t_Section_isFull_39 (t : xS) (q : (Int32 × xS)) (s : xS) (h : f_Section_isFull_39  s = some q) : xOK 42 none (xEnd 42 (some q.1) (mk q.2 t)) (18, [none], []) (mk s t) 0 0 := by
  unfold f_Section_isFull_39 at h
  refine xOK_steps (fr' := (21, [none], [.int (1 : Int32)])) (w' := (mk s t)) (ob := true) e_42 hk_42 2 rfl rfl ?_
  exact t_Section_isFull_44 t q _ _ h
set_option maxRecDepth 100000 in
set_option maxHeartbeats 4000000 in
theorem m_Section_isFull (s t : xS) (q : (Int32 × xS)) (h : f_Section_isFull  s = some q) : xMet 42 [.ref 9] (mk s t) (some q.1) (mk q.2 t) := by
  refine xMet_of hk_42 rfl rfl rfl ?_
  refine xOK_eq (fr := (0, [some (.ref 9)], [])) rfl ?_
  unfold f_Section_isFull at h
  refine xOK_steps (fr' := (3, [some (.ref 9)], [.int (11 : Int32), .int (s.1 7)])) (w' := (mk s t)) (ob := true) e_42 hk_42 3 rfl rfl ?_
  refine xu_icmp_gt e_42 hk_42 rfl (fun c2 => ?_) (fun c2 => ?_)
  · have h := xif_pos c2 h
    refine xOK_fg [0] ?_
    exact t_Section_isFull_39 t q  _ h
  · have h := xif_neg c2 h
    refine xOK_steps (fr' := (8, [some (.ref 9)], [.int (4 : Int32), .int (s.1 10)])) (w' := (mk s t)) (ob := true) e_42 hk_42 4 rfl rfl ?_
    refine xu_icmp_ge e_42 hk_42 rfl (fun c3 => ?_) (fun c3 => ?_)
    · have h := xif_pos c3 h
      refine xOK_fg [0] ?_
      exact t_Section_isFull_39 t q  _ h
    · have h := xif_neg c3 h
      refine xOK_steps (fr' := (13, [some (.ref 9)], [.int (4 : Int32), .int (s.1 11)])) (w' := (mk s t)) (ob := true) e_42 hk_42 4 rfl rfl ?_
      refine xu_icmp_ge e_42 hk_42 rfl (fun c4 => ?_) (fun c4 => ?_)
      · have h := xif_pos c4 h
        refine xOK_fg [0] ?_
        exact t_Section_isFull_39 t q  _ h
      · have h := xif_neg c4 h
        refine xOK_steps (fr' := (17, [some (.ref 9)], [.int (3 : Int32), .int (s.1 8)])) (w' := (mk s t)) (ob := true) e_42 hk_42 3 rfl rfl ?_
        refine xu_icmp_lt e_42 hk_42 rfl (fun c5 => ?_) (fun c5 => ?_)
        · have h := xif_pos c5 h
          refine xOK_steps (fr' := (21, [some (.ref 9)], [.int (0 : Int32)])) (w' := (mk s t)) (ob := true) e_42 hk_42 1 rfl rfl ?_
          refine xOK_fg [0] ?_
          exact t_Section_isFull_44 t q _ _ h
        · have h := xif_neg c5 h
          refine xOK_fg [0] ?_
          exact t_Section_isFull_39 t q  _ h
set_option maxRecDepth 100000 in
set_option maxHeartbeats 4000000 in
theorem t_C_beginStep_39 (t : xS) (q : (Int32 × xS)) (y0 : Int32) (s : xS) (h : f_C_beginStep_39 y0 s = some q) : xOK 19 none (xEnd 19 (some q.1) (mk q.2 t)) (19, [none], [.int y0]) (mk s t) 0 0 := by
  unfold f_C_beginStep_39 at h
  by_cases o1 : xbl y0 = true
  case neg => have h := xif_neg o1 h; cases h
  have h := xif_pos o1 h
  cases h
  exact xu_iret e_19 hk_19 rfl o1 rfl
set_option maxRecDepth 100000 in
set_option maxHeartbeats 4000000 in
theorem t_C_beginStep_34 (t : xS) (q : (Int32 × xS)) (s : xS) (h : f_C_beginStep_34  s = some q) : xOK 19 none (xEnd 19 (some q.1) (mk q.2 t)) (16, [none], []) (mk s t) 0 0 := by
  unfold f_C_beginStep_34 at h
  refine xOK_steps (fr' := (19, [none], [.int (1 : Int32)])) (w' := (mk s t)) (ob := true) e_19 hk_19 2 rfl rfl ?_
  exact t_C_beginStep_39 t q _ _ h
set_option maxRecDepth 100000 in
set_option maxHeartbeats 4000000 in
theorem m_C_beginStep (s t : xS) (q : (Int32 × xS)) (h : f_C_beginStep  s = some q) : xMet 19 [.ref 0] (mk s t) (some q.1) (mk q.2 t) := by
  refine xMet_of hk_19 rfl rfl rfl ?_
  refine xOK_eq (fr := (0, [some (.ref 0)], [])) rfl ?_
  unfold f_C_beginStep at h
  refine xOK_steps (fr' := (3, [some (.ref 0)], [.int (1 : Int32), .ref 1])) (w' := (mk s t)) (ob := true) e_19 hk_19 3 rfl rfl ?_
  obtain ⟨q2, e3, h⟩ := Option.bind_eq_some_iff.mp h
  refine xu_callv (q := 1) (r := (some q2.1)) (av := [.int (1 : Int32)]) (st := []) (w1 := (mk q2.2 t)) e_19 hk_19 rfl (m_Power_allows _ _ _ _ e3) rfl rfl rfl rfl rfl ?_
  refine xu_if_ne e_19 hk_19 rfl (fun c4 => ?_) (fun c4 => ?_)
  · have h := xif_neg c4 h
    refine xOK_steps (fr' := (9, [some (.ref 0)], [.ref 9])) (w' := (mk q2.2 t)) (ob := true) e_19 hk_19 2 rfl rfl ?_
    obtain ⟨q5, e6, h⟩ := Option.bind_eq_some_iff.mp h
    refine xu_callv (q := 9) (r := (some q5.1)) (av := []) (st := []) (w1 := (mk q5.2 t)) e_19 hk_19 rfl (m_Section_isFull  _ _ _ e6) rfl rfl rfl rfl rfl ?_
    refine xu_if_eq e_19 hk_19 rfl (fun c7 => ?_) (fun c7 => ?_)
    · have h := xif_pos c7 h
      refine xOK_fg [0] ?_
      exact t_C_beginStep_34 t q  _ h
    · have h := xif_neg c7 h
      refine xOK_steps (fr' := (14, [some (.ref 0)], [.int (0 : Int32), .ref 19])) (w' := (mk q5.2 t)) (ob := true) e_19 hk_19 3 rfl rfl ?_
      obtain ⟨q8, e9, h⟩ := Option.bind_eq_some_iff.mp h
      refine xu_callv (q := 19) (r := (some q8.1)) (av := [.int (0 : Int32)]) (st := []) (w1 := (mk q8.2 t)) e_19 hk_19 rfl (m_Keeper_checkpoint _ _ _ _ e9) rfl rfl rfl rfl rfl ?_
      refine xu_if_eq e_19 hk_19 rfl (fun c10 => ?_) (fun c10 => ?_)
      · have h := xif_pos c10 h
        refine xOK_steps (fr' := (19, [some (.ref 0)], [.int (0 : Int32)])) (w' := (mk q8.2 t)) (ob := true) e_19 hk_19 1 rfl rfl ?_
        refine xOK_fg [0] ?_
        exact t_C_beginStep_39 t q _ _ h
      · have h := xif_neg c10 h
        refine xOK_fg [0] ?_
        exact t_C_beginStep_34 t q  _ h
  · have h := xif_pos c4 h
    refine xOK_steps (fr' := (6, [some (.ref 0)], [.int (0 : Int32)])) (w' := (mk q2.2 t)) (ob := true) e_19 hk_19 1 rfl rfl ?_
    cases h
    exact xu_iret e_19 hk_19 rfl rfl rfl
set_option maxRecDepth 100000 in
set_option maxHeartbeats 4000000 in
theorem t_Section_noteLoad_26 (t : xS) (q : xS) (s : xS) (h : f_Section_noteLoad_26  s = some q) : xOK 43 none (xEnd 43 none (mk q t)) (16, [none, none], []) (mk s t) 0 0 := by
  unfold f_Section_noteLoad_26 at h
  cases h
  exact xu_vret e_43 hk_43 rfl rfl
set_option maxRecDepth 100000 in
set_option maxHeartbeats 4000000 in
theorem m_Section_noteLoad (x1 : Int32) (s t : xS) (q : xS) (h : f_Section_noteLoad x1 s = some q) : xMet 43 [.ref 9, .int x1] (mk s t) none (mk q t) := by
  refine xMet_of hk_43 rfl rfl rfl ?_
  refine xOK_eq (fr := (0, [some (.ref 9), some (.int x1)], [])) rfl ?_
  unfold f_Section_noteLoad at h
  by_cases o1 : xin x1 128 = true
  case neg => have h := xif_neg o1 h; cases h
  have h := xif_pos o1 h
  refine xOK_steps (fr' := (4, [some (.ref 9), some (.int x1)], [.int ((s.2 5) (x1).toNatClampNeg)])) (w' := (mk s t)) (ob := xin x1 128 && (true)) e_43 hk_43 4 rfl (xand o1 rfl) ?_
  refine xu_if_ne e_43 hk_43 rfl (fun c2 => ?_) (fun c2 => ?_)
  · have h := xif_neg c2 h
    refine xOK_fg [0, 1] ?_
    exact t_Section_noteLoad_26 t q  _ h
  · have h := xif_pos c2 h
    by_cases o3 : xin x1 128 = true
    case neg => have h := xif_neg o3 h; cases h
    have h := xif_pos o3 h
    refine xOK_steps (fr' := (16, [some (.ref 9), some (.int x1)], [])) (w' := (mk (xsc (xsa s 5 (x1).toNatClampNeg (1 : Int32)) 7 ((s.1 7) + (1 : Int32))) t)) (ob := xin x1 128 && (true)) e_43 hk_43 11 rfl (xand o3 rfl) ?_
    refine xOK_fg [0, 1] ?_
    exact t_Section_noteLoad_26 t q  _ h
set_option maxRecDepth 100000 in
set_option maxHeartbeats 4000000 in
theorem t_Held_valueOf_2 (t : xS) (q : (Int32 × xS)) : ∀ (n : Nat), ∀ (x1 x2 x3 : Int32) (s : xS), f_Held_valueOf_2 n x1 x2 x3 s = some q → xOK 37 none (xEnd 37 (some q.1) (mk q.2 t)) (2, [some (.ref 11), some (.int x1), some (.int x2), some (.int x3)], []) (mk s t) 0 0 := by
  intro n
  induction n with
  | zero => intro x1 x2 x3 s h; cases h
  | succ n ih =>
    intro x1 x2 x3 s h
    unfold f_Held_valueOf_2 at h
    refine xOK_steps (fr' := (5, [some (.ref 11), some (.int x1), some (.int x2), some (.int x3)], [.int (s.1 10), .int x3])) (w' := (mk s t)) (ob := true) e_37 hk_37 3 rfl rfl ?_
    refine xu_icmp_ge e_37 hk_37 rfl (fun c1 => ?_) (fun c1 => ?_)
    · have h := xif_pos c1 h
      refine xOK_steps (fr' := (20, [some (.ref 11), some (.int x1), some (.int x2), some (.int x3)], [.int x2])) (w' := (mk s t)) (ob := true) e_37 hk_37 1 rfl rfl ?_
      cases h
      exact xu_iret e_37 hk_37 rfl rfl rfl
    · have h := xif_neg c1 h
      by_cases o2 : xin x3 4 = true
      case neg => have h := xif_neg o2 h; cases h
      have h := xif_pos o2 h
      refine xOK_steps (fr' := (11, [some (.ref 11), some (.int x1), some (.int x2), some (.int x3)], [.int x1, .int ((s.2 6) (x3).toNatClampNeg)])) (w' := (mk s t)) (ob := xin x3 4 && (true)) e_37 hk_37 5 rfl (xand o2 rfl) ?_
      refine xu_icmp_ne e_37 hk_37 rfl (fun c3 => ?_) (fun c3 => ?_)
      · have h := xif_neg c3 h
        refine xOK_steps (fr' := (2, [some (.ref 11), some (.int x1), some (.int x2), some (.int (x3 + (1 : Int32)))], [])) (w' := (mk s t)) (ob := true) e_37 hk_37 2 rfl rfl ?_
        exact ih _ _ _ _ h
      · have h := xif_pos c3 h
        by_cases o4 : xin x3 4 = true
        case neg => have h := xif_neg o4 h; cases h
        have h := xif_pos o4 h
        refine xOK_steps (fr' := (16, [some (.ref 11), some (.int x1), some (.int x2), some (.int x3)], [.int ((s.2 7) (x3).toNatClampNeg)])) (w' := (mk s t)) (ob := xin x3 4 && (true)) e_37 hk_37 4 rfl (xand o4 rfl) ?_
        cases h
        exact xu_iret e_37 hk_37 rfl rfl rfl
set_option maxRecDepth 100000 in
set_option maxHeartbeats 4000000 in
theorem m_Held_valueOf (x1 x2 : Int32) (s t : xS) (q : (Int32 × xS)) (h : f_Held_valueOf x1 x2 s = some q) : xMet 37 [.ref 11, .int x1, .int x2] (mk s t) (some q.1) (mk q.2 t) := by
  refine xMet_of hk_37 rfl rfl rfl ?_
  refine xOK_eq (fr := (0, [some (.ref 11), some (.int x1), some (.int x2), none], [])) rfl ?_
  unfold f_Held_valueOf at h
  refine xOK_steps (fr' := (2, [some (.ref 11), some (.int x1), some (.int x2), some (.int (0 : Int32))], [])) (w' := (mk s t)) (ob := true) e_37 hk_37 2 rfl rfl ?_
  exact t_Held_valueOf_2 t q _ _ _ _ _ h
set_option maxRecDepth 100000 in
set_option maxHeartbeats 4000000 in
theorem t_Bus_fetchWord_27 (t : xS) (q : (Int32 × xS)) (y0 : Int32) (s : xS) (h : f_Bus_fetchWord_27 y0 s = some q) : xOK 47 none (xEnd 47 (some q.1) (mk q.2 t)) (13, [none, none, none], [.int y0]) (mk s t) 0 0 := by
  unfold f_Bus_fetchWord_27 at h
  cases h
  exact xu_iret e_47 hk_47 rfl rfl rfl
set_option maxRecDepth 100000 in
set_option maxHeartbeats 4000000 in
theorem m_Bus_fetchWord (x1 : Int32) (s t : xS) (q : (Int32 × xS)) (h : f_Bus_fetchWord x1 s = some q) : xMet 47 [.ref 15, .int x1] (mk s t) (some q.1) (mk q.2 t) := by
  refine xMet_of hk_47 rfl rfl rfl ?_
  refine xOK_eq (fr := (0, [some (.ref 15), some (.int x1), none], [])) rfl ?_
  unfold f_Bus_fetchWord at h
  refine xOK_steps (fr' := (1, [some (.ref 15), some (.int x1), none], [.int x1])) (w' := (mk s t)) (ob := true) e_47 hk_47 1 rfl rfl ?_
  obtain ⟨q1, e2, h⟩ := Option.bind_eq_some_iff.mp h
  refine xu_calls (r := (some q1)) (av := [.int x1]) (st := []) (w1 := (mk s t)) e_47 hk_47 rfl rfl (m_Bus_inFram _ _ _ _ e2) rfl rfl rfl rfl ?_
  refine xu_if_ne e_47 hk_47 rfl (fun c3 => ?_) (fun c3 => ?_)
  · have h := xif_neg c3 h
    refine xOK_steps (fr' := (15, [some (.ref 15), some (.int x1), none], [.int x1])) (w' := (mk s t)) (ob := true) e_47 hk_47 1 rfl rfl ?_
    obtain ⟨q4, e5, h⟩ := Option.bind_eq_some_iff.mp h
    refine xu_calls (r := (some q4)) (av := [.int x1]) (st := []) (w1 := (mk s t)) e_47 hk_47 rfl rfl (m_Bus_framWord _ _ _ _ e5) rfl rfl rfl rfl ?_
    refine xOK_steps (fr' := (20, [some (.ref 15), some (.int x1), some (.int q4)], [.int q4, .ref 9])) (w' := (mk s t)) (ob := true) e_47 hk_47 4 rfl rfl ?_
    obtain ⟨q6, e7, h⟩ := Option.bind_eq_some_iff.mp h
    refine xu_callv (q := 9) (r := none) (av := [.int q4]) (st := []) (w1 := (mk q6 t)) e_47 hk_47 rfl (m_Section_noteLoad _ _ _ _ e7) rfl rfl rfl rfl rfl ?_
    by_cases o8 : xin q4 128 = true
    case neg => have h := xif_neg o8 h; cases h
    have h := xif_pos o8 h
    refine xOK_steps (fr' := (30, [some (.ref 15), some (.int x1), some (.int q4)], [.int ((q6.2 1) (q4).toNatClampNeg), .int q4, .ref 11])) (w' := (mk q6 t)) (ob := xin q4 128 && (true)) e_47 hk_47 9 rfl (xand o8 rfl) ?_
    obtain ⟨q9, e10, h⟩ := Option.bind_eq_some_iff.mp h
    refine xu_callv (q := 11) (r := (some q9.1)) (av := [.int q4, .int ((q6.2 1) (q4).toNatClampNeg)]) (st := []) (w1 := (mk q9.2 t)) e_47 hk_47 rfl (m_Held_valueOf _ _ _ _ _ e10) rfl rfl rfl rfl rfl ?_
    cases h
    exact xu_iret e_47 hk_47 rfl rfl rfl
  · have h := xif_pos c3 h
    refine xOK_steps (fr' := (4, [some (.ref 15), some (.int x1), none], [.int x1])) (w' := (mk s t)) (ob := true) e_47 hk_47 1 rfl rfl ?_
    obtain ⟨q11, e12, h⟩ := Option.bind_eq_some_iff.mp h
    refine xu_calls (r := (some q11)) (av := [.int x1]) (st := []) (w1 := (mk s t)) e_47 hk_47 rfl rfl (m_Bus_inSram _ _ _ _ e12) rfl rfl rfl rfl ?_
    refine xu_if_eq e_47 hk_47 rfl (fun c13 => ?_) (fun c13 => ?_)
    · have h := xif_pos c13 h
      refine xOK_steps (fr' := (13, [some (.ref 15), some (.int x1), none], [.int (0 : Int32)])) (w' := (mk s t)) (ob := true) e_47 hk_47 1 rfl rfl ?_
      refine xOK_fg [0, 1] ?_
      exact t_Bus_fetchWord_27 t q _ _ h
    · have h := xif_neg c13 h
      refine xOK_steps (fr' := (9, [some (.ref 15), some (.int x1), none], [.int x1, .ref 16])) (w' := (mk s t)) (ob := true) e_47 hk_47 3 rfl rfl ?_
      obtain ⟨q14, e15, h⟩ := Option.bind_eq_some_iff.mp h
      refine xu_calls (r := (some q14)) (av := [.int x1]) (st := [.ref 16]) (w1 := (mk s t)) e_47 hk_47 rfl rfl (m_Bus_sramWord _ _ _ _ e15) rfl rfl rfl rfl ?_
      by_cases o16 : xin q14 16 = true
      case neg => have h := xif_neg o16 h; cases h
      have h := xif_pos o16 h
      refine xOK_steps (fr' := (13, [some (.ref 15), some (.int x1), none], [.int ((s.2 9) (q14).toNatClampNeg)])) (w' := (mk s t)) (ob := xin q14 16 && (true)) e_47 hk_47 2 rfl (xand o16 rfl) ?_
      refine xOK_fg [0, 1] ?_
      exact t_Bus_fetchWord_27 t q _ _ h
set_option maxRecDepth 100000 in
set_option maxHeartbeats 4000000 in
theorem t_Processor_setRegister_56 (t : xS) (q : xS) (s : xS) (h : f_Processor_setRegister_56  s = some q) : xOK 81 none (xEnd 81 none (mk q t)) (34, [none, none, none], []) (mk s t) 0 0 := by
  unfold f_Processor_setRegister_56 at h
  cases h
  exact xu_vret e_81 hk_81 rfl rfl
set_option maxRecDepth 100000 in
set_option maxHeartbeats 4000000 in
theorem t_Processor_setRegister_9 (t : xS) (q : xS) (x1 x2 : Int32) (s : xS) (h : f_Processor_setRegister_9 x1 x2 s = some q) : xOK 81 none (xEnd 81 none (mk q t)) (5, [some (.ref 17), some (.int x1), some (.int x2)], []) (mk s t) 0 0 := by
  unfold f_Processor_setRegister_9 at h
  by_cases o1 : xin x1 16 = true
  case neg => have h := xif_neg o1 h; cases h
  have h := xif_pos o1 h
  refine xOK_steps (fr' := (34, [some (.ref 17), some (.int x1), some (.int x2)], [])) (w' := (mk (xsa s 10 (x1).toNatClampNeg (x2 &&& (65534 : Int32))) t)) (ob := xin x1 16 && (true)) e_81 hk_81 8 rfl (xand o1 rfl) ?_
  refine xOK_fg [0, 1, 2] ?_
  exact t_Processor_setRegister_56 t q  _ h
set_option maxRecDepth 100000 in
set_option maxHeartbeats 4000000 in
theorem m_Processor_setRegister (x1 x2 : Int32) (s t : xS) (q : xS) (h : f_Processor_setRegister x1 x2 s = some q) : xMet 81 [.ref 17, .int x1, .int x2] (mk s t) none (mk q t) := by
  refine xMet_of hk_81 rfl rfl rfl ?_
  refine xOK_eq (fr := (0, [some (.ref 17), some (.int x1), some (.int x2)], [])) rfl ?_
  unfold f_Processor_setRegister at h
  refine xOK_steps (fr' := (1, [some (.ref 17), some (.int x1), some (.int x2)], [.int x1])) (w' := (mk s t)) (ob := true) e_81 hk_81 1 rfl rfl ?_
  refine xu_if_eq e_81 hk_81 rfl (fun c2 => ?_) (fun c2 => ?_)
  · have h := xif_pos c2 h
    exact t_Processor_setRegister_9 t q _ _ _ h
  · have h := xif_neg c2 h
    refine xOK_steps (fr' := (4, [some (.ref 17), some (.int x1), some (.int x2)], [.int (1 : Int32), .int x1])) (w' := (mk s t)) (ob := true) e_81 hk_81 2 rfl rfl ?_
    refine xu_icmp_ne e_81 hk_81 rfl (fun c3 => ?_) (fun c3 => ?_)
    · have h := xif_neg c3 h
      refine xOK_steps (fr' := (15, [some (.ref 17), some (.int x1), some (.int x2)], [.int (2 : Int32), .int x1])) (w' := (mk s t)) (ob := true) e_81 hk_81 2 rfl rfl ?_
      refine xu_icmp_ne e_81 hk_81 rfl (fun c4 => ?_) (fun c4 => ?_)
      · have h := xif_neg c4 h
        refine xOK_steps (fr' := (26, [some (.ref 17), some (.int x1), some (.int x2)], [.int (3 : Int32), .int x1])) (w' := (mk s t)) (ob := true) e_81 hk_81 2 rfl rfl ?_
        refine xu_icmp_eq e_81 hk_81 rfl (fun c5 => ?_) (fun c5 => ?_)
        · have h := xif_pos c5 h
          refine xOK_fg [0, 1, 2] ?_
          exact t_Processor_setRegister_56 t q  _ h
        · have h := xif_neg c5 h
          by_cases o6 : xin x1 16 = true
          case neg => have h := xif_neg o6 h; cases h
          have h := xif_pos o6 h
          refine xOK_steps (fr' := (34, [some (.ref 17), some (.int x1), some (.int x2)], [])) (w' := (mk (xsa s 10 (x1).toNatClampNeg (x2 &&& (65535 : Int32))) t)) (ob := xin x1 16 && (true)) e_81 hk_81 7 rfl (xand o6 rfl) ?_
          refine xOK_fg [0, 1, 2] ?_
          exact t_Processor_setRegister_56 t q  _ h
      · have h := xif_pos c4 h
        by_cases o7 : xin x1 16 = true
        case neg => have h := xif_neg o7 h; cases h
        have h := xif_pos o7 h
        refine xOK_steps (fr' := (34, [some (.ref 17), some (.int x1), some (.int x2)], [])) (w' := (mk (xsa s 10 (x1).toNatClampNeg (x2 &&& (263 : Int32))) t)) (ob := xin x1 16 && (true)) e_81 hk_81 8 rfl (xand o7 rfl) ?_
        refine xOK_fg [0, 1, 2] ?_
        exact t_Processor_setRegister_56 t q  _ h
    · have h := xif_pos c3 h
      exact t_Processor_setRegister_9 t q _ _ _ h
set_option maxRecDepth 100000 in
set_option maxHeartbeats 4000000 in
theorem m_Processor_nextWord (s t : xS) (q : (Int32 × xS)) (h : f_Processor_nextWord  s = some q) : xMet 78 [.ref 17] (mk s t) (some q.1) (mk q.2 t) := by
  refine xMet_of hk_78 rfl rfl rfl ?_
  refine xOK_eq (fr := (0, [some (.ref 17), none], [])) rfl ?_
  unfold f_Processor_nextWord at h
  refine xOK_steps (fr' := (6, [some (.ref 17), none], [.int ((s.2 10) 0), .ref 15])) (w' := (mk s t)) (ob := true) e_78 hk_78 6 rfl rfl ?_
  obtain ⟨q1, e2, h⟩ := Option.bind_eq_some_iff.mp h
  refine xu_callv (q := 15) (r := (some q1.1)) (av := [.int ((s.2 10) 0)]) (st := []) (w1 := (mk q1.2 t)) e_78 hk_78 rfl (m_Bus_fetchWord _ _ _ _ e2) rfl rfl rfl rfl rfl ?_
  refine xOK_steps (fr' := (16, [some (.ref 17), some (.int q1.1)], [.int (((q1.2.2 10) 0) + (2 : Int32)), .int (0 : Int32), .ref 17])) (w' := (mk q1.2 t)) (ob := true) e_78 hk_78 9 rfl rfl ?_
  obtain ⟨q3, e4, h⟩ := Option.bind_eq_some_iff.mp h
  refine xu_callv (q := 17) (r := none) (av := [.int (0 : Int32), .int (((q1.2.2 10) 0) + (2 : Int32))]) (st := []) (w1 := (mk q3 t)) e_78 hk_78 rfl (m_Processor_setRegister _ _ _ _ _ e4) rfl rfl rfl rfl rfl ?_
  refine xOK_steps (fr' := (18, [some (.ref 17), some (.int q1.1)], [.int q1.1])) (w' := (mk q3 t)) (ob := true) e_78 hk_78 1 rfl rfl ?_
  cases h
  exact xu_iret e_78 hk_78 rfl rfl rfl
set_option maxRecDepth 100000 in
set_option maxHeartbeats 4000000 in
theorem m_Processor_find (x1 x2 : Int32) (s t : xS) (q : xS) (h : f_Processor_find x1 x2 s = some q) : xMet 75 [.ref 17, .int x1, .int x2] (mk s t) none (mk q t) := by
  refine xMet_of hk_75 rfl rfl rfl ?_
  refine xOK_eq (fr := (0, [some (.ref 17), some (.int x1), some (.int x2)], [])) rfl ?_
  unfold f_Processor_find at h
  refine xOK_steps (fr' := (6, [some (.ref 17), some (.int x1), some (.int x2)], [])) (w' := (mk (xsc (xsc s 14 x1) 15 x2) t)) (ob := true) e_75 hk_75 6 rfl rfl ?_
  cases h
  exact xu_vret e_75 hk_75 rfl rfl
set_option maxRecDepth 100000 in
set_option maxHeartbeats 4000000 in
theorem t_Processor_base_15 (t : xS) (q : (Int32 × xS)) (y0 : Int32) (s : xS) (h : f_Processor_base_15 y0 s = some q) : xOK 76 none (xEnd 76 (some q.1) (mk q.2 t)) (9, [none, none], [.int y0]) (mk s t) 0 0 := by
  unfold f_Processor_base_15 at h
  cases h
  exact xu_iret e_76 hk_76 rfl rfl rfl
set_option maxRecDepth 100000 in
set_option maxHeartbeats 4000000 in
theorem m_Processor_base (x1 : Int32) (s t : xS) (q : (Int32 × xS)) (h : f_Processor_base x1 s = some q) : xMet 76 [.ref 17, .int x1] (mk s t) (some q.1) (mk q.2 t) := by
  refine xMet_of hk_76 rfl rfl rfl ?_
  refine xOK_eq (fr := (0, [some (.ref 17), some (.int x1)], [])) rfl ?_
  unfold f_Processor_base at h
  refine xOK_steps (fr' := (2, [some (.ref 17), some (.int x1)], [.int (2 : Int32), .int x1])) (w' := (mk s t)) (ob := true) e_76 hk_76 2 rfl rfl ?_
  refine xu_icmp_ne e_76 hk_76 rfl (fun c1 => ?_) (fun c1 => ?_)
  · have h := xif_neg c1 h
    by_cases o2 : xin x1 16 = true
    case neg => have h := xif_neg o2 h; cases h
    have h := xif_pos o2 h
    refine xOK_steps (fr' := (9, [some (.ref 17), some (.int x1)], [.int ((s.2 10) (x1).toNatClampNeg)])) (w' := (mk s t)) (ob := xin x1 16 && (true)) e_76 hk_76 4 rfl (xand o2 rfl) ?_
    refine xOK_fg [0, 1] ?_
    exact t_Processor_base_15 t q _ _ h
  · have h := xif_pos c1 h
    refine xOK_steps (fr' := (9, [some (.ref 17), some (.int x1)], [.int (0 : Int32)])) (w' := (mk s t)) (ob := true) e_76 hk_76 2 rfl rfl ?_
    refine xOK_fg [0, 1] ?_
    exact t_Processor_base_15 t q _ _ h
set_option maxRecDepth 100000 in
set_option maxHeartbeats 4000000 in
theorem t_Processor_findSource_158 (t : xS) (q : xS) (s : xS) (h : f_Processor_findSource_158  s = some q) : xOK 73 none (xEnd 73 none (mk q t)) (89, [none, none, none], []) (mk s t) 0 0 := by
  unfold f_Processor_findSource_158 at h
  cases h
  exact xu_vret e_73 hk_73 rfl rfl
set_option maxRecDepth 100000 in
set_option maxHeartbeats 4000000 in
theorem t_Processor_findSource_154 (t : xS) (q : xS) (y1 y2 y3 : Int32) (s : xS) (h : f_Processor_findSource_154 y1 y2 y3 s = some q) : xOK 73 none (xEnd 73 none (mk q t)) (87, [none, none, none], [.int y3, .int y2, .int y1, .ref 17]) (mk s t) 0 0 := by
  unfold f_Processor_findSource_154 at h
  refine xOK_steps (fr' := (88, [none, none, none], [.int (y2 + y3), .int y1, .ref 17])) (w' := (mk s t)) (ob := true) e_73 hk_73 1 rfl rfl ?_
  obtain ⟨q1, e2, h⟩ := Option.bind_eq_some_iff.mp h
  refine xu_callv (q := 17) (r := none) (av := [.int y1, .int (y2 + y3)]) (st := []) (w1 := (mk q1 t)) e_73 hk_73 rfl (m_Processor_setRegister _ _ _ _ _ e2) rfl rfl rfl rfl rfl ?_
  exact t_Processor_findSource_158 t q  _ h
set_option maxRecDepth 100000 in
set_option maxHeartbeats 4000000 in
theorem t_Processor_findSource_153 (t : xS) (q : xS) (y1 y2 : Int32) (s : xS) (h : f_Processor_findSource_153 y1 y2 s = some q) : xOK 73 none (xEnd 73 none (mk q t)) (86, [none, none, none], [.int y2, .int y1, .ref 17]) (mk s t) 0 0 := by
  unfold f_Processor_findSource_153 at h
  refine xOK_steps (fr' := (87, [none, none, none], [.int (2 : Int32), .int y2, .int y1, .ref 17])) (w' := (mk s t)) (ob := true) e_73 hk_73 1 rfl rfl ?_
  exact t_Processor_findSource_154 t q _ _ _ _ h
set_option maxRecDepth 100000 in
set_option maxHeartbeats 4000000 in
theorem t_Processor_findSource_113 (t : xS) (q : xS) (x1 x2 : Int32) (s : xS) (h : f_Processor_findSource_113 x1 x2 s = some q) : xOK 73 none (xEnd 73 none (mk q t)) (62, [some (.ref 17), some (.int x1), some (.int x2)], []) (mk s t) 0 0 := by
  unfold f_Processor_findSource_113 at h
  by_cases o3 : xin x1 16 = true
  case neg => have h := xif_neg o3 h; cases h
  have h := xif_pos o3 h
  refine xOK_steps (fr' := (68, [some (.ref 17), some (.int x1), some (.int x2)], [.int ((s.2 10) (x1).toNatClampNeg), .int (2 : Int32), .ref 17])) (w' := (mk s t)) (ob := xin x1 16 && (true)) e_73 hk_73 6 rfl (xand o3 rfl) ?_
  obtain ⟨q4, e5, h⟩ := Option.bind_eq_some_iff.mp h
  refine xu_callv (q := 17) (r := none) (av := [.int (2 : Int32), .int ((s.2 10) (x1).toNatClampNeg)]) (st := []) (w1 := (mk q4 t)) e_73 hk_73 rfl (m_Processor_find _ _ _ _ _ e5) rfl rfl rfl rfl rfl ?_
  refine xOK_steps (fr' := (71, [some (.ref 17), some (.int x1), some (.int x2)], [.int (3 : Int32), .int x2])) (w' := (mk q4 t)) (ob := true) e_73 hk_73 2 rfl rfl ?_
  refine xu_icmp_ne e_73 hk_73 rfl (fun c6 => ?_) (fun c6 => ?_)
  · have h := xif_neg c6 h
    refine xOK_fg [0, 1, 2] ?_
    exact t_Processor_findSource_158 t q  _ h
  · have h := xif_pos c6 h
    by_cases o7 : xin x1 16 = true
    case neg => have h := xif_neg o7 h; cases h
    have h := xif_pos o7 h
    refine xOK_steps (fr' := (80, [some (.ref 17), some (.int x1), some (.int x2)], [.int (q4.1 13), .int ((q4.2 10) (x1).toNatClampNeg), .int x1, .ref 17])) (w' := (mk q4 t)) (ob := xin x1 16 && (true)) e_73 hk_73 8 rfl (xand o7 rfl) ?_
    refine xu_if_eq e_73 hk_73 rfl (fun c8 => ?_) (fun c8 => ?_)
    · have h := xif_pos c8 h
      refine xOK_fg [0, 1, 2] ?_
      exact t_Processor_findSource_153 t q _ _ _ h
    · have h := xif_neg c8 h
      refine xOK_steps (fr' := (83, [some (.ref 17), some (.int x1), some (.int x2)], [.int (1 : Int32), .int x1, .int ((q4.2 10) (x1).toNatClampNeg), .int x1, .ref 17])) (w' := (mk q4 t)) (ob := true) e_73 hk_73 2 rfl rfl ?_
      refine xu_icmp_eq e_73 hk_73 rfl (fun c9 => ?_) (fun c9 => ?_)
      · have h := xif_pos c9 h
        refine xOK_fg [0, 1, 2] ?_
        exact t_Processor_findSource_153 t q _ _ _ h
      · have h := xif_neg c9 h
        refine xOK_steps (fr' := (87, [some (.ref 17), some (.int x1), some (.int x2)], [.int (1 : Int32), .int ((q4.2 10) (x1).toNatClampNeg), .int x1, .ref 17])) (w' := (mk q4 t)) (ob := true) e_73 hk_73 2 rfl rfl ?_
        refine xOK_fg [0, 1, 2] ?_
        exact t_Processor_findSource_154 t q _ _ _ _ h
set_option maxRecDepth 100000 in
set_option maxHeartbeats 4000000 in
theorem t_Processor_findSource_53 (t : xS) (q : xS) (x1 x2 : Int32) (s : xS) (h : f_Processor_findSource_53 x1 x2 s = some q) : xOK 73 none (xEnd 73 none (mk q t)) (29, [some (.ref 17), some (.int x1), some (.int x2)], []) (mk s t) 0 0 := by
  unfold f_Processor_findSource_53 at h
  refine xOK_steps (fr' := (30, [some (.ref 17), some (.int x1), some (.int x2)], [.int x2])) (w' := (mk s t)) (ob := true) e_73 hk_73 1 rfl rfl ?_
  refine xu_if_ne e_73 hk_73 rfl (fun c10 => ?_) (fun c10 => ?_)
  · have h := xif_neg c10 h
    refine xOK_steps (fr' := (38, [some (.ref 17), some (.int x1), some (.int x2)], [.int (1 : Int32), .int x2])) (w' := (mk s t)) (ob := true) e_73 hk_73 2 rfl rfl ?_
    refine xu_icmp_ne e_73 hk_73 rfl (fun c11 => ?_) (fun c11 => ?_)
    · have h := xif_neg c11 h
      refine xOK_steps (fr' := (52, [some (.ref 17), some (.int x1), some (.int x2)], [.int x1])) (w' := (mk s t)) (ob := true) e_73 hk_73 1 rfl rfl ?_
      refine xu_if_ne e_73 hk_73 rfl (fun c12 => ?_) (fun c12 => ?_)
      · have h := xif_neg c12 h
        exact t_Processor_findSource_113 t q _ _ _ h
      · have h := xif_pos c12 h
        refine xOK_steps (fr' := (55, [some (.ref 17), some (.int x1), some (.int x2)], [.int (3 : Int32), .int x2])) (w' := (mk s t)) (ob := true) e_73 hk_73 2 rfl rfl ?_
        refine xu_icmp_ne e_73 hk_73 rfl (fun c13 => ?_) (fun c13 => ?_)
        · have h := xif_neg c13 h
          exact t_Processor_findSource_113 t q _ _ _ h
        · have h := xif_pos c13 h
          refine xOK_steps (fr' := (59, [some (.ref 17), some (.int x1), some (.int x2)], [.ref 17, .int (0 : Int32), .ref 17])) (w' := (mk s t)) (ob := true) e_73 hk_73 3 rfl rfl ?_
          obtain ⟨q14, e15, h⟩ := Option.bind_eq_some_iff.mp h
          refine xu_callv (q := 17) (r := (some q14.1)) (av := []) (st := [.int (0 : Int32), .ref 17]) (w1 := (mk q14.2 t)) e_73 hk_73 rfl (m_Processor_nextWord  _ _ _ e15) rfl rfl rfl rfl rfl ?_
          obtain ⟨q16, e17, h⟩ := Option.bind_eq_some_iff.mp h
          refine xu_callv (q := 17) (r := none) (av := [.int (0 : Int32), .int q14.1]) (st := []) (w1 := (mk q16 t)) e_73 hk_73 rfl (m_Processor_find _ _ _ _ _ e17) rfl rfl rfl rfl rfl ?_
          refine xOK_steps (fr' := (89, [some (.ref 17), some (.int x1), some (.int x2)], [])) (w' := (mk q16 t)) (ob := true) e_73 hk_73 1 rfl rfl ?_
          refine xOK_fg [0, 1, 2] ?_
          exact t_Processor_findSource_158 t q  _ h
    · have h := xif_pos c11 h
      refine xOK_steps (fr' := (43, [some (.ref 17), some (.int x1), some (.int x2)], [.int x1, .ref 17, .int (2 : Int32), .ref 17])) (w' := (mk s t)) (ob := true) e_73 hk_73 4 rfl rfl ?_
      obtain ⟨q18, e19, h⟩ := Option.bind_eq_some_iff.mp h
      refine xu_callv (q := 17) (r := (some q18.1)) (av := [.int x1]) (st := [.int (2 : Int32), .ref 17]) (w1 := (mk q18.2 t)) e_73 hk_73 rfl (m_Processor_base _ _ _ _ e19) rfl rfl rfl rfl rfl ?_
      refine xOK_steps (fr' := (45, [some (.ref 17), some (.int x1), some (.int x2)], [.ref 17, .int q18.1, .int (2 : Int32), .ref 17])) (w' := (mk q18.2 t)) (ob := true) e_73 hk_73 1 rfl rfl ?_
      obtain ⟨q20, e21, h⟩ := Option.bind_eq_some_iff.mp h
      refine xu_callv (q := 17) (r := (some q20.1)) (av := []) (st := [.int q18.1, .int (2 : Int32), .ref 17]) (w1 := (mk q20.2 t)) e_73 hk_73 rfl (m_Processor_nextWord  _ _ _ e21) rfl rfl rfl rfl rfl ?_
      refine xOK_steps (fr' := (49, [some (.ref 17), some (.int x1), some (.int x2)], [.int ((q18.1 + q20.1) &&& (65535 : Int32)), .int (2 : Int32), .ref 17])) (w' := (mk q20.2 t)) (ob := true) e_73 hk_73 3 rfl rfl ?_
      obtain ⟨q22, e23, h⟩ := Option.bind_eq_some_iff.mp h
      refine xu_callv (q := 17) (r := none) (av := [.int (2 : Int32), .int ((q18.1 + q20.1) &&& (65535 : Int32))]) (st := []) (w1 := (mk q22 t)) e_73 hk_73 rfl (m_Processor_find _ _ _ _ _ e23) rfl rfl rfl rfl rfl ?_
      refine xOK_steps (fr' := (89, [some (.ref 17), some (.int x1), some (.int x2)], [])) (w' := (mk q22 t)) (ob := true) e_73 hk_73 1 rfl rfl ?_
      refine xOK_fg [0, 1, 2] ?_
      exact t_Processor_findSource_158 t q  _ h
  · have h := xif_pos c10 h
    refine xOK_steps (fr' := (34, [some (.ref 17), some (.int x1), some (.int x2)], [.int x1, .int (1 : Int32), .ref 17])) (w' := (mk s t)) (ob := true) e_73 hk_73 3 rfl rfl ?_
    obtain ⟨q24, e25, h⟩ := Option.bind_eq_some_iff.mp h
    refine xu_callv (q := 17) (r := none) (av := [.int (1 : Int32), .int x1]) (st := []) (w1 := (mk q24 t)) e_73 hk_73 rfl (m_Processor_find _ _ _ _ _ e25) rfl rfl rfl rfl rfl ?_
    refine xOK_steps (fr' := (89, [some (.ref 17), some (.int x1), some (.int x2)], [])) (w' := (mk q24 t)) (ob := true) e_73 hk_73 1 rfl rfl ?_
    refine xOK_fg [0, 1, 2] ?_
    exact t_Processor_findSource_158 t q  _ h
set_option maxRecDepth 100000 in
set_option maxHeartbeats 4000000 in
theorem t_Processor_findSource_47 (t : xS) (q : xS) (y1 y2 : Int32) (s : xS) (h : f_Processor_findSource_47 y1 y2 s = some q) : xOK 73 none (xEnd 73 none (mk q t)) (27, [none, none, none], [.int y2, .int y1, .ref 17]) (mk s t) 0 0 := by
  unfold f_Processor_findSource_47 at h
  obtain ⟨q26, e27, h⟩ := Option.bind_eq_some_iff.mp h
  refine xu_callv (q := 17) (r := none) (av := [.int y1, .int y2]) (st := []) (w1 := (mk q26 t)) e_73 hk_73 rfl (m_Processor_find _ _ _ _ _ e27) rfl rfl rfl rfl rfl ?_
  refine xOK_steps (fr' := (89, [none, none, none], [])) (w' := (mk q26 t)) (ob := true) e_73 hk_73 1 rfl rfl ?_
  exact t_Processor_findSource_158 t q  _ h
set_option maxRecDepth 100000 in
set_option maxHeartbeats 4000000 in
theorem t_Processor_findSource_18 (t : xS) (q : xS) (y1 y2 : Int32) (s : xS) (h : f_Processor_findSource_18 y1 y2 s = some q) : xOK 73 none (xEnd 73 none (mk q t)) (11, [none, none, none], [.int y2, .int y1, .ref 17]) (mk s t) 0 0 := by
  unfold f_Processor_findSource_18 at h
  obtain ⟨q28, e29, h⟩ := Option.bind_eq_some_iff.mp h
  refine xu_callv (q := 17) (r := none) (av := [.int y1, .int y2]) (st := []) (w1 := (mk q28 t)) e_73 hk_73 rfl (m_Processor_find _ _ _ _ _ e29) rfl rfl rfl rfl rfl ?_
  refine xOK_steps (fr' := (89, [none, none, none], [])) (w' := (mk q28 t)) (ob := true) e_73 hk_73 1 rfl rfl ?_
  exact t_Processor_findSource_158 t q  _ h
set_option maxRecDepth 100000 in
set_option maxHeartbeats 4000000 in
theorem m_Processor_findSource (x1 x2 : Int32) (s t : xS) (q : xS) (h : f_Processor_findSource x1 x2 s = some q) : xMet 73 [.ref 17, .int x1, .int x2] (mk s t) none (mk q t) := by
  refine xMet_of hk_73 rfl rfl rfl ?_
  refine xOK_eq (fr := (0, [some (.ref 17), some (.int x1), some (.int x2)], [])) rfl ?_
  unfold f_Processor_findSource at h
  refine xOK_steps (fr' := (2, [some (.ref 17), some (.int x1), some (.int x2)], [.int (3 : Int32), .int x1])) (w' := (mk s t)) (ob := true) e_73 hk_73 2 rfl rfl ?_
  refine xu_icmp_ne e_73 hk_73 rfl (fun c30 => ?_) (fun c30 => ?_)
  · have h := xif_neg c30 h
    refine xOK_steps (fr' := (15, [some (.ref 17), some (.int x1), some (.int x2)], [.int (2 : Int32), .int x1])) (w' := (mk s t)) (ob := true) e_73 hk_73 2 rfl rfl ?_
    refine xu_icmp_ne e_73 hk_73 rfl (fun c31 => ?_) (fun c31 => ?_)
    · have h := xif_neg c31 h
      exact t_Processor_findSource_53 t q _ _ _ h
    · have h := xif_pos c31 h
      refine xOK_steps (fr' := (18, [some (.ref 17), some (.int x1), some (.int x2)], [.int (2 : Int32), .int x2])) (w' := (mk s t)) (ob := true) e_73 hk_73 2 rfl rfl ?_
      refine xu_icmp_lt e_73 hk_73 rfl (fun c32 => ?_) (fun c32 => ?_)
      · have h := xif_pos c32 h
        exact t_Processor_findSource_53 t q _ _ _ h
      · have h := xif_neg c32 h
        refine xOK_steps (fr' := (23, [some (.ref 17), some (.int x1), some (.int x2)], [.int (2 : Int32), .int x2, .int (0 : Int32), .ref 17])) (w' := (mk s t)) (ob := true) e_73 hk_73 4 rfl rfl ?_
        refine xu_icmp_ne e_73 hk_73 rfl (fun c33 => ?_) (fun c33 => ?_)
        · have h := xif_neg c33 h
          refine xOK_steps (fr' := (27, [some (.ref 17), some (.int x1), some (.int x2)], [.int (8 : Int32), .int (0 : Int32), .ref 17])) (w' := (mk s t)) (ob := true) e_73 hk_73 1 rfl rfl ?_
          refine xOK_fg [0, 1, 2] ?_
          exact t_Processor_findSource_47 t q _ _ _ h
        · have h := xif_pos c33 h
          refine xOK_steps (fr' := (27, [some (.ref 17), some (.int x1), some (.int x2)], [.int (4 : Int32), .int (0 : Int32), .ref 17])) (w' := (mk s t)) (ob := true) e_73 hk_73 2 rfl rfl ?_
          refine xOK_fg [0, 1, 2] ?_
          exact t_Processor_findSource_47 t q _ _ _ h
  · have h := xif_pos c30 h
    refine xOK_steps (fr' := (7, [some (.ref 17), some (.int x1), some (.int x2)], [.int (3 : Int32), .int x2, .int (0 : Int32), .ref 17])) (w' := (mk s t)) (ob := true) e_73 hk_73 4 rfl rfl ?_
    refine xu_icmp_ne e_73 hk_73 rfl (fun c34 => ?_) (fun c34 => ?_)
    · have h := xif_neg c34 h
      refine xOK_steps (fr' := (11, [some (.ref 17), some (.int x1), some (.int x2)], [.int x2, .int (0 : Int32), .ref 17])) (w' := (mk s t)) (ob := true) e_73 hk_73 1 rfl rfl ?_
      refine xOK_fg [0, 1, 2] ?_
      exact t_Processor_findSource_18 t q _ _ _ h
    · have h := xif_pos c34 h
      refine xOK_steps (fr' := (11, [some (.ref 17), some (.int x1), some (.int x2)], [.int (65535 : Int32), .int (0 : Int32), .ref 17])) (w' := (mk s t)) (ob := true) e_73 hk_73 2 rfl rfl ?_
      refine xOK_fg [0, 1, 2] ?_
      exact t_Processor_findSource_18 t q _ _ _ h
set_option maxRecDepth 100000 in
set_option maxHeartbeats 4000000 in
theorem t_Processor_mask_15 (t : xS) (q : (Int32 × xS)) (y0 : Int32) (s : xS) (h : f_Processor_mask_15 y0 s = some q) : xOK 84 none (xEnd 84 (some q.1) (mk q.2 t)) (6, [none], [.int y0]) (mk s t) 0 0 := by
  unfold f_Processor_mask_15 at h
  cases h
  exact xu_iret e_84 hk_84 rfl rfl rfl
set_option maxRecDepth 100000 in
set_option maxHeartbeats 4000000 in
theorem m_Processor_mask (s t : xS) (q : (Int32 × xS)) (h : f_Processor_mask  s = some q) : xMet 84 [.ref 17] (mk s t) (some q.1) (mk q.2 t) := by
  refine xMet_of hk_84 rfl rfl rfl ?_
  refine xOK_eq (fr := (0, [some (.ref 17)], [])) rfl ?_
  unfold f_Processor_mask at h
  refine xOK_steps (fr' := (2, [some (.ref 17)], [.int (s.1 13)])) (w' := (mk s t)) (ob := true) e_84 hk_84 2 rfl rfl ?_
  refine xu_if_eq e_84 hk_84 rfl (fun c1 => ?_) (fun c1 => ?_)
  · have h := xif_pos c1 h
    refine xOK_steps (fr' := (6, [some (.ref 17)], [.int (65535 : Int32)])) (w' := (mk s t)) (ob := true) e_84 hk_84 1 rfl rfl ?_
    refine xOK_fg [0] ?_
    exact t_Processor_mask_15 t q _ _ h
  · have h := xif_neg c1 h
    refine xOK_steps (fr' := (6, [some (.ref 17)], [.int (255 : Int32)])) (w' := (mk s t)) (ob := true) e_84 hk_84 2 rfl rfl ?_
    refine xOK_fg [0] ?_
    exact t_Processor_mask_15 t q _ _ h
set_option maxRecDepth 100000 in
set_option maxHeartbeats 4000000 in
theorem t_Lasting_lengthenLog_18 (t : xS) (q : xS) (s : xS) (h : f_Lasting_lengthenLog_18  s = some q) : xOK 28 none (xEnd 28 none (mk q t)) (10, [none], []) (mk s t) 0 0 := by
  unfold f_Lasting_lengthenLog_18 at h
  cases h
  exact xu_vret e_28 hk_28 rfl rfl
set_option maxRecDepth 100000 in
set_option maxHeartbeats 4000000 in
theorem m_Lasting_lengthenLog (s t : xS) (q : xS) (h : f_Lasting_lengthenLog  s = some q) : xMet 28 [.ref 3] (mk s t) none (mk q t) := by
  refine xMet_of hk_28 rfl rfl rfl ?_
  refine xOK_eq (fr := (0, [some (.ref 3)], [])) rfl ?_
  unfold f_Lasting_lengthenLog at h
  refine xOK_steps (fr' := (3, [some (.ref 3)], [.int (4 : Int32), .int (s.1 3)])) (w' := (mk s t)) (ob := true) e_28 hk_28 3 rfl rfl ?_
  refine xu_icmp_ge e_28 hk_28 rfl (fun c1 => ?_) (fun c1 => ?_)
  · have h := xif_pos c1 h
    refine xOK_fg [0] ?_
    exact t_Lasting_lengthenLog_18 t q  _ h
  · have h := xif_neg c1 h
    refine xOK_steps (fr' := (10, [some (.ref 3)], [])) (w' := (mk (xsc s 3 ((s.1 3) + (1 : Int32))) t)) (ob := true) e_28 hk_28 6 rfl rfl ?_
    refine xOK_fg [0] ?_
    exact t_Lasting_lengthenLog_18 t q  _ h
set_option maxRecDepth 100000 in
set_option maxHeartbeats 4000000 in
theorem m_Samples_take (s t : xS) (q : (Int32 × xS)) (h : f_Samples_take  s = some q) : xMet 33 [.ref 7] (mk s t) (some q.1) (mk q.2 t) := by
  refine xMet_of hk_33 rfl rfl rfl ?_
  refine xOK_eq (fr := (0, [some (.ref 7), none], [])) rfl ?_
  unfold f_Samples_take at h
  refine xOK_steps (fr' := (2, [some (.ref 7), none], [.int (s.1 6)])) (w' := (mk s t)) (ob := true) e_33 hk_33 2 rfl rfl ?_
  refine xu_if_ne e_33 hk_33 rfl (fun c1 => ?_) (fun c1 => ?_)
  · have h := xif_neg c1 h
    by_cases o2 : xin (s.1 5) 16 = true
    case neg => have h := xif_neg o2 h; cases h
    have h := xif_pos o2 h
    refine xOK_steps (fr' := (26, [some (.ref 7), some (.int ((s.2 4) (s.1 5).toNatClampNeg))], [.int ((s.2 4) (s.1 5).toNatClampNeg)])) (w' := (mk (xsc (xsc s 5 (xrem ((s.1 5) + (1 : Int32)) (16 : Int32))) 6 ((s.1 6) - (1 : Int32))) t)) (ob := xin (s.1 5) 16 && (true)) e_33 hk_33 21 rfl (xand o2 rfl) ?_
    cases h
    exact xu_iret e_33 hk_33 rfl rfl rfl
  · have h := xif_pos c1 h
    refine xOK_steps (fr' := (4, [some (.ref 7), none], [.int (65535 : Int32)])) (w' := (mk s t)) (ob := true) e_33 hk_33 1 rfl rfl ?_
    cases h
    exact xu_iret e_33 hk_33 rfl rfl rfl
set_option maxRecDepth 100000 in
set_option maxHeartbeats 4000000 in
theorem t_Lasting_placeLogged_18 (t : xS) (q : xS) (s : xS) (h : f_Lasting_placeLogged_18  s = some q) : xOK 27 none (xEnd 27 none (mk q t)) (10, [none, none], []) (mk s t) 0 0 := by
  unfold f_Lasting_placeLogged_18 at h
  cases h
  exact xu_vret e_27 hk_27 rfl rfl
set_option maxRecDepth 100000 in
set_option maxHeartbeats 4000000 in
theorem m_Lasting_placeLogged (x1 : Int32) (s t : xS) (q : xS) (h : f_Lasting_placeLogged x1 s = some q) : xMet 27 [.ref 3, .int x1] (mk s t) none (mk q t) := by
  refine xMet_of hk_27 rfl rfl rfl ?_
  refine xOK_eq (fr := (0, [some (.ref 3), some (.int x1)], [])) rfl ?_
  unfold f_Lasting_placeLogged at h
  refine xOK_steps (fr' := (3, [some (.ref 3), some (.int x1)], [.int (4 : Int32), .int (s.1 3)])) (w' := (mk s t)) (ob := true) e_27 hk_27 3 rfl rfl ?_
  refine xu_icmp_ge e_27 hk_27 rfl (fun c1 => ?_) (fun c1 => ?_)
  · have h := xif_pos c1 h
    refine xOK_fg [0, 1] ?_
    exact t_Lasting_placeLogged_18 t q  _ h
  · have h := xif_neg c1 h
    by_cases o2 : xin (s.1 3) 4 = true
    case neg => have h := xif_neg o2 h; cases h
    have h := xif_pos o2 h
    refine xOK_steps (fr' := (10, [some (.ref 3), some (.int x1)], [])) (w' := (mk (xsa s 2 (s.1 3).toNatClampNeg x1) t)) (ob := xin (s.1 3) 4 && (true)) e_27 hk_27 6 rfl (xand o2 rfl) ?_
    refine xOK_fg [0, 1] ?_
    exact t_Lasting_placeLogged_18 t q  _ h
set_option maxRecDepth 100000 in
set_option maxHeartbeats 4000000 in
theorem t_Bus_loadSensor_111 (t : xS) (q : (Int32 × xS)) (x2 : Int32) (s : xS) (h : f_Bus_loadSensor_111 x2 s = some q) : xOK 51 none (xEnd 51 (some q.1) (mk q.2 t)) (55, [none, none, some (.int x2)], []) (mk s t) 0 0 := by
  unfold f_Bus_loadSensor_111 at h
  refine xOK_steps (fr' := (56, [none, none, some (.int x2)], [.int x2])) (w' := (mk s t)) (ob := true) e_51 hk_51 1 rfl rfl ?_
  cases h
  exact xu_iret e_51 hk_51 rfl rfl rfl
set_option maxRecDepth 100000 in
set_option maxHeartbeats 4000000 in
theorem t_Bus_loadSensor_93 (t : xS) (q : (Int32 × xS)) (x2 : Int32) (s : xS) (h : f_Bus_loadSensor_93 x2 s = some q) : xOK 51 none (xEnd 51 (some q.1) (mk q.2 t)) (47, [some (.ref 15), none, some (.int x2)], []) (mk s t) 0 0 := by
  unfold f_Bus_loadSensor_93 at h
  refine xOK_steps (fr' := (50, [some (.ref 15), none, some (.int x2)], [.int (0 : Int32), .ref 1])) (w' := (mk s t)) (ob := true) e_51 hk_51 3 rfl rfl ?_
  obtain ⟨q1, e2, h⟩ := Option.bind_eq_some_iff.mp h
  refine xu_callv (q := 1) (r := (some q1.1)) (av := [.int (0 : Int32)]) (st := []) (w1 := (mk q1.2 t)) e_51 hk_51 rfl (m_Power_allows _ _ _ _ e2) rfl rfl rfl rfl rfl ?_
  refine xu_if_eq e_51 hk_51 rfl (fun c3 => ?_) (fun c3 => ?_)
  · have h := xif_pos c3 h
    refine xOK_fg [0] ?_
    exact t_Bus_loadSensor_111 t q _ _ h
  · have h := xif_neg c3 h
    refine xOK_steps (fr' := (54, [some (.ref 15), none, some (.int x2)], [.ref 3])) (w' := (mk q1.2 t)) (ob := true) e_51 hk_51 2 rfl rfl ?_
    obtain ⟨q4, e5, h⟩ := Option.bind_eq_some_iff.mp h
    refine xu_callv (q := 3) (r := none) (av := []) (st := []) (w1 := (mk q4 t)) e_51 hk_51 rfl (m_Lasting_lengthenLog  _ _ _ e5) rfl rfl rfl rfl rfl ?_
    refine xOK_fg [0] ?_
    exact t_Bus_loadSensor_111 t q _ _ h
set_option maxRecDepth 100000 in
set_option maxHeartbeats 4000000 in
theorem t_Bus_loadSensor_54 (t : xS) (q : (Int32 × xS)) (s : xS) (h : f_Bus_loadSensor_54  s = some q) : xOK 51 none (xEnd 51 (some q.1) (mk q.2 t)) (28, [some (.ref 15), none, none], []) (mk s t) 0 0 := by
  unfold f_Bus_loadSensor_54 at h
  refine xOK_steps (fr' := (31, [some (.ref 15), none, none], [.int (s.1 1)])) (w' := (mk s t)) (ob := true) e_51 hk_51 3 rfl rfl ?_
  refine xu_if_ne e_51 hk_51 rfl (fun c6 => ?_) (fun c6 => ?_)
  · have h := xif_neg c6 h
    refine xOK_steps (fr' := (36, [some (.ref 15), none, none], [.ref 7])) (w' := (mk s t)) (ob := true) e_51 hk_51 2 rfl rfl ?_
    obtain ⟨q7, e8, h⟩ := Option.bind_eq_some_iff.mp h
    refine xu_callv (q := 7) (r := (some q7.1)) (av := []) (st := []) (w1 := (mk q7.2 t)) e_51 hk_51 rfl (m_Samples_take  _ _ _ e8) rfl rfl rfl rfl rfl ?_
    refine xOK_steps (fr' := (41, [some (.ref 15), none, some (.int q7.1)], [.int (0 : Int32), .ref 1])) (w' := (mk q7.2 t)) (ob := true) e_51 hk_51 4 rfl rfl ?_
    obtain ⟨q9, e10, h⟩ := Option.bind_eq_some_iff.mp h
    refine xu_callv (q := 1) (r := (some q9.1)) (av := [.int (0 : Int32)]) (st := []) (w1 := (mk q9.2 t)) e_51 hk_51 rfl (m_Power_allows _ _ _ _ e10) rfl rfl rfl rfl rfl ?_
    refine xu_if_eq e_51 hk_51 rfl (fun c11 => ?_) (fun c11 => ?_)
    · have h := xif_pos c11 h
      exact t_Bus_loadSensor_93 t q _ _ h
    · have h := xif_neg c11 h
      refine xOK_steps (fr' := (46, [some (.ref 15), none, some (.int q7.1)], [.int q7.1, .ref 3])) (w' := (mk q9.2 t)) (ob := true) e_51 hk_51 3 rfl rfl ?_
      obtain ⟨q12, e13, h⟩ := Option.bind_eq_some_iff.mp h
      refine xu_callv (q := 3) (r := none) (av := [.int q7.1]) (st := []) (w1 := (mk q12 t)) e_51 hk_51 rfl (m_Lasting_placeLogged _ _ _ _ e13) rfl rfl rfl rfl rfl ?_
      exact t_Bus_loadSensor_93 t q _ _ h
  · have h := xif_pos c6 h
    refine xOK_steps (fr' := (33, [some (.ref 15), none, none], [.int (0 : Int32)])) (w' := (mk s t)) (ob := true) e_51 hk_51 1 rfl rfl ?_
    cases h
    exact xu_iret e_51 hk_51 rfl rfl rfl
set_option maxRecDepth 100000 in
set_option maxHeartbeats 4000000 in
theorem m_Bus_loadSensor (s t : xS) (q : (Int32 × xS)) (h : f_Bus_loadSensor  s = some q) : xMet 51 [.ref 15] (mk s t) (some q.1) (mk q.2 t) := by
  refine xMet_of hk_51 rfl rfl rfl ?_
  refine xOK_eq (fr := (0, [some (.ref 15), none, none], [])) rfl ?_
  unfold f_Bus_loadSensor at h
  refine xOK_steps (fr' := (15, [some (.ref 15), some (.int (s.1 8)), none], [.int (s.1 3), .int (s.1 8)])) (w' := (mk (xsc s 8 ((s.1 8) + (1 : Int32))) t)) (ob := true) e_51 hk_51 15 rfl rfl ?_
  refine xu_icmp_ge e_51 hk_51 rfl (fun c14 => ?_) (fun c14 => ?_)
  · have h := xif_pos c14 h
    refine xOK_fg [1] ?_
    exact t_Bus_loadSensor_54 t q  _ h
  · have h := xif_neg c14 h
    refine xOK_steps (fr' := (21, [some (.ref 15), some (.int (s.1 8)), none], [.int (4 : Int32), .int (s.1 8)])) (w' := (mk (xsc s 8 ((s.1 8) + (1 : Int32))) t)) (ob := true) e_51 hk_51 5 rfl rfl ?_
    refine xu_icmp_ge e_51 hk_51 rfl (fun c15 => ?_) (fun c15 => ?_)
    · have h := xif_pos c15 h
      refine xOK_fg [1] ?_
      exact t_Bus_loadSensor_54 t q  _ h
    · have h := xif_neg c15 h
      by_cases o16 : xin (s.1 8) 4 = true
      case neg => have h := xif_neg o16 h; cases h
      have h := xif_pos o16 h
      refine xOK_steps (fr' := (27, [some (.ref 15), some (.int (s.1 8)), none], [.int ((s.2 2) (s.1 8).toNatClampNeg)])) (w' := (mk (xsc s 8 ((s.1 8) + (1 : Int32))) t)) (ob := xin (s.1 8) 4 && (true)) e_51 hk_51 5 rfl (xand o16 rfl) ?_
      cases h
      exact xu_iret e_51 hk_51 rfl rfl rfl
set_option maxRecDepth 100000 in
set_option maxHeartbeats 4000000 in
theorem t_Bus_read_47 (t : xS) (q : (Int32 × xS)) (y0 : Int32) (s : xS) (h : f_Bus_read_47 y0 s = some q) : xOK 48 none (xEnd 48 (some q.1) (mk q.2 t)) (28, [none, none, none, none], [.int y0]) (mk s t) 0 0 := by
  unfold f_Bus_read_47 at h
  cases h
  exact xu_iret e_48 hk_48 rfl rfl rfl
set_option maxRecDepth 100000 in
set_option maxHeartbeats 4000000 in
theorem t_Bus_read_21 (t : xS) (q : (Int32 × xS)) (x1 x2 y0 : Int32) (s : xS) (h : f_Bus_read_21 x1 x2 y0 s = some q) : xOK 48 none (xEnd 48 (some q.1) (mk q.2 t)) (11, [none, some (.int x1), some (.int x2), none], [.int y0]) (mk s t) 0 0 := by
  unfold f_Bus_read_21 at h
  refine xOK_steps (fr' := (13, [none, some (.int x1), some (.int x2), some (.int y0)], [.int x2])) (w' := (mk s t)) (ob := true) e_48 hk_48 2 rfl rfl ?_
  refine xu_if_ne e_48 hk_48 rfl (fun c1 => ?_) (fun c1 => ?_)
  · have h := xif_neg c1 h
    refine xOK_steps (fr' := (20, [none, some (.int x1), some (.int x2), some (.int y0)], [.int (1 : Int32), .int (x1 &&& (1 : Int32))])) (w' := (mk s t)) (ob := true) e_48 hk_48 4 rfl rfl ?_
    refine xu_icmp_ne e_48 hk_48 rfl (fun c2 => ?_) (fun c2 => ?_)
    · have h := xif_neg c2 h
      refine xOK_steps (fr' := (28, [none, some (.int x1), some (.int x2), some (.int y0)], [.int (y0 &&& (255 : Int32))])) (w' := (mk s t)) (ob := true) e_48 hk_48 3 rfl rfl ?_
      refine xOK_fg [1, 2, 3] ?_
      exact t_Bus_read_47 t q _ _ h
    · have h := xif_pos c2 h
      refine xOK_steps (fr' := (28, [none, some (.int x1), some (.int x2), some (.int y0)], [.int (y0 >>> ((8 : Int32) &&& 31))])) (w' := (mk s t)) (ob := true) e_48 hk_48 4 rfl rfl ?_
      refine xOK_fg [1, 2, 3] ?_
      exact t_Bus_read_47 t q _ _ h
  · have h := xif_pos c1 h
    refine xOK_steps (fr' := (15, [none, some (.int x1), some (.int x2), some (.int y0)], [.int y0])) (w' := (mk s t)) (ob := true) e_48 hk_48 1 rfl rfl ?_
    cases h
    exact xu_iret e_48 hk_48 rfl rfl rfl
set_option maxRecDepth 100000 in
set_option maxHeartbeats 4000000 in
theorem m_Bus_read (x1 x2 : Int32) (s t : xS) (q : (Int32 × xS)) (h : f_Bus_read x1 x2 s = some q) : xMet 48 [.ref 15, .int x1, .int x2] (mk s t) (some q.1) (mk q.2 t) := by
  refine xMet_of hk_48 rfl rfl rfl ?_
  refine xOK_eq (fr := (0, [some (.ref 15), some (.int x1), some (.int x2), none], [])) rfl ?_
  unfold f_Bus_read at h
  refine xOK_steps (fr' := (4, [some (.ref 15), some (.int x1), some (.int x2), none], [.int (16 : Int32), .int (x1 &&& (65534 : Int32))])) (w' := (mk s t)) (ob := true) e_48 hk_48 4 rfl rfl ?_
  refine xu_icmp_ne e_48 hk_48 rfl (fun c3 => ?_) (fun c3 => ?_)
  · have h := xif_neg c3 h
    refine xOK_steps (fr' := (10, [some (.ref 15), some (.int x1), some (.int x2), none], [.int x1, .ref 15])) (w' := (mk s t)) (ob := true) e_48 hk_48 2 rfl rfl ?_
    obtain ⟨q4, e5, h⟩ := Option.bind_eq_some_iff.mp h
    refine xu_callv (q := 15) (r := (some q4.1)) (av := [.int x1]) (st := []) (w1 := (mk q4.2 t)) e_48 hk_48 rfl (m_Bus_fetchWord _ _ _ _ e5) rfl rfl rfl rfl rfl ?_
    refine xOK_fg [0] ?_
    exact t_Bus_read_21 t q _ _ _ _ h
  · have h := xif_pos c3 h
    refine xOK_steps (fr' := (6, [some (.ref 15), some (.int x1), some (.int x2), none], [.ref 15])) (w' := (mk s t)) (ob := true) e_48 hk_48 1 rfl rfl ?_
    obtain ⟨q6, e7, h⟩ := Option.bind_eq_some_iff.mp h
    refine xu_callv (q := 15) (r := (some q6.1)) (av := []) (st := []) (w1 := (mk q6.2 t)) e_48 hk_48 rfl (m_Bus_loadSensor  _ _ _ e7) rfl rfl rfl rfl rfl ?_
    refine xOK_steps (fr' := (11, [some (.ref 15), some (.int x1), some (.int x2), none], [.int q6.1])) (w' := (mk q6.2 t)) (ob := true) e_48 hk_48 1 rfl rfl ?_
    refine xOK_fg [0] ?_
    exact t_Bus_read_21 t q _ _ _ _ h
set_option maxRecDepth 100000 in
set_option maxHeartbeats 4000000 in
theorem t_Processor_operand_48 (t : xS) (q : (Int32 × xS)) (y0 : Int32) (s : xS) (h : f_Processor_operand_48 y0 s = some q) : xOK 77 none (xEnd 77 (some q.1) (mk q.2 t)) (24, [some (.ref 17)], [.int y0]) (mk s t) 0 0 := by
  unfold f_Processor_operand_48 at h
  refine xOK_steps (fr' := (25, [some (.ref 17)], [.ref 17, .int y0])) (w' := (mk s t)) (ob := true) e_77 hk_77 1 rfl rfl ?_
  obtain ⟨q1, e2, h⟩ := Option.bind_eq_some_iff.mp h
  refine xu_callv (q := 17) (r := (some q1.1)) (av := []) (st := [.int y0]) (w1 := (mk q1.2 t)) e_77 hk_77 rfl (m_Processor_mask  _ _ _ e2) rfl rfl rfl rfl rfl ?_
  refine xOK_steps (fr' := (27, [some (.ref 17)], [.int (y0 &&& q1.1)])) (w' := (mk q1.2 t)) (ob := true) e_77 hk_77 1 rfl rfl ?_
  cases h
  exact xu_iret e_77 hk_77 rfl rfl rfl
set_option maxRecDepth 100000 in
set_option maxHeartbeats 4000000 in
theorem m_Processor_operand (s t : xS) (q : (Int32 × xS)) (h : f_Processor_operand  s = some q) : xMet 77 [.ref 17] (mk s t) (some q.1) (mk q.2 t) := by
  refine xMet_of hk_77 rfl rfl rfl ?_
  refine xOK_eq (fr := (0, [some (.ref 17)], [])) rfl ?_
  unfold f_Processor_operand at h
  refine xOK_steps (fr' := (3, [some (.ref 17)], [.int (2 : Int32), .int (s.1 14)])) (w' := (mk s t)) (ob := true) e_77 hk_77 3 rfl rfl ?_
  refine xu_icmp_ne e_77 hk_77 rfl (fun c3 => ?_) (fun c3 => ?_)
  · have h := xif_neg c3 h
    refine xOK_steps (fr' := (15, [some (.ref 17)], [.int (1 : Int32), .int (s.1 14)])) (w' := (mk s t)) (ob := true) e_77 hk_77 3 rfl rfl ?_
    refine xu_icmp_ne e_77 hk_77 rfl (fun c4 => ?_) (fun c4 => ?_)
    · have h := xif_neg c4 h
      refine xOK_steps (fr' := (24, [some (.ref 17)], [.int (s.1 15)])) (w' := (mk s t)) (ob := true) e_77 hk_77 2 rfl rfl ?_
      exact t_Processor_operand_48 t q _ _ h
    · have h := xif_pos c4 h
      by_cases o5 : xin (s.1 15) 16 = true
      case neg => have h := xif_neg o5 h; cases h
      have h := xif_pos o5 h
      refine xOK_steps (fr' := (24, [some (.ref 17)], [.int ((s.2 10) (s.1 15).toNatClampNeg)])) (w' := (mk s t)) (ob := xin (s.1 15) 16 && (true)) e_77 hk_77 6 rfl (xand o5 rfl) ?_
      exact t_Processor_operand_48 t q _ _ h
  · have h := xif_pos c3 h
    refine xOK_steps (fr' := (10, [some (.ref 17)], [.int (s.1 13), .int (s.1 15), .ref 15])) (w' := (mk s t)) (ob := true) e_77 hk_77 6 rfl rfl ?_
    obtain ⟨q6, e7, h⟩ := Option.bind_eq_some_iff.mp h
    refine xu_callv (q := 15) (r := (some q6.1)) (av := [.int (s.1 15), .int (s.1 13)]) (st := []) (w1 := (mk q6.2 t)) e_77 hk_77 rfl (m_Bus_read _ _ _ _ _ e7) rfl rfl rfl rfl rfl ?_
    cases h
    exact xu_iret e_77 hk_77 rfl rfl rfl
set_option maxRecDepth 100000 in
set_option maxHeartbeats 4000000 in
theorem t_Processor_highest_15 (t : xS) (q : (Int32 × xS)) (y0 : Int32) (s : xS) (h : f_Processor_highest_15 y0 s = some q) : xOK 85 none (xEnd 85 (some q.1) (mk q.2 t)) (6, [none], [.int y0]) (mk s t) 0 0 := by
  unfold f_Processor_highest_15 at h
  cases h
  exact xu_iret e_85 hk_85 rfl rfl rfl
set_option maxRecDepth 100000 in
set_option maxHeartbeats 4000000 in
theorem m_Processor_highest (s t : xS) (q : (Int32 × xS)) (h : f_Processor_highest  s = some q) : xMet 85 [.ref 17] (mk s t) (some q.1) (mk q.2 t) := by
  refine xMet_of hk_85 rfl rfl rfl ?_
  refine xOK_eq (fr := (0, [some (.ref 17)], [])) rfl ?_
  unfold f_Processor_highest at h
  refine xOK_steps (fr' := (2, [some (.ref 17)], [.int (s.1 13)])) (w' := (mk s t)) (ob := true) e_85 hk_85 2 rfl rfl ?_
  refine xu_if_eq e_85 hk_85 rfl (fun c1 => ?_) (fun c1 => ?_)
  · have h := xif_pos c1 h
    refine xOK_steps (fr' := (6, [some (.ref 17)], [.int (32768 : Int32)])) (w' := (mk s t)) (ob := true) e_85 hk_85 1 rfl rfl ?_
    refine xOK_fg [0] ?_
    exact t_Processor_highest_15 t q _ _ h
  · have h := xif_neg c1 h
    refine xOK_steps (fr' := (6, [some (.ref 17)], [.int (128 : Int32)])) (w' := (mk s t)) (ob := true) e_85 hk_85 2 rfl rfl ?_
    refine xOK_fg [0] ?_
    exact t_Processor_highest_15 t q _ _ h
set_option maxRecDepth 100000 in
set_option maxHeartbeats 4000000 in
theorem t_Processor_askFlags_46 (t : xS) (q : (Int32 × xS)) (x1 y1 y2 : Int32) (s : xS) (h : f_Processor_askFlags_46 x1 y1 y2 s = some q) : xOK 70 none (xEnd 70 (some q.1) (mk q.2 t)) (26, [some (.ref 17), some (.int x1), none, none], [.int y2, .int y1, .ref 17]) (mk s t) 0 0 := by
  unfold f_Processor_askFlags_46 at h
  refine xOK_steps (fr' := (32, [some (.ref 17), some (.int x1), none, none], [.int x1])) (w' := (mk (xsc (xsc s 16 (y1 ||| y2)) 17 (1 : Int32)) t)) (ob := true) e_70 hk_70 6 rfl rfl ?_
  cases h
  exact xu_iret e_70 hk_70 rfl rfl rfl
set_option maxRecDepth 100000 in
set_option maxHeartbeats 4000000 in
theorem t_Processor_askFlags_34 (t : xS) (q : (Int32 × xS)) (x1 x3 y1 y2 : Int32) (s : xS) (h : f_Processor_askFlags_34 x1 x3 y1 y2 s = some q) : xOK 70 none (xEnd 70 (some q.1) (mk q.2 t)) (20, [some (.ref 17), some (.int x1), none, some (.int x3)], [.int y2, .int y1, .ref 17]) (mk s t) 0 0 := by
  unfold f_Processor_askFlags_34 at h
  refine xOK_steps (fr' := (22, [some (.ref 17), some (.int x1), none, some (.int x3)], [.int x3, .int (y1 ||| y2), .ref 17])) (w' := (mk s t)) (ob := true) e_70 hk_70 2 rfl rfl ?_
  refine xu_if_eq e_70 hk_70 rfl (fun c1 => ?_) (fun c1 => ?_)
  · have h := xif_pos c1 h
    refine xOK_steps (fr' := (26, [some (.ref 17), some (.int x1), none, some (.int x3)], [.int (0 : Int32), .int (y1 ||| y2), .ref 17])) (w' := (mk s t)) (ob := true) e_70 hk_70 1 rfl rfl ?_
    refine xOK_fg [3] ?_
    exact t_Processor_askFlags_46 t q _ _ _ _ h
  · have h := xif_neg c1 h
    refine xOK_steps (fr' := (26, [some (.ref 17), some (.int x1), none, some (.int x3)], [.int (256 : Int32), .int (y1 ||| y2), .ref 17])) (w' := (mk s t)) (ob := true) e_70 hk_70 2 rfl rfl ?_
    refine xOK_fg [3] ?_
    exact t_Processor_askFlags_46 t q _ _ _ _ h
set_option maxRecDepth 100000 in
set_option maxHeartbeats 4000000 in
theorem t_Processor_askFlags_19 (t : xS) (q : (Int32 × xS)) (x1 x3 y1 y2 : Int32) (s : xS) (h : f_Processor_askFlags_19 x1 x3 y1 y2 s = some q) : xOK 70 none (xEnd 70 (some q.1) (mk q.2 t)) (11, [some (.ref 17), some (.int x1), none, some (.int x3)], [.int y2, .int y1, .ref 17]) (mk s t) 0 0 := by
  unfold f_Processor_askFlags_19 at h
  refine xOK_steps (fr' := (14, [some (.ref 17), some (.int x1), none, some (.int x3)], [.ref 17, .int x1, .int (y1 ||| y2), .ref 17])) (w' := (mk s t)) (ob := true) e_70 hk_70 3 rfl rfl ?_
  obtain ⟨q2, e3, h⟩ := Option.bind_eq_some_iff.mp h
  refine xu_callv (q := 17) (r := (some q2.1)) (av := []) (st := [.int x1, .int (y1 ||| y2), .ref 17]) (w1 := (mk q2.2 t)) e_70 hk_70 rfl (m_Processor_highest  _ _ _ e3) rfl rfl rfl rfl rfl ?_
  refine xOK_steps (fr' := (16, [some (.ref 17), some (.int x1), none, some (.int x3)], [.int (x1 &&& q2.1), .int (y1 ||| y2), .ref 17])) (w' := (mk q2.2 t)) (ob := true) e_70 hk_70 1 rfl rfl ?_
  refine xu_if_eq e_70 hk_70 rfl (fun c4 => ?_) (fun c4 => ?_)
  · have h := xif_pos c4 h
    refine xOK_steps (fr' := (20, [some (.ref 17), some (.int x1), none, some (.int x3)], [.int (0 : Int32), .int (y1 ||| y2), .ref 17])) (w' := (mk q2.2 t)) (ob := true) e_70 hk_70 1 rfl rfl ?_
    exact t_Processor_askFlags_34 t q _ _ _ _ _ h
  · have h := xif_neg c4 h
    refine xOK_steps (fr' := (20, [some (.ref 17), some (.int x1), none, some (.int x3)], [.int (4 : Int32), .int (y1 ||| y2), .ref 17])) (w' := (mk q2.2 t)) (ob := true) e_70 hk_70 2 rfl rfl ?_
    exact t_Processor_askFlags_34 t q _ _ _ _ _ h
set_option maxRecDepth 100000 in
set_option maxHeartbeats 4000000 in
theorem t_Processor_askFlags_10 (t : xS) (q : (Int32 × xS)) (x1 x3 y1 : Int32) (s : xS) (h : f_Processor_askFlags_10 x1 x3 y1 s = some q) : xOK 70 none (xEnd 70 (some q.1) (mk q.2 t)) (6, [some (.ref 17), some (.int x1), none, some (.int x3)], [.int y1, .ref 17]) (mk s t) 0 0 := by
  unfold f_Processor_askFlags_10 at h
  refine xOK_steps (fr' := (7, [some (.ref 17), some (.int x1), none, some (.int x3)], [.int x1, .int y1, .ref 17])) (w' := (mk s t)) (ob := true) e_70 hk_70 1 rfl rfl ?_
  refine xu_if_ne e_70 hk_70 rfl (fun c5 => ?_) (fun c5 => ?_)
  · have h := xif_neg c5 h
    refine xOK_steps (fr' := (11, [some (.ref 17), some (.int x1), none, some (.int x3)], [.int (0 : Int32), .int y1, .ref 17])) (w' := (mk s t)) (ob := true) e_70 hk_70 1 rfl rfl ?_
    exact t_Processor_askFlags_19 t q _ _ _ _ _ h
  · have h := xif_pos c5 h
    refine xOK_steps (fr' := (11, [some (.ref 17), some (.int x1), none, some (.int x3)], [.int (2 : Int32), .int y1, .ref 17])) (w' := (mk s t)) (ob := true) e_70 hk_70 2 rfl rfl ?_
    exact t_Processor_askFlags_19 t q _ _ _ _ _ h
set_option maxRecDepth 100000 in
set_option maxHeartbeats 4000000 in
theorem m_Processor_askFlags (x1 x2 x3 : Int32) (s t : xS) (q : (Int32 × xS)) (h : f_Processor_askFlags x1 x2 x3 s = some q) : xMet 70 [.ref 17, .int x1, .int x2, .int x3] (mk s t) (some q.1) (mk q.2 t) := by
  refine xMet_of hk_70 rfl rfl rfl ?_
  refine xOK_eq (fr := (0, [some (.ref 17), some (.int x1), some (.int x2), some (.int x3)], [])) rfl ?_
  unfold f_Processor_askFlags at h
  refine xOK_steps (fr' := (2, [some (.ref 17), some (.int x1), some (.int x2), some (.int x3)], [.int x2, .ref 17])) (w' := (mk s t)) (ob := true) e_70 hk_70 2 rfl rfl ?_
  refine xu_if_eq e_70 hk_70 rfl (fun c6 => ?_) (fun c6 => ?_)
  · have h := xif_pos c6 h
    refine xOK_steps (fr' := (6, [some (.ref 17), some (.int x1), some (.int x2), some (.int x3)], [.int (0 : Int32), .ref 17])) (w' := (mk s t)) (ob := true) e_70 hk_70 1 rfl rfl ?_
    refine xOK_fg [2] ?_
    exact t_Processor_askFlags_10 t q _ _ _ _ h
  · have h := xif_neg c6 h
    refine xOK_steps (fr' := (6, [some (.ref 17), some (.int x1), some (.int x2), some (.int x3)], [.int (1 : Int32), .ref 17])) (w' := (mk s t)) (ob := true) e_70 hk_70 2 rfl rfl ?_
    refine xOK_fg [2] ?_
    exact t_Processor_askFlags_10 t q _ _ _ _ h
set_option maxRecDepth 100000 in
set_option maxHeartbeats 4000000 in
theorem t_Processor_logical_11 (t : xS) (q : (Int32 × xS)) (x2 y1 y2 : Int32) (s : xS) (h : f_Processor_logical_11 x2 y1 y2 s = some q) : xOK 69 none (xEnd 69 (some q.1) (mk q.2 t)) (7, [none, none, some (.int x2)], [.int y2, .int y1, .ref 17]) (mk s t) 0 0 := by
  unfold f_Processor_logical_11 at h
  refine xOK_steps (fr' := (8, [none, none, some (.int x2)], [.int x2, .int y2, .int y1, .ref 17])) (w' := (mk s t)) (ob := true) e_69 hk_69 1 rfl rfl ?_
  obtain ⟨q1, e2, h⟩ := Option.bind_eq_some_iff.mp h
  refine xu_callv (q := 17) (r := (some q1.1)) (av := [.int y1, .int y2, .int x2]) (st := []) (w1 := (mk q1.2 t)) e_69 hk_69 rfl (m_Processor_askFlags _ _ _ _ _ _ e2) rfl rfl rfl rfl rfl ?_
  cases h
  exact xu_iret e_69 hk_69 rfl rfl rfl
set_option maxRecDepth 100000 in
set_option maxHeartbeats 4000000 in
theorem m_Processor_logical (x1 x2 : Int32) (s t : xS) (q : (Int32 × xS)) (h : f_Processor_logical x1 x2 s = some q) : xMet 69 [.ref 17, .int x1, .int x2] (mk s t) (some q.1) (mk q.2 t) := by
  refine xMet_of hk_69 rfl rfl rfl ?_
  refine xOK_eq (fr := (0, [some (.ref 17), some (.int x1), some (.int x2)], [])) rfl ?_
  unfold f_Processor_logical at h
  refine xOK_steps (fr' := (3, [some (.ref 17), some (.int x1), some (.int x2)], [.int x1, .int x1, .ref 17])) (w' := (mk s t)) (ob := true) e_69 hk_69 3 rfl rfl ?_
  refine xu_if_eq e_69 hk_69 rfl (fun c3 => ?_) (fun c3 => ?_)
  · have h := xif_pos c3 h
    refine xOK_steps (fr' := (7, [some (.ref 17), some (.int x1), some (.int x2)], [.int (0 : Int32), .int x1, .ref 17])) (w' := (mk s t)) (ob := true) e_69 hk_69 1 rfl rfl ?_
    refine xOK_fg [0, 1] ?_
    exact t_Processor_logical_11 t q _ _ _ _ h
  · have h := xif_neg c3 h
    refine xOK_steps (fr' := (7, [some (.ref 17), some (.int x1), some (.int x2)], [.int (1 : Int32), .int x1, .ref 17])) (w' := (mk s t)) (ob := true) e_69 hk_69 2 rfl rfl ?_
    refine xOK_fg [0, 1] ?_
    exact t_Processor_logical_11 t q _ _ _ _ h
set_option maxRecDepth 100000 in
set_option maxHeartbeats 4000000 in
theorem m_Processor_carry (s t : xS) (q : (Int32 × xS)) (h : f_Processor_carry  s = some q) : xMet 83 [.ref 17] (mk s t) (some q.1) (mk q.2 t) := by
  refine xMet_of hk_83 rfl rfl rfl ?_
  refine xOK_eq (fr := (0, [some (.ref 17)], [])) rfl ?_
  unfold f_Processor_carry at h
  refine xOK_steps (fr' := (6, [some (.ref 17)], [.int (((s.2 10) 2) &&& (1 : Int32))])) (w' := (mk s t)) (ob := true) e_83 hk_83 6 rfl rfl ?_
  cases h
  exact xu_iret e_83 hk_83 rfl rfl rfl
set_option maxRecDepth 100000 in
set_option maxHeartbeats 4000000 in
theorem t_Processor_changed_96 (t : xS) (q : (Int32 × xS)) (y1 y2 : Int32) (s : xS) (h : f_Processor_changed_96 y1 y2 s = some q) : xOK 66 none (xEnd 66 (some q.1) (mk q.2 t)) (50, [none, none, none], [.int y2, .int y1, .ref 17]) (mk s t) 0 0 := by
  unfold f_Processor_changed_96 at h
  refine xOK_steps (fr' := (51, [none, none, none], [.int (0 : Int32), .int y2, .int y1, .ref 17])) (w' := (mk s t)) (ob := true) e_66 hk_66 1 rfl rfl ?_
  obtain ⟨q1, e2, h⟩ := Option.bind_eq_some_iff.mp h
  refine xu_callv (q := 17) (r := (some q1.1)) (av := [.int y1, .int y2, .int (0 : Int32)]) (st := []) (w1 := (mk q1.2 t)) e_66 hk_66 rfl (m_Processor_askFlags _ _ _ _ _ _ e2) rfl rfl rfl rfl rfl ?_
  cases h
  exact xu_iret e_66 hk_66 rfl rfl rfl
set_option maxRecDepth 100000 in
set_option maxHeartbeats 4000000 in
theorem t_Processor_changed_54 (t : xS) (q : (Int32 × xS)) (y1 y2 : Int32) (s : xS) (h : f_Processor_changed_54 y1 y2 s = some q) : xOK 66 none (xEnd 66 (some q.1) (mk q.2 t)) (20, [none, none, none], [.int y2, .int y1, .ref 17]) (mk s t) 0 0 := by
  unfold f_Processor_changed_54 at h
  refine xOK_steps (fr' := (21, [none, none, none], [.int (0 : Int32), .int y2, .int y1, .ref 17])) (w' := (mk s t)) (ob := true) e_66 hk_66 1 rfl rfl ?_
  obtain ⟨q3, e4, h⟩ := Option.bind_eq_some_iff.mp h
  refine xu_callv (q := 17) (r := (some q3.1)) (av := [.int y1, .int y2, .int (0 : Int32)]) (st := []) (w1 := (mk q3.2 t)) e_66 hk_66 rfl (m_Processor_askFlags _ _ _ _ _ _ e4) rfl rfl rfl rfl rfl ?_
  cases h
  exact xu_iret e_66 hk_66 rfl rfl rfl
set_option maxRecDepth 100000 in
set_option maxHeartbeats 4000000 in
theorem m_Processor_changed (x1 x2 : Int32) (s t : xS) (q : (Int32 × xS)) (h : f_Processor_changed x1 x2 s = some q) : xMet 66 [.ref 17, .int x1, .int x2] (mk s t) (some q.1) (mk q.2 t) := by
  refine xMet_of hk_66 rfl rfl rfl ?_
  refine xOK_eq (fr := (0, [some (.ref 17), some (.int x1), some (.int x2)], [])) rfl ?_
  unfold f_Processor_changed at h
  refine xOK_steps (fr' := (1, [some (.ref 17), some (.int x1), some (.int x2)], [.int x1])) (w' := (mk s t)) (ob := true) e_66 hk_66 1 rfl rfl ?_
  by_cases c5 : (x1 < (0 : Int32) ∨ (2 : Int32) < x1)
  · have h := xif_pos c5 h
    refine xu_tswOut (t := 53) e_66 hk_66 rfl c5 rfl rfl rfl ?_
    refine xOK_steps (fr' := (59, [some (.ref 17), some (.int x1), some (.int x2)], [.int (0 : Int32), .int ((x2).toInt8.toInt32 &&& (65535 : Int32)), .ref 17])) (w' := (mk s t)) (ob := true) e_66 hk_66 6 rfl rfl ?_
    obtain ⟨q6, e7, h⟩ := Option.bind_eq_some_iff.mp h
    refine xu_callv (q := 17) (r := (some q6.1)) (av := [.int ((x2).toInt8.toInt32 &&& (65535 : Int32)), .int (0 : Int32)]) (st := []) (w1 := (mk q6.2 t)) e_66 hk_66 rfl (m_Processor_logical _ _ _ _ _ e7) rfl rfl rfl rfl rfl ?_
    cases h
    exact xu_iret e_66 hk_66 rfl rfl rfl
  have h := xif_neg c5 h
  by_cases c8 : x1 = (0 : Int32)
  · have h := xif_pos c8 h
    refine xu_tswJ (t := 2) e_66 hk_66 rfl c8 (by decide) (by decide) rfl rfl ?_
    refine xOK_steps (fr' := (7, [some (.ref 17), some (.int x1), some (.int x2)], [.ref 17, .int (x2 >>> ((1 : Int32) &&& 31)), .ref 17])) (w' := (mk s t)) (ob := true) e_66 hk_66 5 rfl rfl ?_
    obtain ⟨q9, e10, h⟩ := Option.bind_eq_some_iff.mp h
    refine xu_callv (q := 17) (r := (some q9.1)) (av := []) (st := [.int (x2 >>> ((1 : Int32) &&& 31)), .ref 17]) (w1 := (mk q9.2 t)) e_66 hk_66 rfl (m_Processor_carry  _ _ _ e10) rfl rfl rfl rfl rfl ?_
    refine xOK_steps (fr' := (9, [some (.ref 17), some (.int x1), some (.int x2)], [.ref 17, .int q9.1, .int (x2 >>> ((1 : Int32) &&& 31)), .ref 17])) (w' := (mk q9.2 t)) (ob := true) e_66 hk_66 1 rfl rfl ?_
    obtain ⟨q11, e12, h⟩ := Option.bind_eq_some_iff.mp h
    refine xu_callv (q := 17) (r := (some q11.1)) (av := []) (st := [.int q9.1, .int (x2 >>> ((1 : Int32) &&& 31)), .ref 17]) (w1 := (mk q11.2 t)) e_66 hk_66 rfl (m_Processor_highest  _ _ _ e12) rfl rfl rfl rfl rfl ?_
    refine xOK_steps (fr' := (16, [some (.ref 17), some (.int x1), some (.int x2)], [.int (1 : Int32), .int (x2 &&& (1 : Int32)), .int ((x2 >>> ((1 : Int32) &&& 31)) ||| (q9.1 * q11.1)), .ref 17])) (w' := (mk q11.2 t)) (ob := true) e_66 hk_66 6 rfl rfl ?_
    refine xu_icmp_ne e_66 hk_66 rfl (fun c13 => ?_) (fun c13 => ?_)
    · have h := xif_neg c13 h
      refine xOK_steps (fr' := (20, [some (.ref 17), some (.int x1), some (.int x2)], [.int (0 : Int32), .int ((x2 >>> ((1 : Int32) &&& 31)) ||| (q9.1 * q11.1)), .ref 17])) (w' := (mk q11.2 t)) (ob := true) e_66 hk_66 1 rfl rfl ?_
      refine xOK_fg [0, 1, 2] ?_
      exact t_Processor_changed_54 t q _ _ _ h
    · have h := xif_pos c13 h
      refine xOK_steps (fr' := (20, [some (.ref 17), some (.int x1), some (.int x2)], [.int (1 : Int32), .int ((x2 >>> ((1 : Int32) &&& 31)) ||| (q9.1 * q11.1)), .ref 17])) (w' := (mk q11.2 t)) (ob := true) e_66 hk_66 2 rfl rfl ?_
      refine xOK_fg [0, 1, 2] ?_
      exact t_Processor_changed_54 t q _ _ _ h
  have h := xif_neg c8 h
  by_cases c14 : x1 = (1 : Int32)
  · have h := xif_pos c14 h
    refine xu_tswJ (t := 23) e_66 hk_66 rfl c14 (by decide) (by decide) rfl rfl ?_
    refine xOK_steps (fr' := (32, [some (.ref 17), some (.int x1), some (.int x2)], [.int ((x2 >>> ((8 : Int32) &&& 31)) ||| ((x2 &&& (255 : Int32)) <<< ((8 : Int32) &&& 31)))])) (w' := (mk s t)) (ob := true) e_66 hk_66 9 rfl rfl ?_
    cases h
    exact xu_iret e_66 hk_66 rfl rfl rfl
  have h := xif_neg c14 h
  by_cases c15 : x1 = (2 : Int32)
  · have h := xif_pos c15 h
    refine xu_tswJ (t := 33) e_66 hk_66 rfl c15 (by decide) (by decide) rfl rfl ?_
    refine xOK_steps (fr' := (39, [some (.ref 17), some (.int x1), some (.int x2)], [.ref 17, .int x2, .int (x2 >>> ((1 : Int32) &&& 31)), .ref 17])) (w' := (mk s t)) (ob := true) e_66 hk_66 6 rfl rfl ?_
    obtain ⟨q16, e17, h⟩ := Option.bind_eq_some_iff.mp h
    refine xu_callv (q := 17) (r := (some q16.1)) (av := []) (st := [.int x2, .int (x2 >>> ((1 : Int32) &&& 31)), .ref 17]) (w1 := (mk q16.2 t)) e_66 hk_66 rfl (m_Processor_highest  _ _ _ e17) rfl rfl rfl rfl rfl ?_
    refine xOK_steps (fr' := (46, [some (.ref 17), some (.int x1), some (.int x2)], [.int (1 : Int32), .int (x2 &&& (1 : Int32)), .int ((x2 >>> ((1 : Int32) &&& 31)) ||| (x2 &&& q16.1)), .ref 17])) (w' := (mk q16.2 t)) (ob := true) e_66 hk_66 6 rfl rfl ?_
    refine xu_icmp_ne e_66 hk_66 rfl (fun c18 => ?_) (fun c18 => ?_)
    · have h := xif_neg c18 h
      refine xOK_steps (fr' := (50, [some (.ref 17), some (.int x1), some (.int x2)], [.int (0 : Int32), .int ((x2 >>> ((1 : Int32) &&& 31)) ||| (x2 &&& q16.1)), .ref 17])) (w' := (mk q16.2 t)) (ob := true) e_66 hk_66 1 rfl rfl ?_
      refine xOK_fg [0, 1, 2] ?_
      exact t_Processor_changed_96 t q _ _ _ h
    · have h := xif_pos c18 h
      refine xOK_steps (fr' := (50, [some (.ref 17), some (.int x1), some (.int x2)], [.int (1 : Int32), .int ((x2 >>> ((1 : Int32) &&& 31)) ||| (x2 &&& q16.1)), .ref 17])) (w' := (mk q16.2 t)) (ob := true) e_66 hk_66 2 rfl rfl ?_
      refine xOK_fg [0, 1, 2] ?_
      exact t_Processor_changed_96 t q _ _ _ h
  have h := xif_neg c15 h
  cases h
set_option maxRecDepth 100000 in
set_option maxHeartbeats 4000000 in
theorem t_Processor_setFlags_17 (t : xS) (q : xS) (s : xS) (h : f_Processor_setFlags_17  s = some q) : xOK 71 none (xEnd 71 none (mk q t)) (9, [none], []) (mk s t) 0 0 := by
  unfold f_Processor_setFlags_17 at h
  cases h
  exact xu_vret e_71 hk_71 rfl rfl
set_option maxRecDepth 100000 in
set_option maxHeartbeats 4000000 in
theorem m_Processor_setFlags (s t : xS) (q : xS) (h : f_Processor_setFlags  s = some q) : xMet 71 [.ref 17] (mk s t) none (mk q t) := by
  refine xMet_of hk_71 rfl rfl rfl ?_
  refine xOK_eq (fr := (0, [some (.ref 17)], [])) rfl ?_
  unfold f_Processor_setFlags at h
  refine xOK_steps (fr' := (2, [some (.ref 17)], [.int (s.1 17)])) (w' := (mk s t)) (ob := true) e_71 hk_71 2 rfl rfl ?_
  refine xu_if_eq e_71 hk_71 rfl (fun c1 => ?_) (fun c1 => ?_)
  · have h := xif_pos c1 h
    refine xOK_fg [0] ?_
    exact t_Processor_setFlags_17 t q  _ h
  · have h := xif_neg c1 h
    refine xOK_steps (fr' := (9, [some (.ref 17)], [])) (w' := (mk (xsa s 10 2 (s.1 16)) t)) (ob := true) e_71 hk_71 6 rfl rfl ?_
    refine xOK_fg [0] ?_
    exact t_Processor_setFlags_17 t q  _ h
set_option maxRecDepth 100000 in
set_option maxHeartbeats 4000000 in
theorem t_Section_noteStore_41 (t : xS) (q : (Int32 × xS)) (y0 : Int32) (s : xS) (h : f_Section_noteStore_41 y0 s = some q) : xOK 44 none (xEnd 44 (some q.1) (mk q.2 t)) (25, [none, none], [.int y0]) (mk s t) 0 0 := by
  unfold f_Section_noteStore_41 at h
  by_cases o1 : xbl y0 = true
  case neg => have h := xif_neg o1 h; cases h
  have h := xif_pos o1 h
  cases h
  exact xu_iret e_44 hk_44 rfl o1 rfl
set_option maxRecDepth 100000 in
set_option maxHeartbeats 4000000 in
theorem t_Section_noteStore_26 (t : xS) (q : (Int32 × xS)) (x1 : Int32) (s : xS) (h : f_Section_noteStore_26 x1 s = some q) : xOK 44 none (xEnd 44 (some q.1) (mk q.2 t)) (16, [some (.ref 9), some (.int x1)], []) (mk s t) 0 0 := by
  unfold f_Section_noteStore_26 at h
  by_cases o2 : xin x1 128 = true
  case neg => have h := xif_neg o2 h; cases h
  have h := xif_pos o2 h
  refine xOK_steps (fr' := (21, [some (.ref 9), some (.int x1)], [.int (1 : Int32), .int ((s.2 5) (x1).toNatClampNeg)])) (w' := (mk s t)) (ob := xin x1 128 && (true)) e_44 hk_44 5 rfl (xand o2 rfl) ?_
  refine xu_icmp_ne e_44 hk_44 rfl (fun c3 => ?_) (fun c3 => ?_)
  · have h := xif_neg c3 h
    refine xOK_steps (fr' := (25, [some (.ref 9), some (.int x1)], [.int (0 : Int32)])) (w' := (mk s t)) (ob := true) e_44 hk_44 1 rfl rfl ?_
    refine xOK_fg [0, 1] ?_
    exact t_Section_noteStore_41 t q _ _ h
  · have h := xif_pos c3 h
    refine xOK_steps (fr' := (25, [some (.ref 9), some (.int x1)], [.int (1 : Int32)])) (w' := (mk s t)) (ob := true) e_44 hk_44 2 rfl rfl ?_
    refine xOK_fg [0, 1] ?_
    exact t_Section_noteStore_41 t q _ _ h
set_option maxRecDepth 100000 in
set_option maxHeartbeats 4000000 in
theorem m_Section_noteStore (x1 : Int32) (s t : xS) (q : (Int32 × xS)) (h : f_Section_noteStore x1 s = some q) : xMet 44 [.ref 9, .int x1] (mk s t) (some q.1) (mk q.2 t) := by
  refine xMet_of hk_44 rfl rfl rfl ?_
  refine xOK_eq (fr := (0, [some (.ref 9), some (.int x1)], [])) rfl ?_
  unfold f_Section_noteStore at h
  by_cases o4 : xin x1 128 = true
  case neg => have h := xif_neg o4 h; cases h
  have h := xif_pos o4 h
  refine xOK_steps (fr' := (4, [some (.ref 9), some (.int x1)], [.int ((s.2 5) (x1).toNatClampNeg)])) (w' := (mk s t)) (ob := xin x1 128 && (true)) e_44 hk_44 4 rfl (xand o4 rfl) ?_
  refine xu_if_ne e_44 hk_44 rfl (fun c5 => ?_) (fun c5 => ?_)
  · have h := xif_neg c5 h
    exact t_Section_noteStore_26 t q _ _ h
  · have h := xif_pos c5 h
    by_cases o6 : xin x1 128 = true
    case neg => have h := xif_neg o6 h; cases h
    have h := xif_pos o6 h
    refine xOK_steps (fr' := (16, [some (.ref 9), some (.int x1)], [])) (w' := (mk (xsc (xsa s 5 (x1).toNatClampNeg (2 : Int32)) 7 ((s.1 7) + (1 : Int32))) t)) (ob := xin x1 128 && (true)) e_44 hk_44 11 rfl (xand o6 rfl) ?_
    exact t_Section_noteStore_26 t q _ _ h
set_option maxRecDepth 100000 in
set_option maxHeartbeats 4000000 in
theorem t_Held_holdWord_59 (t : xS) (q : xS) (s : xS) (h : f_Held_holdWord_59  s = some q) : xOK 38 none (xEnd 38 none (mk q t)) (35, [none, none, none, none], []) (mk s t) 0 0 := by
  unfold f_Held_holdWord_59 at h
  cases h
  exact xu_vret e_38 hk_38 rfl rfl
set_option maxRecDepth 100000 in
set_option maxHeartbeats 4000000 in
theorem t_Held_holdWord_26 (t : xS) (q : xS) (x1 x2 x3 : Int32) (s : xS) (h : f_Held_holdWord_26 x1 x2 x3 s = some q) : xOK 38 none (xEnd 38 none (mk q t)) (14, [some (.ref 11), some (.int x1), some (.int x2), some (.int x3)], []) (mk s t) 0 0 := by
  unfold f_Held_holdWord_26 at h
  refine xOK_steps (fr' := (16, [some (.ref 11), some (.int x1), some (.int x2), some (.int x3)], [.int (4 : Int32), .int x3])) (w' := (mk s t)) (ob := true) e_38 hk_38 2 rfl rfl ?_
  refine xu_icmp_ge e_38 hk_38 rfl (fun c1 => ?_) (fun c1 => ?_)
  · have h := xif_pos c1 h
    refine xOK_fg [0, 1, 2, 3] ?_
    exact t_Held_holdWord_59 t q  _ h
  · have h := xif_neg c1 h
    by_cases o2 : xin x3 4 = true
    case neg => have h := xif_neg o2 h; cases h
    have h := xif_pos o2 h
    by_cases o3 : xin x3 4 = true
    case neg => have h := xif_neg o3 h; cases h
    have h := xif_pos o3 h
    refine xOK_steps (fr' := (33, [some (.ref 11), some (.int x1), some (.int x2), some (.int x3)], [.int (x3 + (1 : Int32)), .int (s.1 10), .ref 11])) (w' := (mk (xsa (xsa s 6 (x3).toNatClampNeg x1) 7 (x3).toNatClampNeg x2) t)) (ob := xin x3 4 && (xin x3 4 && (true))) e_38 hk_38 16 rfl (xand o2 (xand o3 rfl)) ?_
    refine xu_max e_38 hk_38 rfl rfl rfl ?_
    refine xOK_steps (fr' := (35, [some (.ref 11), some (.int x1), some (.int x2), some (.int x3)], [])) (w' := (mk (xsc (xsa (xsa s 6 (x3).toNatClampNeg x1) 7 (x3).toNatClampNeg x2) 10 (if (s.1 10) < (x3 + (1 : Int32)) then (x3 + (1 : Int32)) else (s.1 10))) t)) (ob := true) e_38 hk_38 1 rfl rfl ?_
    refine xOK_fg [0, 1, 2, 3] ?_
    exact t_Held_holdWord_59 t q  _ h
set_option maxRecDepth 100000 in
set_option maxHeartbeats 4000000 in
theorem t_Held_holdWord_2 (t : xS) (q : xS) : ∀ (n : Nat), ∀ (x1 x2 x3 : Int32) (s : xS), f_Held_holdWord_2 n x1 x2 x3 s = some q → xOK 38 none (xEnd 38 none (mk q t)) (2, [some (.ref 11), some (.int x1), some (.int x2), some (.int x3)], []) (mk s t) 0 0 := by
  intro n
  induction n with
  | zero => intro x1 x2 x3 s h; cases h
  | succ n ih =>
    intro x1 x2 x3 s h
    unfold f_Held_holdWord_2 at h
    refine xOK_steps (fr' := (5, [some (.ref 11), some (.int x1), some (.int x2), some (.int x3)], [.int (s.1 10), .int x3])) (w' := (mk s t)) (ob := true) e_38 hk_38 3 rfl rfl ?_
    refine xu_icmp_ge e_38 hk_38 rfl (fun c4 => ?_) (fun c4 => ?_)
    · have h := xif_pos c4 h
      exact t_Held_holdWord_26 t q _ _ _ _ h
    · have h := xif_neg c4 h
      by_cases o5 : xin x3 4 = true
      case neg => have h := xif_neg o5 h; cases h
      have h := xif_pos o5 h
      refine xOK_steps (fr' := (11, [some (.ref 11), some (.int x1), some (.int x2), some (.int x3)], [.int x1, .int ((s.2 6) (x3).toNatClampNeg)])) (w' := (mk s t)) (ob := xin x3 4 && (true)) e_38 hk_38 5 rfl (xand o5 rfl) ?_
      refine xu_icmp_eq e_38 hk_38 rfl (fun c6 => ?_) (fun c6 => ?_)
      · have h := xif_pos c6 h
        exact t_Held_holdWord_26 t q _ _ _ _ h
      · have h := xif_neg c6 h
        refine xOK_steps (fr' := (2, [some (.ref 11), some (.int x1), some (.int x2), some (.int (x3 + (1 : Int32)))], [])) (w' := (mk s t)) (ob := true) e_38 hk_38 2 rfl rfl ?_
        exact ih _ _ _ _ h
set_option maxRecDepth 100000 in
set_option maxHeartbeats 4000000 in
theorem m_Held_holdWord (x1 x2 : Int32) (s t : xS) (q : xS) (h : f_Held_holdWord x1 x2 s = some q) : xMet 38 [.ref 11, .int x1, .int x2] (mk s t) none (mk q t) := by
  refine xMet_of hk_38 rfl rfl rfl ?_
  refine xOK_eq (fr := (0, [some (.ref 11), some (.int x1), some (.int x2), none], [])) rfl ?_
  unfold f_Held_holdWord at h
  refine xOK_steps (fr' := (2, [some (.ref 11), some (.int x1), some (.int x2), some (.int (0 : Int32))], [])) (w' := (mk s t)) (ob := true) e_38 hk_38 2 rfl rfl ?_
  exact t_Held_holdWord_2 t q _ _ _ _ _ h
set_option maxRecDepth 100000 in
set_option maxHeartbeats 4000000 in
theorem t_Bus_storeFram_47 (t : xS) (q : xS) (s : xS) (h : f_Bus_storeFram_47  s = some q) : xOK 52 none (xEnd 52 none (mk q t)) (23, [none, none, none], []) (mk s t) 0 0 := by
  unfold f_Bus_storeFram_47 at h
  cases h
  exact xu_vret e_52 hk_52 rfl rfl
set_option maxRecDepth 100000 in
set_option maxHeartbeats 4000000 in
theorem m_Bus_storeFram (x1 x2 : Int32) (s t : xS) (q : xS) (h : f_Bus_storeFram x1 x2 s = some q) : xMet 52 [.ref 15, .int x1, .int x2] (mk s t) none (mk q t) := by
  refine xMet_of hk_52 rfl rfl rfl ?_
  refine xOK_eq (fr := (0, [some (.ref 15), some (.int x1), some (.int x2)], [])) rfl ?_
  unfold f_Bus_storeFram at h
  refine xOK_steps (fr' := (3, [some (.ref 15), some (.int x1), some (.int x2)], [.int x1, .ref 9])) (w' := (mk s t)) (ob := true) e_52 hk_52 3 rfl rfl ?_
  obtain ⟨q1, e2, h⟩ := Option.bind_eq_some_iff.mp h
  refine xu_callv (q := 9) (r := (some q1.1)) (av := [.int x1]) (st := []) (w1 := (mk q1.2 t)) e_52 hk_52 rfl (m_Section_noteStore _ _ _ _ e2) rfl rfl rfl rfl rfl ?_
  refine xu_if_eq e_52 hk_52 rfl (fun c3 => ?_) (fun c3 => ?_)
  · have h := xif_pos c3 h
    refine xOK_steps (fr' := (15, [some (.ref 15), some (.int x1), some (.int x2)], [.int (0 : Int32), .ref 1])) (w' := (mk q1.2 t)) (ob := true) e_52 hk_52 3 rfl rfl ?_
    obtain ⟨q4, e5, h⟩ := Option.bind_eq_some_iff.mp h
    refine xu_callv (q := 1) (r := (some q4.1)) (av := [.int (0 : Int32)]) (st := []) (w1 := (mk q4.2 t)) e_52 hk_52 rfl (m_Power_allows _ _ _ _ e5) rfl rfl rfl rfl rfl ?_
    refine xu_if_eq e_52 hk_52 rfl (fun c6 => ?_) (fun c6 => ?_)
    · have h := xif_pos c6 h
      refine xOK_fg [0, 1, 2] ?_
      exact t_Bus_storeFram_47 t q  _ h
    · have h := xif_neg c6 h
      by_cases o7 : xin x1 128 = true
      case neg => have h := xif_neg o7 h; cases h
      have h := xif_pos o7 h
      refine xOK_steps (fr' := (23, [some (.ref 15), some (.int x1), some (.int x2)], [])) (w' := (mk (xsa q4.2 1 (x1).toNatClampNeg x2) t)) (ob := xin x1 128 && (true)) e_52 hk_52 6 rfl (xand o7 rfl) ?_
      refine xOK_fg [0, 1, 2] ?_
      exact t_Bus_storeFram_47 t q  _ h
  · have h := xif_neg c3 h
    refine xOK_steps (fr' := (10, [some (.ref 15), some (.int x1), some (.int x2)], [.int x2, .int x1, .ref 11])) (w' := (mk q1.2 t)) (ob := true) e_52 hk_52 5 rfl rfl ?_
    obtain ⟨q8, e9, h⟩ := Option.bind_eq_some_iff.mp h
    refine xu_callv (q := 11) (r := none) (av := [.int x1, .int x2]) (st := []) (w1 := (mk q8 t)) e_52 hk_52 rfl (m_Held_holdWord _ _ _ _ _ e9) rfl rfl rfl rfl rfl ?_
    refine xOK_steps (fr' := (23, [some (.ref 15), some (.int x1), some (.int x2)], [])) (w' := (mk q8 t)) (ob := true) e_52 hk_52 1 rfl rfl ?_
    refine xOK_fg [0, 1, 2] ?_
    exact t_Bus_storeFram_47 t q  _ h
set_option maxRecDepth 100000 in
set_option maxHeartbeats 4000000 in
theorem t_Lasting_hasRoomFor_17 (t : xS) (q : (Int32 × xS)) (y0 : Int32) (s : xS) (h : f_Lasting_hasRoomFor_17 y0 s = some q) : xOK 26 none (xEnd 26 (some q.1) (mk q.2 t)) (9, [none, none], [.int y0]) (mk s t) 0 0 := by
  unfold f_Lasting_hasRoomFor_17 at h
  by_cases o1 : xbl y0 = true
  case neg => have h := xif_neg o1 h; cases h
  have h := xif_pos o1 h
  cases h
  exact xu_iret e_26 hk_26 rfl o1 rfl
set_option maxRecDepth 100000 in
set_option maxHeartbeats 4000000 in
theorem m_Lasting_hasRoomFor (x1 : Int32) (s t : xS) (q : (Int32 × xS)) (h : f_Lasting_hasRoomFor x1 s = some q) : xMet 26 [.ref 3, .int x1] (mk s t) (some q.1) (mk q.2 t) := by
  refine xMet_of hk_26 rfl rfl rfl ?_
  refine xOK_eq (fr := (0, [some (.ref 3), some (.int x1)], [])) rfl ?_
  unfold f_Lasting_hasRoomFor at h
  refine xOK_steps (fr' := (5, [some (.ref 3), some (.int x1)], [.int (200 : Int32), .int ((s.1 4) + x1)])) (w' := (mk s t)) (ob := true) e_26 hk_26 5 rfl rfl ?_
  refine xu_icmp_ge e_26 hk_26 rfl (fun c2 => ?_) (fun c2 => ?_)
  · have h := xif_pos c2 h
    refine xOK_steps (fr' := (9, [some (.ref 3), some (.int x1)], [.int (0 : Int32)])) (w' := (mk s t)) (ob := true) e_26 hk_26 1 rfl rfl ?_
    refine xOK_fg [0, 1] ?_
    exact t_Lasting_hasRoomFor_17 t q _ _ h
  · have h := xif_neg c2 h
    refine xOK_steps (fr' := (9, [some (.ref 3), some (.int x1)], [.int (1 : Int32)])) (w' := (mk s t)) (ob := true) e_26 hk_26 2 rfl rfl ?_
    refine xOK_fg [0, 1] ?_
    exact t_Lasting_hasRoomFor_17 t q _ _ h
set_option maxRecDepth 100000 in
set_option maxHeartbeats 4000000 in
theorem t_Held_holdRecord_28 (t : xS) (q : xS) (s : xS) (h : f_Held_holdRecord_28  s = some q) : xOK 39 none (xEnd 39 none (mk q t)) (16, [none, none], []) (mk s t) 0 0 := by
  unfold f_Held_holdRecord_28 at h
  cases h
  exact xu_vret e_39 hk_39 rfl rfl
set_option maxRecDepth 100000 in
set_option maxHeartbeats 4000000 in
theorem m_Held_holdRecord (x1 : Int32) (s t : xS) (q : xS) (h : f_Held_holdRecord x1 s = some q) : xMet 39 [.ref 11, .int x1] (mk s t) none (mk q t) := by
  refine xMet_of hk_39 rfl rfl rfl ?_
  refine xOK_eq (fr := (0, [some (.ref 11), some (.int x1)], [])) rfl ?_
  unfold f_Held_holdRecord at h
  refine xOK_steps (fr' := (3, [some (.ref 11), some (.int x1)], [.int (4 : Int32), .int (s.1 11)])) (w' := (mk s t)) (ob := true) e_39 hk_39 3 rfl rfl ?_
  refine xu_icmp_ge e_39 hk_39 rfl (fun c1 => ?_) (fun c1 => ?_)
  · have h := xif_pos c1 h
    refine xOK_fg [0, 1] ?_
    exact t_Held_holdRecord_28 t q  _ h
  · have h := xif_neg c1 h
    by_cases o2 : xin (s.1 11) 4 = true
    case neg => have h := xif_neg o2 h; cases h
    have h := xif_pos o2 h
    refine xOK_steps (fr' := (16, [some (.ref 11), some (.int x1)], [])) (w' := (mk (xsc (xsa s 8 (s.1 11).toNatClampNeg x1) 11 ((s.1 11) + (1 : Int32))) t)) (ob := xin (s.1 11) 4 && (true)) e_39 hk_39 12 rfl (xand o2 rfl) ?_
    refine xOK_fg [0, 1] ?_
    exact t_Held_holdRecord_28 t q  _ h
set_option maxRecDepth 100000 in
set_option maxHeartbeats 4000000 in
theorem t_Bus_storeDevice_51 (t : xS) (q : xS) (s : xS) (h : f_Bus_storeDevice_51  s = some q) : xOK 53 none (xEnd 53 none (mk q t)) (23, [none, none, none], []) (mk s t) 0 0 := by
  unfold f_Bus_storeDevice_51 at h
  cases h
  exact xu_vret e_53 hk_53 rfl rfl
set_option maxRecDepth 100000 in
set_option maxHeartbeats 4000000 in
theorem t_Bus_storeDevice_40 (t : xS) (q : xS) (x1 : Int32) (s : xS) (h : f_Bus_storeDevice_40 x1 s = some q) : xOK 53 none (xEnd 53 none (mk q t)) (17, [some (.ref 15), some (.int x1), none], []) (mk s t) 0 0 := by
  unfold f_Bus_storeDevice_40 at h
  refine xOK_steps (fr' := (19, [some (.ref 15), some (.int x1), none], [.int (20 : Int32), .int x1])) (w' := (mk s t)) (ob := true) e_53 hk_53 2 rfl rfl ?_
  refine xu_icmp_ne e_53 hk_53 rfl (fun c1 => ?_) (fun c1 => ?_)
  · have h := xif_neg c1 h
    refine xOK_fg [0, 1] ?_
    exact t_Bus_storeDevice_51 t q  _ h
  · have h := xif_pos c1 h
    refine xOK_steps (fr' := (23, [some (.ref 15), some (.int x1), none], [])) (w' := (mk (xsc s 12 (1 : Int32)) t)) (ob := true) e_53 hk_53 3 rfl rfl ?_
    refine xOK_fg [0, 1] ?_
    exact t_Bus_storeDevice_51 t q  _ h
set_option maxRecDepth 100000 in
set_option maxHeartbeats 4000000 in
theorem m_Bus_storeDevice (x1 x2 : Int32) (s t : xS) (q : xS) (h : f_Bus_storeDevice x1 x2 s = some q) : xMet 53 [.ref 15, .int x1, .int x2] (mk s t) none (mk q t) := by
  refine xMet_of hk_53 rfl rfl rfl ?_
  refine xOK_eq (fr := (0, [some (.ref 15), some (.int x1), some (.int x2)], [])) rfl ?_
  unfold f_Bus_storeDevice at h
  refine xOK_steps (fr' := (2, [some (.ref 15), some (.int x1), some (.int x2)], [.int (18 : Int32), .int x1])) (w' := (mk s t)) (ob := true) e_53 hk_53 2 rfl rfl ?_
  refine xu_icmp_ne e_53 hk_53 rfl (fun c2 => ?_) (fun c2 => ?_)
  · have h := xif_neg c2 h
    refine xOK_fg [2] ?_
    exact t_Bus_storeDevice_40 t q _ _ h
  · have h := xif_pos c2 h
    refine xOK_steps (fr' := (9, [some (.ref 15), some (.int x1), some (.int x2)], [.int (s.1 11), .ref 3])) (w' := (mk s t)) (ob := true) e_53 hk_53 6 rfl rfl ?_
    obtain ⟨q3, e4, h⟩ := Option.bind_eq_some_iff.mp h
    refine xu_callv (q := 3) (r := (some q3.1)) (av := [.int (s.1 11)]) (st := []) (w1 := (mk q3.2 t)) e_53 hk_53 rfl (m_Lasting_hasRoomFor _ _ _ _ e4) rfl rfl rfl rfl rfl ?_
    refine xu_if_eq e_53 hk_53 rfl (fun c5 => ?_) (fun c5 => ?_)
    · have h := xif_pos c5 h
      refine xOK_fg [2] ?_
      exact t_Bus_storeDevice_40 t q _ _ h
    · have h := xif_neg c5 h
      refine xOK_steps (fr' := (15, [some (.ref 15), some (.int x1), some (.int x2)], [.int x2, .ref 11])) (w' := (mk q3.2 t)) (ob := true) e_53 hk_53 4 rfl rfl ?_
      obtain ⟨q6, e7, h⟩ := Option.bind_eq_some_iff.mp h
      refine xu_callv (q := 11) (r := none) (av := [.int x2]) (st := []) (w1 := (mk q6 t)) e_53 hk_53 rfl (m_Held_holdRecord _ _ _ _ e7) rfl rfl rfl rfl rfl ?_
      refine xOK_steps (fr' := (23, [some (.ref 15), some (.int x1), some (.int x2)], [])) (w' := (mk q6 t)) (ob := true) e_53 hk_53 1 rfl rfl ?_
      refine xOK_fg [0, 1, 2] ?_
      exact t_Bus_storeDevice_51 t q  _ h
set_option maxRecDepth 100000 in
set_option maxHeartbeats 4000000 in
theorem t_Bus_peek_27 (t : xS) (q : (Int32 × xS)) (y0 : Int32) (s : xS) (h : f_Bus_peek_27 y0 s = some q) : xOK 50 none (xEnd 50 (some q.1) (mk q.2 t)) (13, [none, none, none], [.int y0]) (mk s t) 0 0 := by
  unfold f_Bus_peek_27 at h
  cases h
  exact xu_iret e_50 hk_50 rfl rfl rfl
set_option maxRecDepth 100000 in
set_option maxHeartbeats 4000000 in
theorem m_Bus_peek (x1 : Int32) (s t : xS) (q : (Int32 × xS)) (h : f_Bus_peek x1 s = some q) : xMet 50 [.ref 15, .int x1] (mk s t) (some q.1) (mk q.2 t) := by
  refine xMet_of hk_50 rfl rfl rfl ?_
  refine xOK_eq (fr := (0, [some (.ref 15), some (.int x1), none], [])) rfl ?_
  unfold f_Bus_peek at h
  refine xOK_steps (fr' := (1, [some (.ref 15), some (.int x1), none], [.int x1])) (w' := (mk s t)) (ob := true) e_50 hk_50 1 rfl rfl ?_
  obtain ⟨q1, e2, h⟩ := Option.bind_eq_some_iff.mp h
  refine xu_calls (r := (some q1)) (av := [.int x1]) (st := []) (w1 := (mk s t)) e_50 hk_50 rfl rfl (m_Bus_inFram _ _ _ _ e2) rfl rfl rfl rfl ?_
  refine xu_if_ne e_50 hk_50 rfl (fun c3 => ?_) (fun c3 => ?_)
  · have h := xif_neg c3 h
    refine xOK_steps (fr' := (15, [some (.ref 15), some (.int x1), none], [.int x1])) (w' := (mk s t)) (ob := true) e_50 hk_50 1 rfl rfl ?_
    obtain ⟨q4, e5, h⟩ := Option.bind_eq_some_iff.mp h
    refine xu_calls (r := (some q4)) (av := [.int x1]) (st := []) (w1 := (mk s t)) e_50 hk_50 rfl rfl (m_Bus_framWord _ _ _ _ e5) rfl rfl rfl rfl ?_
    by_cases o6 : xin q4 128 = true
    case neg => have h := xif_neg o6 h; cases h
    have h := xif_pos o6 h
    refine xOK_steps (fr' := (26, [some (.ref 15), some (.int x1), some (.int q4)], [.int ((s.2 1) (q4).toNatClampNeg), .int q4, .ref 11])) (w' := (mk s t)) (ob := xin q4 128 && (true)) e_50 hk_50 10 rfl (xand o6 rfl) ?_
    obtain ⟨q7, e8, h⟩ := Option.bind_eq_some_iff.mp h
    refine xu_callv (q := 11) (r := (some q7.1)) (av := [.int q4, .int ((s.2 1) (q4).toNatClampNeg)]) (st := []) (w1 := (mk q7.2 t)) e_50 hk_50 rfl (m_Held_valueOf _ _ _ _ _ e8) rfl rfl rfl rfl rfl ?_
    cases h
    exact xu_iret e_50 hk_50 rfl rfl rfl
  · have h := xif_pos c3 h
    refine xOK_steps (fr' := (4, [some (.ref 15), some (.int x1), none], [.int x1])) (w' := (mk s t)) (ob := true) e_50 hk_50 1 rfl rfl ?_
    obtain ⟨q9, e10, h⟩ := Option.bind_eq_some_iff.mp h
    refine xu_calls (r := (some q9)) (av := [.int x1]) (st := []) (w1 := (mk s t)) e_50 hk_50 rfl rfl (m_Bus_inSram _ _ _ _ e10) rfl rfl rfl rfl ?_
    refine xu_if_eq e_50 hk_50 rfl (fun c11 => ?_) (fun c11 => ?_)
    · have h := xif_pos c11 h
      refine xOK_steps (fr' := (13, [some (.ref 15), some (.int x1), none], [.int (0 : Int32)])) (w' := (mk s t)) (ob := true) e_50 hk_50 1 rfl rfl ?_
      refine xOK_fg [0, 1] ?_
      exact t_Bus_peek_27 t q _ _ h
    · have h := xif_neg c11 h
      refine xOK_steps (fr' := (9, [some (.ref 15), some (.int x1), none], [.int x1, .ref 16])) (w' := (mk s t)) (ob := true) e_50 hk_50 3 rfl rfl ?_
      obtain ⟨q12, e13, h⟩ := Option.bind_eq_some_iff.mp h
      refine xu_calls (r := (some q12)) (av := [.int x1]) (st := [.ref 16]) (w1 := (mk s t)) e_50 hk_50 rfl rfl (m_Bus_sramWord _ _ _ _ e13) rfl rfl rfl rfl ?_
      by_cases o14 : xin q12 16 = true
      case neg => have h := xif_neg o14 h; cases h
      have h := xif_pos o14 h
      refine xOK_steps (fr' := (13, [some (.ref 15), some (.int x1), none], [.int ((s.2 9) (q12).toNatClampNeg)])) (w' := (mk s t)) (ob := xin q12 16 && (true)) e_50 hk_50 2 rfl (xand o14 rfl) ?_
      refine xOK_fg [0, 1] ?_
      exact t_Bus_peek_27 t q _ _ h
set_option maxRecDepth 100000 in
set_option maxHeartbeats 4000000 in
theorem t_Bus_write_85 (t : xS) (q : xS) (s : xS) (h : f_Bus_write_85  s = some q) : xOK 49 none (xEnd 49 none (mk q t)) (43, [none, none, none, none, none], []) (mk s t) 0 0 := by
  unfold f_Bus_write_85 at h
  cases h
  exact xu_vret e_49 hk_49 rfl rfl
set_option maxRecDepth 100000 in
set_option maxHeartbeats 4000000 in
theorem t_Bus_write_63 (t : xS) (q : xS) (x1 x4 : Int32) (s : xS) (h : f_Bus_write_63 x1 x4 s = some q) : xOK 49 none (xEnd 49 none (mk q t)) (31, [some (.ref 15), some (.int x1), none, none, some (.int x4)], []) (mk s t) 0 0 := by
  unfold f_Bus_write_63 at h
  refine xOK_steps (fr' := (33, [some (.ref 15), some (.int x1), none, none, some (.int x4)], [.int x1, .ref 15])) (w' := (mk s t)) (ob := true) e_49 hk_49 2 rfl rfl ?_
  obtain ⟨q1, e2, h⟩ := Option.bind_eq_some_iff.mp h
  refine xu_calls (r := (some q1)) (av := [.int x1]) (st := [.ref 15]) (w1 := (mk s t)) e_49 hk_49 rfl rfl (m_Bus_framWord _ _ _ _ e2) rfl rfl rfl rfl ?_
  refine xOK_steps (fr' := (35, [some (.ref 15), some (.int x1), none, none, some (.int x4)], [.int x4, .int q1, .ref 15])) (w' := (mk s t)) (ob := true) e_49 hk_49 1 rfl rfl ?_
  obtain ⟨q3, e4, h⟩ := Option.bind_eq_some_iff.mp h
  refine xu_callv (q := 15) (r := none) (av := [.int q1, .int x4]) (st := []) (w1 := (mk q3 t)) e_49 hk_49 rfl (m_Bus_storeFram _ _ _ _ _ e4) rfl rfl rfl rfl rfl ?_
  refine xOK_steps (fr' := (43, [some (.ref 15), some (.int x1), none, none, some (.int x4)], [])) (w' := (mk q3 t)) (ob := true) e_49 hk_49 1 rfl rfl ?_
  refine xOK_fg [0, 1, 4] ?_
  exact t_Bus_write_85 t q  _ h
set_option maxRecDepth 100000 in
set_option maxHeartbeats 4000000 in
theorem t_Bus_write_18 (t : xS) (q : xS) (x1 x2 x3 y0 : Int32) (s : xS) (h : f_Bus_write_18 x1 x2 x3 y0 s = some q) : xOK 49 none (xEnd 49 none (mk q t)) (10, [some (.ref 15), some (.int x1), some (.int x2), some (.int x3), none], [.int y0]) (mk s t) 0 0 := by
  unfold f_Bus_write_18 at h
  refine xOK_steps (fr' := (12, [some (.ref 15), some (.int x1), some (.int x2), some (.int x3), some (.int y0)], [.int x1])) (w' := (mk s t)) (ob := true) e_49 hk_49 2 rfl rfl ?_
  obtain ⟨q5, e6, h⟩ := Option.bind_eq_some_iff.mp h
  refine xu_calls (r := (some q5)) (av := [.int x1]) (st := []) (w1 := (mk s t)) e_49 hk_49 rfl rfl (m_Bus_inSram _ _ _ _ e6) rfl rfl rfl rfl ?_
  refine xu_if_eq e_49 hk_49 rfl (fun c7 => ?_) (fun c7 => ?_)
  · have h := xif_pos c7 h
    refine xOK_steps (fr' := (22, [some (.ref 15), some (.int x1), some (.int x2), some (.int x3), some (.int y0)], [.int x1])) (w' := (mk s t)) (ob := true) e_49 hk_49 1 rfl rfl ?_
    obtain ⟨q8, e9, h⟩ := Option.bind_eq_some_iff.mp h
    refine xu_calls (r := (some q8)) (av := [.int x1]) (st := []) (w1 := (mk s t)) e_49 hk_49 rfl rfl (m_Bus_inFram _ _ _ _ e9) rfl rfl rfl rfl ?_
    refine xu_if_eq e_49 hk_49 rfl (fun c10 => ?_) (fun c10 => ?_)
    · have h := xif_pos c10 h
      refine xOK_steps (fr' := (42, [some (.ref 15), some (.int x1), some (.int x2), some (.int x3), some (.int y0)], [.int x2, .int (x1 &&& (65534 : Int32)), .ref 15])) (w' := (mk s t)) (ob := true) e_49 hk_49 5 rfl rfl ?_
      obtain ⟨q11, e12, h⟩ := Option.bind_eq_some_iff.mp h
      refine xu_callv (q := 15) (r := none) (av := [.int (x1 &&& (65534 : Int32)), .int x2]) (st := []) (w1 := (mk q11 t)) e_49 hk_49 rfl (m_Bus_storeDevice _ _ _ _ _ e12) rfl rfl rfl rfl rfl ?_
      refine xOK_fg [0, 1, 2, 3, 4] ?_
      exact t_Bus_write_85 t q  _ h
    · have h := xif_neg c10 h
      refine xOK_steps (fr' := (25, [some (.ref 15), some (.int x1), some (.int x2), some (.int x3), some (.int y0)], [.int x3])) (w' := (mk s t)) (ob := true) e_49 hk_49 1 rfl rfl ?_
      refine xu_if_eq e_49 hk_49 rfl (fun c13 => ?_) (fun c13 => ?_)
      · have h := xif_pos c13 h
        refine xOK_fg [2, 3] ?_
        exact t_Bus_write_63 t q _ _ _ h
      · have h := xif_neg c13 h
        refine xOK_steps (fr' := (29, [some (.ref 15), some (.int x1), some (.int x2), some (.int x3), some (.int y0)], [.int x1, .ref 9])) (w' := (mk s t)) (ob := true) e_49 hk_49 3 rfl rfl ?_
        obtain ⟨q14, e15, h⟩ := Option.bind_eq_some_iff.mp h
        refine xu_calls (r := (some q14)) (av := [.int x1]) (st := [.ref 9]) (w1 := (mk s t)) e_49 hk_49 rfl rfl (m_Bus_framWord _ _ _ _ e15) rfl rfl rfl rfl ?_
        obtain ⟨q16, e17, h⟩ := Option.bind_eq_some_iff.mp h
        refine xu_callv (q := 9) (r := none) (av := [.int q14]) (st := []) (w1 := (mk q16 t)) e_49 hk_49 rfl (m_Section_noteLoad _ _ _ _ e17) rfl rfl rfl rfl rfl ?_
        refine xOK_fg [2, 3] ?_
        exact t_Bus_write_63 t q _ _ _ h
  · have h := xif_neg c7 h
    refine xOK_steps (fr' := (17, [some (.ref 15), some (.int x1), some (.int x2), some (.int x3), some (.int y0)], [.int x1, .ref 16])) (w' := (mk s t)) (ob := true) e_49 hk_49 3 rfl rfl ?_
    obtain ⟨q18, e19, h⟩ := Option.bind_eq_some_iff.mp h
    refine xu_calls (r := (some q18)) (av := [.int x1]) (st := [.ref 16]) (w1 := (mk s t)) e_49 hk_49 rfl rfl (m_Bus_sramWord _ _ _ _ e19) rfl rfl rfl rfl ?_
    by_cases o20 : xin q18 16 = true
    case neg => have h := xif_neg o20 h; cases h
    have h := xif_pos o20 h
    refine xOK_steps (fr' := (43, [some (.ref 15), some (.int x1), some (.int x2), some (.int x3), some (.int y0)], [])) (w' := (mk (xsa s 9 (q18).toNatClampNeg y0) t)) (ob := xin q18 16 && (true)) e_49 hk_49 3 rfl (xand o20 rfl) ?_
    refine xOK_fg [0, 1, 2, 3, 4] ?_
    exact t_Bus_write_85 t q  _ h
set_option maxRecDepth 100000 in
set_option maxHeartbeats 4000000 in
theorem m_Bus_write (x1 x2 x3 : Int32) (s t : xS) (q : xS) (h : f_Bus_write x1 x2 x3 s = some q) : xMet 49 [.ref 15, .int x1, .int x2, .int x3] (mk s t) none (mk q t) := by
  refine xMet_of hk_49 rfl rfl rfl ?_
  refine xOK_eq (fr := (0, [some (.ref 15), some (.int x1), some (.int x2), some (.int x3), none], [])) rfl ?_
  unfold f_Bus_write at h
  refine xOK_steps (fr' := (1, [some (.ref 15), some (.int x1), some (.int x2), some (.int x3), none], [.int x3])) (w' := (mk s t)) (ob := true) e_49 hk_49 1 rfl rfl ?_
  refine xu_if_eq e_49 hk_49 rfl (fun c21 => ?_) (fun c21 => ?_)
  · have h := xif_pos c21 h
    refine xOK_steps (fr' := (10, [some (.ref 15), some (.int x1), some (.int x2), some (.int x3), none], [.int x2])) (w' := (mk s t)) (ob := true) e_49 hk_49 1 rfl rfl ?_
    exact t_Bus_write_18 t q _ _ _ _ _ h
  · have h := xif_neg c21 h
    refine xOK_steps (fr' := (4, [some (.ref 15), some (.int x1), some (.int x2), some (.int x3), none], [.int x1, .ref 15])) (w' := (mk s t)) (ob := true) e_49 hk_49 2 rfl rfl ?_
    obtain ⟨q22, e23, h⟩ := Option.bind_eq_some_iff.mp h
    refine xu_callv (q := 15) (r := (some q22.1)) (av := [.int x1]) (st := []) (w1 := (mk q22.2 t)) e_49 hk_49 rfl (m_Bus_peek _ _ _ _ e23) rfl rfl rfl rfl rfl ?_
    refine xOK_steps (fr' := (7, [some (.ref 15), some (.int x1), some (.int x2), some (.int x3), none], [.int x2, .int x1, .int q22.1])) (w' := (mk q22.2 t)) (ob := true) e_49 hk_49 2 rfl rfl ?_
    obtain ⟨q24, e25, h⟩ := Option.bind_eq_some_iff.mp h
    refine xu_calls (r := (some q24)) (av := [.int q22.1, .int x1, .int x2]) (st := []) (w1 := (mk q22.2 t)) e_49 hk_49 rfl rfl (m_Bus_withByte _ _ _ _ _ _ e25) rfl rfl rfl rfl ?_
    refine xOK_steps (fr' := (10, [some (.ref 15), some (.int x1), some (.int x2), some (.int x3), none], [.int q24])) (w' := (mk q22.2 t)) (ob := true) e_49 hk_49 1 rfl rfl ?_
    exact t_Bus_write_18 t q _ _ _ _ _ h
set_option maxRecDepth 100000 in
set_option maxHeartbeats 4000000 in
theorem t_Processor_deliver_64 (t : xS) (q : xS) (s : xS) (h : f_Processor_deliver_64  s = some q) : xOK 72 none (xEnd 72 none (mk q t)) (32, [none, none], []) (mk s t) 0 0 := by
  unfold f_Processor_deliver_64 at h
  cases h
  exact xu_vret e_72 hk_72 rfl rfl
set_option maxRecDepth 100000 in
set_option maxHeartbeats 4000000 in
theorem t_Processor_deliver_60 (t : xS) (q : xS) (s : xS) (h : f_Processor_deliver_60  s = some q) : xOK 72 none (xEnd 72 none (mk q t)) (30, [some (.ref 17), none], []) (mk s t) 0 0 := by
  unfold f_Processor_deliver_60 at h
  refine xOK_steps (fr' := (31, [some (.ref 17), none], [.ref 17])) (w' := (mk s t)) (ob := true) e_72 hk_72 1 rfl rfl ?_
  obtain ⟨q1, e2, h⟩ := Option.bind_eq_some_iff.mp h
  refine xu_callv (q := 17) (r := none) (av := []) (st := []) (w1 := (mk q1 t)) e_72 hk_72 rfl (m_Processor_setFlags  _ _ _ e2) rfl rfl rfl rfl rfl ?_
  refine xOK_fg [0] ?_
  exact t_Processor_deliver_64 t q  _ h
set_option maxRecDepth 100000 in
set_option maxHeartbeats 4000000 in
theorem t_Processor_deliver_44 (t : xS) (q : xS) (s : xS) (h : f_Processor_deliver_44  s = some q) : xOK 72 none (xEnd 72 none (mk q t)) (22, [some (.ref 17), none], []) (mk s t) 0 0 := by
  unfold f_Processor_deliver_44 at h
  refine xOK_steps (fr' := (25, [some (.ref 17), none], [.int (1 : Int32), .int (s.1 14)])) (w' := (mk s t)) (ob := true) e_72 hk_72 3 rfl rfl ?_
  refine xu_icmp_ne e_72 hk_72 rfl (fun c3 => ?_) (fun c3 => ?_)
  · have h := xif_neg c3 h
    exact t_Processor_deliver_60 t q  _ h
  · have h := xif_pos c3 h
    refine xOK_steps (fr' := (29, [some (.ref 17), none], [.int (2 : Int32), .int (s.1 15)])) (w' := (mk s t)) (ob := true) e_72 hk_72 3 rfl rfl ?_
    refine xu_icmp_eq e_72 hk_72 rfl (fun c4 => ?_) (fun c4 => ?_)
    · have h := xif_pos c4 h
      refine xOK_fg [0] ?_
      exact t_Processor_deliver_64 t q  _ h
    · have h := xif_neg c4 h
      exact t_Processor_deliver_60 t q  _ h
set_option maxRecDepth 100000 in
set_option maxHeartbeats 4000000 in
theorem m_Processor_deliver (x1 : Int32) (s t : xS) (q : xS) (h : f_Processor_deliver x1 s = some q) : xMet 72 [.ref 17, .int x1] (mk s t) none (mk q t) := by
  refine xMet_of hk_72 rfl rfl rfl ?_
  refine xOK_eq (fr := (0, [some (.ref 17), some (.int x1)], [])) rfl ?_
  unfold f_Processor_deliver at h
  refine xOK_steps (fr' := (3, [some (.ref 17), some (.int x1)], [.int (2 : Int32), .int (s.1 14)])) (w' := (mk s t)) (ob := true) e_72 hk_72 3 rfl rfl ?_
  refine xu_icmp_ne e_72 hk_72 rfl (fun c5 => ?_) (fun c5 => ?_)
  · have h := xif_neg c5 h
    refine xOK_steps (fr' := (16, [some (.ref 17), some (.int x1)], [.int (1 : Int32), .int (s.1 14)])) (w' := (mk s t)) (ob := true) e_72 hk_72 3 rfl rfl ?_
    refine xu_icmp_ne e_72 hk_72 rfl (fun c6 => ?_) (fun c6 => ?_)
    · have h := xif_neg c6 h
      refine xOK_fg [1] ?_
      exact t_Processor_deliver_44 t q  _ h
    · have h := xif_pos c6 h
      refine xOK_steps (fr' := (21, [some (.ref 17), some (.int x1)], [.int x1, .int (s.1 15), .ref 17])) (w' := (mk s t)) (ob := true) e_72 hk_72 4 rfl rfl ?_
      obtain ⟨q7, e8, h⟩ := Option.bind_eq_some_iff.mp h
      refine xu_callv (q := 17) (r := none) (av := [.int (s.1 15), .int x1]) (st := []) (w1 := (mk q7 t)) e_72 hk_72 rfl (m_Processor_setRegister _ _ _ _ _ e8) rfl rfl rfl rfl rfl ?_
      refine xOK_fg [1] ?_
      exact t_Processor_deliver_44 t q  _ h
  · have h := xif_pos c5 h
    refine xOK_steps (fr' := (11, [some (.ref 17), some (.int x1)], [.int (s.1 13), .int x1, .int (s.1 15), .ref 15])) (w' := (mk s t)) (ob := true) e_72 hk_72 7 rfl rfl ?_
    obtain ⟨q9, e10, h⟩ := Option.bind_eq_some_iff.mp h
    refine xu_callv (q := 15) (r := none) (av := [.int (s.1 15), .int x1, .int (s.1 13)]) (st := []) (w1 := (mk q9 t)) e_72 hk_72 rfl (m_Bus_write _ _ _ _ _ _ e10) rfl rfl rfl rfl rfl ?_
    refine xOK_steps (fr' := (22, [some (.ref 17), some (.int x1)], [])) (w' := (mk q9 t)) (ob := true) e_72 hk_72 1 rfl rfl ?_
    refine xOK_fg [1] ?_
    exact t_Processor_deliver_44 t q  _ h
set_option maxRecDepth 100000 in
set_option maxHeartbeats 4000000 in
theorem m_Processor_push (x1 : Int32) (s t : xS) (q : xS) (h : f_Processor_push x1 s = some q) : xMet 79 [.ref 17, .int x1] (mk s t) none (mk q t) := by
  refine xMet_of hk_79 rfl rfl rfl ?_
  refine xOK_eq (fr := (0, [some (.ref 17), some (.int x1)], [])) rfl ?_
  unfold f_Processor_push at h
  refine xOK_steps (fr' := (8, [some (.ref 17), some (.int x1)], [.int (((s.2 10) 1) - (2 : Int32)), .int (1 : Int32), .ref 17])) (w' := (mk s t)) (ob := true) e_79 hk_79 8 rfl rfl ?_
  obtain ⟨q1, e2, h⟩ := Option.bind_eq_some_iff.mp h
  refine xu_callv (q := 17) (r := none) (av := [.int (1 : Int32), .int (((s.2 10) 1) - (2 : Int32))]) (st := []) (w1 := (mk q1 t)) e_79 hk_79 rfl (m_Processor_setRegister _ _ _ _ _ e2) rfl rfl rfl rfl rfl ?_
  refine xOK_steps (fr' := (18, [some (.ref 17), some (.int x1)], [.int (q1.1 13), .int x1, .int ((q1.2 10) 1), .ref 15])) (w' := (mk q1 t)) (ob := true) e_79 hk_79 9 rfl rfl ?_
  obtain ⟨q3, e4, h⟩ := Option.bind_eq_some_iff.mp h
  refine xu_callv (q := 15) (r := none) (av := [.int ((q1.2 10) 1), .int x1, .int (q1.1 13)]) (st := []) (w1 := (mk q3 t)) e_79 hk_79 rfl (m_Bus_write _ _ _ _ _ _ e4) rfl rfl rfl rfl rfl ?_
  cases h
  exact xu_vret e_79 hk_79 rfl rfl
set_option maxRecDepth 100000 in
set_option maxHeartbeats 4000000 in
theorem m_Processor_pop (s t : xS) (q : (Int32 × xS)) (h : f_Processor_pop  s = some q) : xMet 80 [.ref 17] (mk s t) (some q.1) (mk q.2 t) := by
  refine xMet_of hk_80 rfl rfl rfl ?_
  refine xOK_eq (fr := (0, [some (.ref 17), none], [])) rfl ?_
  unfold f_Processor_pop at h
  refine xOK_steps (fr' := (7, [some (.ref 17), none], [.int (0 : Int32), .int ((s.2 10) 1), .ref 15])) (w' := (mk s t)) (ob := true) e_80 hk_80 7 rfl rfl ?_
  obtain ⟨q1, e2, h⟩ := Option.bind_eq_some_iff.mp h
  refine xu_callv (q := 15) (r := (some q1.1)) (av := [.int ((s.2 10) 1), .int (0 : Int32)]) (st := []) (w1 := (mk q1.2 t)) e_80 hk_80 rfl (m_Bus_read _ _ _ _ _ e2) rfl rfl rfl rfl rfl ?_
  refine xOK_steps (fr' := (17, [some (.ref 17), some (.int q1.1)], [.int (((q1.2.2 10) 1) + (2 : Int32)), .int (1 : Int32), .ref 17])) (w' := (mk q1.2 t)) (ob := true) e_80 hk_80 9 rfl rfl ?_
  obtain ⟨q3, e4, h⟩ := Option.bind_eq_some_iff.mp h
  refine xu_callv (q := 17) (r := none) (av := [.int (1 : Int32), .int (((q1.2.2 10) 1) + (2 : Int32))]) (st := []) (w1 := (mk q3 t)) e_80 hk_80 rfl (m_Processor_setRegister _ _ _ _ _ e4) rfl rfl rfl rfl rfl ?_
  refine xOK_steps (fr' := (19, [some (.ref 17), some (.int q1.1)], [.int q1.1])) (w' := (mk q3 t)) (ob := true) e_80 hk_80 1 rfl rfl ?_
  cases h
  exact xu_iret e_80 hk_80 rfl rfl rfl
set_option maxRecDepth 100000 in
set_option maxHeartbeats 4000000 in
theorem t_Processor_oneOperand_137 (t : xS) (q : xS) (s : xS) (h : f_Processor_oneOperand_137  s = some q) : xOK 62 none (xEnd 62 none (mk q t)) (83, [none, none, none, none], []) (mk s t) 0 0 := by
  unfold f_Processor_oneOperand_137 at h
  cases h
  exact xu_vret e_62 hk_62 rfl rfl
set_option maxRecDepth 100000 in
set_option maxHeartbeats 4000000 in
theorem t_Processor_oneOperand_69 (t : xS) (q : xS) (x1 x2 y1 : Int32) (s : xS) (h : f_Processor_oneOperand_69 x1 x2 y1 s = some q) : xOK 62 none (xEnd 62 none (mk q t)) (42, [some (.ref 17), some (.int x1), some (.int x2), none], [.int y1, .ref 17]) (mk s t) 0 0 := by
  unfold f_Processor_oneOperand_69 at h
  by_cases o1 : xbl y1 = true
  case neg => have h := xif_neg o1 h; cases h
  have h := xif_pos o1 h
  refine xOK_steps (fr' := (52, [some (.ref 17), some (.int x1), some (.int x2), none], [.int ((x1 >>> ((4 : Int32) &&& 31)) &&& (3 : Int32)), .int (x1 &&& (15 : Int32)), .ref 17])) (w' := (mk (xsc s 13 y1) t)) (ob := xbl y1 && (true)) e_62 hk_62 10 rfl (xand o1 rfl) ?_
  obtain ⟨q2, e3, h⟩ := Option.bind_eq_some_iff.mp h
  refine xu_callv (q := 17) (r := none) (av := [.int (x1 &&& (15 : Int32)), .int ((x1 >>> ((4 : Int32) &&& 31)) &&& (3 : Int32))]) (st := []) (w1 := (mk q2 t)) e_62 hk_62 rfl (m_Processor_findSource _ _ _ _ _ e3) rfl rfl rfl rfl rfl ?_
  refine xOK_steps (fr' := (54, [some (.ref 17), some (.int x1), some (.int x2), none], [.ref 17])) (w' := (mk q2 t)) (ob := true) e_62 hk_62 1 rfl rfl ?_
  obtain ⟨q4, e5, h⟩ := Option.bind_eq_some_iff.mp h
  refine xu_callv (q := 17) (r := (some q4.1)) (av := []) (st := []) (w1 := (mk q4.2 t)) e_62 hk_62 rfl (m_Processor_operand  _ _ _ e5) rfl rfl rfl rfl rfl ?_
  refine xOK_steps (fr' := (58, [some (.ref 17), some (.int x1), some (.int x2), some (.int q4.1)], [.int (4 : Int32), .int x2])) (w' := (mk q4.2 t)) (ob := true) e_62 hk_62 3 rfl rfl ?_
  refine xu_icmp_ne e_62 hk_62 rfl (fun c6 => ?_) (fun c6 => ?_)
  · have h := xif_neg c6 h
    refine xOK_steps (fr' := (65, [some (.ref 17), some (.int x1), some (.int x2), some (.int q4.1)], [.int (5 : Int32), .int x2])) (w' := (mk q4.2 t)) (ob := true) e_62 hk_62 2 rfl rfl ?_
    refine xu_icmp_ne e_62 hk_62 rfl (fun c7 => ?_) (fun c7 => ?_)
    · have h := xif_neg c7 h
      refine xOK_steps (fr' := (81, [some (.ref 17), some (.int x1), some (.int x2), some (.int q4.1)], [.int q4.1, .int x2, .ref 17, .ref 17])) (w' := (mk q4.2 t)) (ob := true) e_62 hk_62 4 rfl rfl ?_
      obtain ⟨q8, e9, h⟩ := Option.bind_eq_some_iff.mp h
      refine xu_callv (q := 17) (r := (some q8.1)) (av := [.int x2, .int q4.1]) (st := [.ref 17]) (w1 := (mk q8.2 t)) e_62 hk_62 rfl (m_Processor_changed _ _ _ _ _ e9) rfl rfl rfl rfl rfl ?_
      obtain ⟨q10, e11, h⟩ := Option.bind_eq_some_iff.mp h
      refine xu_callv (q := 17) (r := none) (av := [.int q8.1]) (st := []) (w1 := (mk q10 t)) e_62 hk_62 rfl (m_Processor_deliver _ _ _ _ e11) rfl rfl rfl rfl rfl ?_
      refine xOK_fg [0, 1, 2, 3] ?_
      exact t_Processor_oneOperand_137 t q  _ h
    · have h := xif_pos c7 h
      refine xOK_steps (fr' := (71, [some (.ref 17), some (.int x1), some (.int x2), some (.int q4.1)], [.int ((q4.2.2 10) 0), .ref 17])) (w' := (mk q4.2 t)) (ob := true) e_62 hk_62 5 rfl rfl ?_
      obtain ⟨q12, e13, h⟩ := Option.bind_eq_some_iff.mp h
      refine xu_callv (q := 17) (r := none) (av := [.int ((q4.2.2 10) 0)]) (st := []) (w1 := (mk q12 t)) e_62 hk_62 rfl (m_Processor_push _ _ _ _ e13) rfl rfl rfl rfl rfl ?_
      refine xOK_steps (fr' := (75, [some (.ref 17), some (.int x1), some (.int x2), some (.int q4.1)], [.int q4.1, .int (0 : Int32), .ref 17])) (w' := (mk q12 t)) (ob := true) e_62 hk_62 3 rfl rfl ?_
      obtain ⟨q14, e15, h⟩ := Option.bind_eq_some_iff.mp h
      refine xu_callv (q := 17) (r := none) (av := [.int (0 : Int32), .int q4.1]) (st := []) (w1 := (mk q14 t)) e_62 hk_62 rfl (m_Processor_setRegister _ _ _ _ _ e15) rfl rfl rfl rfl rfl ?_
      refine xOK_steps (fr' := (83, [some (.ref 17), some (.int x1), some (.int x2), some (.int q4.1)], [])) (w' := (mk q14 t)) (ob := true) e_62 hk_62 1 rfl rfl ?_
      refine xOK_fg [0, 1, 2, 3] ?_
      exact t_Processor_oneOperand_137 t q  _ h
  · have h := xif_pos c6 h
    refine xOK_steps (fr' := (61, [some (.ref 17), some (.int x1), some (.int x2), some (.int q4.1)], [.int q4.1, .ref 17])) (w' := (mk q4.2 t)) (ob := true) e_62 hk_62 2 rfl rfl ?_
    obtain ⟨q16, e17, h⟩ := Option.bind_eq_some_iff.mp h
    refine xu_callv (q := 17) (r := none) (av := [.int q4.1]) (st := []) (w1 := (mk q16 t)) e_62 hk_62 rfl (m_Processor_push _ _ _ _ e17) rfl rfl rfl rfl rfl ?_
    refine xOK_steps (fr' := (83, [some (.ref 17), some (.int x1), some (.int x2), some (.int q4.1)], [])) (w' := (mk q16 t)) (ob := true) e_62 hk_62 1 rfl rfl ?_
    refine xOK_fg [0, 1, 2, 3] ?_
    exact t_Processor_oneOperand_137 t q  _ h
set_option maxRecDepth 100000 in
set_option maxHeartbeats 4000000 in
theorem t_Processor_oneOperand_68 (t : xS) (q : xS) (x1 x2 : Int32) (s : xS) (h : f_Processor_oneOperand_68 x1 x2 s = some q) : xOK 62 none (xEnd 62 none (mk q t)) (41, [some (.ref 17), some (.int x1), some (.int x2), none], [.ref 17]) (mk s t) 0 0 := by
  unfold f_Processor_oneOperand_68 at h
  refine xOK_steps (fr' := (42, [some (.ref 17), some (.int x1), some (.int x2), none], [.int (0 : Int32), .ref 17])) (w' := (mk s t)) (ob := true) e_62 hk_62 1 rfl rfl ?_
  exact t_Processor_oneOperand_69 t q _ _ _ _ h
set_option maxRecDepth 100000 in
set_option maxHeartbeats 4000000 in
theorem t_Processor_oneOperand_64 (t : xS) (q : xS) (x1 x2 : Int32) (s : xS) (h : f_Processor_oneOperand_64 x1 x2 s = some q) : xOK 62 none (xEnd 62 none (mk q t)) (39, [some (.ref 17), some (.int x1), some (.int x2), none], [.ref 17]) (mk s t) 0 0 := by
  unfold f_Processor_oneOperand_64 at h
  refine xOK_steps (fr' := (42, [some (.ref 17), some (.int x1), some (.int x2), none], [.int (1 : Int32), .ref 17])) (w' := (mk s t)) (ob := true) e_62 hk_62 2 rfl rfl ?_
  exact t_Processor_oneOperand_69 t q _ _ _ _ h
set_option maxRecDepth 100000 in
set_option maxHeartbeats 4000000 in
theorem t_Processor_oneOperand_32 (t : xS) (q : xS) (x1 x2 : Int32) (s : xS) (h : f_Processor_oneOperand_32 x1 x2 s = some q) : xOK 62 none (xEnd 62 none (mk q t)) (19, [some (.ref 17), some (.int x1), some (.int x2), none], []) (mk s t) 0 0 := by
  unfold f_Processor_oneOperand_32 at h
  refine xOK_steps (fr' := (21, [some (.ref 17), some (.int x1), some (.int x2), none], [.int (6 : Int32), .int x2])) (w' := (mk s t)) (ob := true) e_62 hk_62 2 rfl rfl ?_
  refine xu_icmp_lt e_62 hk_62 rfl (fun c18 => ?_) (fun c18 => ?_)
  · have h := xif_pos c18 h
    refine xOK_steps (fr' := (30, [some (.ref 17), some (.int x1), some (.int x2), none], [.int (1 : Int32), .int ((x1 >>> ((6 : Int32) &&& 31)) &&& (1 : Int32)), .ref 17])) (w' := (mk s t)) (ob := true) e_62 hk_62 7 rfl rfl ?_
    refine xu_icmp_ne e_62 hk_62 rfl (fun c19 => ?_) (fun c19 => ?_)
    · have h := xif_neg c19 h
      exact t_Processor_oneOperand_68 t q _ _ _ h
    · have h := xif_pos c19 h
      refine xOK_steps (fr' := (32, [some (.ref 17), some (.int x1), some (.int x2), none], [.int x2, .ref 17])) (w' := (mk s t)) (ob := true) e_62 hk_62 1 rfl rfl ?_
      refine xu_if_eq e_62 hk_62 rfl (fun c20 => ?_) (fun c20 => ?_)
      · have h := xif_pos c20 h
        exact t_Processor_oneOperand_64 t q _ _ _ h
      · have h := xif_neg c20 h
        refine xOK_steps (fr' := (35, [some (.ref 17), some (.int x1), some (.int x2), none], [.int (2 : Int32), .int x2, .ref 17])) (w' := (mk s t)) (ob := true) e_62 hk_62 2 rfl rfl ?_
        refine xu_icmp_eq e_62 hk_62 rfl (fun c21 => ?_) (fun c21 => ?_)
        · have h := xif_pos c21 h
          exact t_Processor_oneOperand_64 t q _ _ _ h
        · have h := xif_neg c21 h
          refine xOK_steps (fr' := (38, [some (.ref 17), some (.int x1), some (.int x2), none], [.int (4 : Int32), .int x2, .ref 17])) (w' := (mk s t)) (ob := true) e_62 hk_62 2 rfl rfl ?_
          refine xu_icmp_ne e_62 hk_62 rfl (fun c22 => ?_) (fun c22 => ?_)
          · have h := xif_neg c22 h
            exact t_Processor_oneOperand_68 t q _ _ _ h
          · have h := xif_pos c22 h
            exact t_Processor_oneOperand_64 t q _ _ _ h
  · have h := xif_neg c18 h
    cases h
    exact xu_vret e_62 hk_62 rfl rfl
set_option maxRecDepth 100000 in
set_option maxHeartbeats 4000000 in
theorem m_Processor_oneOperand (x1 : Int32) (s t : xS) (q : xS) (h : f_Processor_oneOperand x1 s = some q) : xMet 62 [.ref 17, .int x1] (mk s t) none (mk q t) := by
  refine xMet_of hk_62 rfl rfl rfl ?_
  refine xOK_eq (fr := (0, [some (.ref 17), some (.int x1), none, none], [])) rfl ?_
  unfold f_Processor_oneOperand at h
  refine xOK_steps (fr' := (8, [some (.ref 17), some (.int x1), some (.int ((x1 >>> ((7 : Int32) &&& 31)) &&& (7 : Int32))), none], [.int (6 : Int32), .int ((x1 >>> ((7 : Int32) &&& 31)) &&& (7 : Int32))])) (w' := (mk s t)) (ob := true) e_62 hk_62 8 rfl rfl ?_
  refine xu_icmp_ne e_62 hk_62 rfl (fun c23 => ?_) (fun c23 => ?_)
  · have h := xif_neg c23 h
    exact t_Processor_oneOperand_32 t q _ _ _ h
  · have h := xif_pos c23 h
    refine xOK_steps (fr' := (12, [some (.ref 17), some (.int x1), some (.int ((x1 >>> ((7 : Int32) &&& 31)) &&& (7 : Int32))), none], [.ref 17, .int (2 : Int32), .ref 17])) (w' := (mk s t)) (ob := true) e_62 hk_62 3 rfl rfl ?_
    obtain ⟨q24, e25, h⟩ := Option.bind_eq_some_iff.mp h
    refine xu_callv (q := 17) (r := (some q24.1)) (av := []) (st := [.int (2 : Int32), .ref 17]) (w1 := (mk q24.2 t)) e_62 hk_62 rfl (m_Processor_pop  _ _ _ e25) rfl rfl rfl rfl rfl ?_
    obtain ⟨q26, e27, h⟩ := Option.bind_eq_some_iff.mp h
    refine xu_callv (q := 17) (r := none) (av := [.int (2 : Int32), .int q24.1]) (st := []) (w1 := (mk q26 t)) e_62 hk_62 rfl (m_Processor_setRegister _ _ _ _ _ e27) rfl rfl rfl rfl rfl ?_
    refine xOK_steps (fr' := (17, [some (.ref 17), some (.int x1), some (.int ((x1 >>> ((7 : Int32) &&& 31)) &&& (7 : Int32))), none], [.ref 17, .int (0 : Int32), .ref 17])) (w' := (mk q26 t)) (ob := true) e_62 hk_62 3 rfl rfl ?_
    obtain ⟨q28, e29, h⟩ := Option.bind_eq_some_iff.mp h
    refine xu_callv (q := 17) (r := (some q28.1)) (av := []) (st := [.int (0 : Int32), .ref 17]) (w1 := (mk q28.2 t)) e_62 hk_62 rfl (m_Processor_pop  _ _ _ e29) rfl rfl rfl rfl rfl ?_
    obtain ⟨q30, e31, h⟩ := Option.bind_eq_some_iff.mp h
    refine xu_callv (q := 17) (r := none) (av := [.int (0 : Int32), .int q28.1]) (st := []) (w1 := (mk q30 t)) e_62 hk_62 rfl (m_Processor_setRegister _ _ _ _ _ e31) rfl rfl rfl rfl rfl ?_
    exact t_Processor_oneOperand_32 t q _ _ _ h
set_option maxRecDepth 100000 in
set_option maxHeartbeats 4000000 in
theorem t_Processor_isSet_16 (t : xS) (q : (Int32 × xS)) (y0 : Int32) (s : xS) (h : f_Processor_isSet_16 y0 s = some q) : xOK 82 none (xEnd 82 (some q.1) (mk q.2 t)) (10, [none, none], [.int y0]) (mk s t) 0 0 := by
  unfold f_Processor_isSet_16 at h
  by_cases o1 : xbl y0 = true
  case neg => have h := xif_neg o1 h; cases h
  have h := xif_pos o1 h
  cases h
  exact xu_iret e_82 hk_82 rfl o1 rfl
set_option maxRecDepth 100000 in
set_option maxHeartbeats 4000000 in
theorem m_Processor_isSet (x1 : Int32) (s t : xS) (q : (Int32 × xS)) (h : f_Processor_isSet x1 s = some q) : xMet 82 [.ref 17, .int x1] (mk s t) (some q.1) (mk q.2 t) := by
  refine xMet_of hk_82 rfl rfl rfl ?_
  refine xOK_eq (fr := (0, [some (.ref 17), some (.int x1)], [])) rfl ?_
  unfold f_Processor_isSet at h
  refine xOK_steps (fr' := (6, [some (.ref 17), some (.int x1)], [.int (((s.2 10) 2) &&& x1)])) (w' := (mk s t)) (ob := true) e_82 hk_82 6 rfl rfl ?_
  refine xu_if_eq e_82 hk_82 rfl (fun c2 => ?_) (fun c2 => ?_)
  · have h := xif_pos c2 h
    refine xOK_steps (fr' := (10, [some (.ref 17), some (.int x1)], [.int (0 : Int32)])) (w' := (mk s t)) (ob := true) e_82 hk_82 1 rfl rfl ?_
    refine xOK_fg [0, 1] ?_
    exact t_Processor_isSet_16 t q _ _ h
  · have h := xif_neg c2 h
    refine xOK_steps (fr' := (10, [some (.ref 17), some (.int x1)], [.int (1 : Int32)])) (w' := (mk s t)) (ob := true) e_82 hk_82 2 rfl rfl ?_
    refine xOK_fg [0, 1] ?_
    exact t_Processor_isSet_16 t q _ _ h
set_option maxRecDepth 100000 in
set_option maxHeartbeats 4000000 in
theorem t_Processor_holds_123 (t : xS) (q : (Int32 × xS)) (y0 : Int32) (s : xS) (h : f_Processor_holds_123 y0 s = some q) : xOK 64 none (xEnd 64 (some q.1) (mk q.2 t)) (49, [none, none, none], [.int y0]) (mk s t) 0 0 := by
  unfold f_Processor_holds_123 at h
  by_cases o1 : xbl y0 = true
  case neg => have h := xif_neg o1 h; cases h
  have h := xif_pos o1 h
  cases h
  exact xu_iret e_64 hk_64 rfl o1 rfl
set_option maxRecDepth 100000 in
set_option maxHeartbeats 4000000 in
theorem t_Processor_holds_106 (t : xS) (q : (Int32 × xS)) (y0 : Int32) (s : xS) (h : f_Processor_holds_106 y0 s = some q) : xOK 64 none (xEnd 64 (some q.1) (mk q.2 t)) (40, [none, none, none], [.int y0]) (mk s t) 0 0 := by
  unfold f_Processor_holds_106 at h
  by_cases o2 : xbl y0 = true
  case neg => have h := xif_neg o2 h; cases h
  have h := xif_pos o2 h
  cases h
  exact xu_iret e_64 hk_64 rfl o2 rfl
set_option maxRecDepth 100000 in
set_option maxHeartbeats 4000000 in
theorem t_Processor_holds_81 (t : xS) (q : (Int32 × xS)) (y0 : Int32) (s : xS) (h : f_Processor_holds_81 y0 s = some q) : xOK 64 none (xEnd 64 (some q.1) (mk q.2 t)) (25, [none, none, none], [.int y0]) (mk s t) 0 0 := by
  unfold f_Processor_holds_81 at h
  by_cases o3 : xbl y0 = true
  case neg => have h := xif_neg o3 h; cases h
  have h := xif_pos o3 h
  cases h
  exact xu_iret e_64 hk_64 rfl o3 rfl
set_option maxRecDepth 100000 in
set_option maxHeartbeats 4000000 in
theorem t_Processor_holds_61 (t : xS) (q : (Int32 × xS)) (y0 : Int32) (s : xS) (h : f_Processor_holds_61 y0 s = some q) : xOK 64 none (xEnd 64 (some q.1) (mk q.2 t)) (13, [none, none, none], [.int y0]) (mk s t) 0 0 := by
  unfold f_Processor_holds_61 at h
  by_cases o4 : xbl y0 = true
  case neg => have h := xif_neg o4 h; cases h
  have h := xif_pos o4 h
  cases h
  exact xu_iret e_64 hk_64 rfl o4 rfl
set_option maxRecDepth 100000 in
set_option maxHeartbeats 4000000 in
theorem m_Processor_holds (x1 : Int32) (s t : xS) (q : (Int32 × xS)) (h : f_Processor_holds x1 s = some q) : xMet 64 [.ref 17, .int x1] (mk s t) (some q.1) (mk q.2 t) := by
  refine xMet_of hk_64 rfl rfl rfl ?_
  refine xOK_eq (fr := (0, [some (.ref 17), some (.int x1), none], [])) rfl ?_
  unfold f_Processor_holds at h
  refine xOK_steps (fr' := (2, [some (.ref 17), some (.int x1), none], [.int (4 : Int32), .ref 17])) (w' := (mk s t)) (ob := true) e_64 hk_64 2 rfl rfl ?_
  obtain ⟨q5, e6, h⟩ := Option.bind_eq_some_iff.mp h
  refine xu_callv (q := 17) (r := (some q5.1)) (av := [.int (4 : Int32)]) (st := []) (w1 := (mk q5.2 t)) e_64 hk_64 rfl (m_Processor_isSet _ _ _ _ e6) rfl rfl rfl rfl rfl ?_
  refine xOK_steps (fr' := (5, [some (.ref 17), some (.int x1), some (.int q5.1)], [.int x1])) (w' := (mk q5.2 t)) (ob := true) e_64 hk_64 2 rfl rfl ?_
  by_cases c7 : (x1 < (0 : Int32) ∨ (6 : Int32) < x1)
  · have h := xif_pos c7 h
    refine xu_tswOut (t := 50) e_64 hk_64 rfl c7 rfl rfl rfl ?_
    refine xOK_steps (fr' := (51, [some (.ref 17), some (.int x1), some (.int q5.1)], [.int (1 : Int32)])) (w' := (mk q5.2 t)) (ob := true) e_64 hk_64 1 rfl rfl ?_
    cases h
    exact xu_iret e_64 hk_64 rfl rfl rfl
  have h := xif_neg c7 h
  by_cases c8 : x1 = (0 : Int32)
  · have h := xif_pos c8 h
    refine xu_tswJ (t := 6) e_64 hk_64 rfl c8 (by decide) (by decide) rfl rfl ?_
    refine xOK_steps (fr' := (8, [some (.ref 17), some (.int x1), some (.int q5.1)], [.int (2 : Int32), .ref 17])) (w' := (mk q5.2 t)) (ob := true) e_64 hk_64 2 rfl rfl ?_
    obtain ⟨q9, e10, h⟩ := Option.bind_eq_some_iff.mp h
    refine xu_callv (q := 17) (r := (some q9.1)) (av := [.int (2 : Int32)]) (st := []) (w1 := (mk q9.2 t)) e_64 hk_64 rfl (m_Processor_isSet _ _ _ _ e10) rfl rfl rfl rfl rfl ?_
    refine xu_if_ne e_64 hk_64 rfl (fun c11 => ?_) (fun c11 => ?_)
    · have h := xif_neg c11 h
      refine xOK_steps (fr' := (13, [some (.ref 17), some (.int x1), some (.int q5.1)], [.int (0 : Int32)])) (w' := (mk q9.2 t)) (ob := true) e_64 hk_64 1 rfl rfl ?_
      refine xOK_fg [0, 1, 2] ?_
      exact t_Processor_holds_61 t q _ _ h
    · have h := xif_pos c11 h
      refine xOK_steps (fr' := (13, [some (.ref 17), some (.int x1), some (.int q5.1)], [.int (1 : Int32)])) (w' := (mk q9.2 t)) (ob := true) e_64 hk_64 2 rfl rfl ?_
      refine xOK_fg [0, 1, 2] ?_
      exact t_Processor_holds_61 t q _ _ h
  have h := xif_neg c8 h
  by_cases c12 : x1 = (1 : Int32)
  · have h := xif_pos c12 h
    refine xu_tswJ (t := 14) e_64 hk_64 rfl c12 (by decide) (by decide) rfl rfl ?_
    refine xOK_steps (fr' := (16, [some (.ref 17), some (.int x1), some (.int q5.1)], [.int (2 : Int32), .ref 17])) (w' := (mk q5.2 t)) (ob := true) e_64 hk_64 2 rfl rfl ?_
    obtain ⟨q13, e14, h⟩ := Option.bind_eq_some_iff.mp h
    refine xu_callv (q := 17) (r := (some q13.1)) (av := [.int (2 : Int32)]) (st := []) (w1 := (mk q13.2 t)) e_64 hk_64 rfl (m_Processor_isSet _ _ _ _ e14) rfl rfl rfl rfl rfl ?_
    by_cases o15 : xbl q13.1 = true
    case neg => have h := xif_neg o15 h; cases h
    have h := xif_pos o15 h
    cases h
    exact xu_iret e_64 hk_64 rfl o15 rfl
  have h := xif_neg c12 h
  by_cases c16 : x1 = (2 : Int32)
  · have h := xif_pos c16 h
    refine xu_tswJ (t := 18) e_64 hk_64 rfl c16 (by decide) (by decide) rfl rfl ?_
    refine xOK_steps (fr' := (20, [some (.ref 17), some (.int x1), some (.int q5.1)], [.int (1 : Int32), .ref 17])) (w' := (mk q5.2 t)) (ob := true) e_64 hk_64 2 rfl rfl ?_
    obtain ⟨q17, e18, h⟩ := Option.bind_eq_some_iff.mp h
    refine xu_callv (q := 17) (r := (some q17.1)) (av := [.int (1 : Int32)]) (st := []) (w1 := (mk q17.2 t)) e_64 hk_64 rfl (m_Processor_isSet _ _ _ _ e18) rfl rfl rfl rfl rfl ?_
    refine xu_if_ne e_64 hk_64 rfl (fun c19 => ?_) (fun c19 => ?_)
    · have h := xif_neg c19 h
      refine xOK_steps (fr' := (25, [some (.ref 17), some (.int x1), some (.int q5.1)], [.int (0 : Int32)])) (w' := (mk q17.2 t)) (ob := true) e_64 hk_64 1 rfl rfl ?_
      refine xOK_fg [0, 1, 2] ?_
      exact t_Processor_holds_81 t q _ _ h
    · have h := xif_pos c19 h
      refine xOK_steps (fr' := (25, [some (.ref 17), some (.int x1), some (.int q5.1)], [.int (1 : Int32)])) (w' := (mk q17.2 t)) (ob := true) e_64 hk_64 2 rfl rfl ?_
      refine xOK_fg [0, 1, 2] ?_
      exact t_Processor_holds_81 t q _ _ h
  have h := xif_neg c16 h
  by_cases c20 : x1 = (3 : Int32)
  · have h := xif_pos c20 h
    refine xu_tswJ (t := 26) e_64 hk_64 rfl c20 (by decide) (by decide) rfl rfl ?_
    refine xOK_steps (fr' := (28, [some (.ref 17), some (.int x1), some (.int q5.1)], [.int (1 : Int32), .ref 17])) (w' := (mk q5.2 t)) (ob := true) e_64 hk_64 2 rfl rfl ?_
    obtain ⟨q21, e22, h⟩ := Option.bind_eq_some_iff.mp h
    refine xu_callv (q := 17) (r := (some q21.1)) (av := [.int (1 : Int32)]) (st := []) (w1 := (mk q21.2 t)) e_64 hk_64 rfl (m_Processor_isSet _ _ _ _ e22) rfl rfl rfl rfl rfl ?_
    by_cases o23 : xbl q21.1 = true
    case neg => have h := xif_neg o23 h; cases h
    have h := xif_pos o23 h
    cases h
    exact xu_iret e_64 hk_64 rfl o23 rfl
  have h := xif_neg c20 h
  by_cases c24 : x1 = (4 : Int32)
  · have h := xif_pos c24 h
    refine xu_tswJ (t := 30) e_64 hk_64 rfl c24 (by decide) (by decide) rfl rfl ?_
    refine xOK_steps (fr' := (31, [some (.ref 17), some (.int x1), some (.int q5.1)], [.int q5.1])) (w' := (mk q5.2 t)) (ob := true) e_64 hk_64 1 rfl rfl ?_
    by_cases o25 : xbl q5.1 = true
    case neg => have h := xif_neg o25 h; cases h
    have h := xif_pos o25 h
    cases h
    exact xu_iret e_64 hk_64 rfl o25 rfl
  have h := xif_neg c24 h
  by_cases c26 : x1 = (5 : Int32)
  · have h := xif_pos c26 h
    refine xu_tswJ (t := 32) e_64 hk_64 rfl c26 (by decide) (by decide) rfl rfl ?_
    refine xOK_steps (fr' := (35, [some (.ref 17), some (.int x1), some (.int q5.1)], [.int (256 : Int32), .ref 17, .int q5.1])) (w' := (mk q5.2 t)) (ob := true) e_64 hk_64 3 rfl rfl ?_
    obtain ⟨q27, e28, h⟩ := Option.bind_eq_some_iff.mp h
    refine xu_callv (q := 17) (r := (some q27.1)) (av := [.int (256 : Int32)]) (st := [.int q5.1]) (w1 := (mk q27.2 t)) e_64 hk_64 rfl (m_Processor_isSet _ _ _ _ e28) rfl rfl rfl rfl rfl ?_
    refine xu_icmp_ne e_64 hk_64 rfl (fun c29 => ?_) (fun c29 => ?_)
    · have h := xif_neg c29 h
      refine xOK_steps (fr' := (40, [some (.ref 17), some (.int x1), some (.int q5.1)], [.int (0 : Int32)])) (w' := (mk q27.2 t)) (ob := true) e_64 hk_64 1 rfl rfl ?_
      refine xOK_fg [0, 1, 2] ?_
      exact t_Processor_holds_106 t q _ _ h
    · have h := xif_pos c29 h
      refine xOK_steps (fr' := (40, [some (.ref 17), some (.int x1), some (.int q5.1)], [.int (1 : Int32)])) (w' := (mk q27.2 t)) (ob := true) e_64 hk_64 2 rfl rfl ?_
      refine xOK_fg [0, 1, 2] ?_
      exact t_Processor_holds_106 t q _ _ h
  have h := xif_neg c26 h
  by_cases c30 : x1 = (6 : Int32)
  · have h := xif_pos c30 h
    refine xu_tswJ (t := 41) e_64 hk_64 rfl c30 (by decide) (by decide) rfl rfl ?_
    refine xOK_steps (fr' := (44, [some (.ref 17), some (.int x1), some (.int q5.1)], [.int (256 : Int32), .ref 17, .int q5.1])) (w' := (mk q5.2 t)) (ob := true) e_64 hk_64 3 rfl rfl ?_
    obtain ⟨q31, e32, h⟩ := Option.bind_eq_some_iff.mp h
    refine xu_callv (q := 17) (r := (some q31.1)) (av := [.int (256 : Int32)]) (st := [.int q5.1]) (w1 := (mk q31.2 t)) e_64 hk_64 rfl (m_Processor_isSet _ _ _ _ e32) rfl rfl rfl rfl rfl ?_
    refine xu_icmp_eq e_64 hk_64 rfl (fun c33 => ?_) (fun c33 => ?_)
    · have h := xif_pos c33 h
      refine xOK_steps (fr' := (49, [some (.ref 17), some (.int x1), some (.int q5.1)], [.int (0 : Int32)])) (w' := (mk q31.2 t)) (ob := true) e_64 hk_64 1 rfl rfl ?_
      refine xOK_fg [0, 1, 2] ?_
      exact t_Processor_holds_123 t q _ _ h
    · have h := xif_neg c33 h
      refine xOK_steps (fr' := (49, [some (.ref 17), some (.int x1), some (.int q5.1)], [.int (1 : Int32)])) (w' := (mk q31.2 t)) (ob := true) e_64 hk_64 2 rfl rfl ?_
      refine xOK_fg [0, 1, 2] ?_
      exact t_Processor_holds_123 t q _ _ h
  have h := xif_neg c30 h
  cases h
set_option maxRecDepth 100000 in
set_option maxHeartbeats 4000000 in
theorem t_Processor_jump_43 (t : xS) (q : xS) (s : xS) (h : f_Processor_jump_43  s = some q) : xOK 63 none (xEnd 63 none (mk q t)) (29, [none, none, none], []) (mk s t) 0 0 := by
  unfold f_Processor_jump_43 at h
  cases h
  exact xu_vret e_63 hk_63 rfl rfl
set_option maxRecDepth 100000 in
set_option maxHeartbeats 4000000 in
theorem m_Processor_jump (x1 : Int32) (s t : xS) (q : xS) (h : f_Processor_jump x1 s = some q) : xMet 63 [.ref 17, .int x1] (mk s t) none (mk q t) := by
  refine xMet_of hk_63 rfl rfl rfl ?_
  refine xOK_eq (fr := (0, [some (.ref 17), some (.int x1), none], [])) rfl ?_
  unfold f_Processor_jump at h
  refine xOK_steps (fr' := (6, [some (.ref 17), some (.int x1), none], [.int ((x1 >>> ((10 : Int32) &&& 31)) &&& (7 : Int32)), .ref 17])) (w' := (mk s t)) (ob := true) e_63 hk_63 6 rfl rfl ?_
  obtain ⟨q1, e2, h⟩ := Option.bind_eq_some_iff.mp h
  refine xu_callv (q := 17) (r := (some q1.1)) (av := [.int ((x1 >>> ((10 : Int32) &&& 31)) &&& (7 : Int32))]) (st := []) (w1 := (mk q1.2 t)) e_63 hk_63 rfl (m_Processor_holds _ _ _ _ e2) rfl rfl rfl rfl rfl ?_
  refine xu_if_eq e_63 hk_63 rfl (fun c3 => ?_) (fun c3 => ?_)
  · have h := xif_pos c3 h
    refine xOK_fg [0, 1] ?_
    exact t_Processor_jump_43 t q  _ h
  · have h := xif_neg c3 h
    refine xOK_steps (fr' := (28, [some (.ref 17), some (.int x1), some (.int ((x1 &&& (1023 : Int32)) - ((x1 &&& (512 : Int32)) <<< ((1 : Int32) &&& 31))))], [.int (((q1.2.2 10) 0) + ((2 : Int32) * ((x1 &&& (1023 : Int32)) - ((x1 &&& (512 : Int32)) <<< ((1 : Int32) &&& 31))))), .int (0 : Int32), .ref 17])) (w' := (mk q1.2 t)) (ob := true) e_63 hk_63 20 rfl rfl ?_
    obtain ⟨q4, e5, h⟩ := Option.bind_eq_some_iff.mp h
    refine xu_callv (q := 17) (r := none) (av := [.int (0 : Int32), .int (((q1.2.2 10) 0) + ((2 : Int32) * ((x1 &&& (1023 : Int32)) - ((x1 &&& (512 : Int32)) <<< ((1 : Int32) &&& 31)))))]) (st := []) (w1 := (mk q4 t)) e_63 hk_63 rfl (m_Processor_setRegister _ _ _ _ _ e5) rfl rfl rfl rfl rfl ?_
    refine xOK_fg [0, 1, 2] ?_
    exact t_Processor_jump_43 t q  _ h
set_option maxRecDepth 100000 in
set_option maxHeartbeats 4000000 in
theorem t_Processor_signed_21 (t : xS) (q : (Int32 × xS)) (y0 : Int32) (s : xS) (h : f_Processor_signed_21 y0 s = some q) : xOK 86 none (xEnd 86 (some q.1) (mk q.2 t)) (13, [none, none], [.int y0]) (mk s t) 0 0 := by
  unfold f_Processor_signed_21 at h
  cases h
  exact xu_iret e_86 hk_86 rfl rfl rfl
set_option maxRecDepth 100000 in
set_option maxHeartbeats 4000000 in
theorem m_Processor_signed (x1 : Int32) (s t : xS) (q : (Int32 × xS)) (h : f_Processor_signed x1 s = some q) : xMet 86 [.ref 17, .int x1] (mk s t) (some q.1) (mk q.2 t) := by
  refine xMet_of hk_86 rfl rfl rfl ?_
  refine xOK_eq (fr := (0, [some (.ref 17), some (.int x1)], [])) rfl ?_
  unfold f_Processor_signed at h
  refine xOK_steps (fr' := (2, [some (.ref 17), some (.int x1)], [.ref 17, .int x1])) (w' := (mk s t)) (ob := true) e_86 hk_86 2 rfl rfl ?_
  obtain ⟨q1, e2, h⟩ := Option.bind_eq_some_iff.mp h
  refine xu_callv (q := 17) (r := (some q1.1)) (av := []) (st := [.int x1]) (w1 := (mk q1.2 t)) e_86 hk_86 rfl (m_Processor_highest  _ _ _ e2) rfl rfl rfl rfl rfl ?_
  refine xOK_steps (fr' := (4, [some (.ref 17), some (.int x1)], [.int (x1 &&& q1.1)])) (w' := (mk q1.2 t)) (ob := true) e_86 hk_86 1 rfl rfl ?_
  refine xu_if_eq e_86 hk_86 rfl (fun c3 => ?_) (fun c3 => ?_)
  · have h := xif_pos c3 h
    refine xOK_steps (fr' := (13, [some (.ref 17), some (.int x1)], [.int x1])) (w' := (mk q1.2 t)) (ob := true) e_86 hk_86 1 rfl rfl ?_
    refine xOK_fg [0, 1] ?_
    exact t_Processor_signed_21 t q _ _ h
  · have h := xif_neg c3 h
    refine xOK_steps (fr' := (8, [some (.ref 17), some (.int x1)], [.ref 17, .int (2 : Int32), .int x1])) (w' := (mk q1.2 t)) (ob := true) e_86 hk_86 3 rfl rfl ?_
    obtain ⟨q4, e5, h⟩ := Option.bind_eq_some_iff.mp h
    refine xu_callv (q := 17) (r := (some q4.1)) (av := []) (st := [.int (2 : Int32), .int x1]) (w1 := (mk q4.2 t)) e_86 hk_86 rfl (m_Processor_highest  _ _ _ e5) rfl rfl rfl rfl rfl ?_
    refine xOK_steps (fr' := (13, [some (.ref 17), some (.int x1)], [.int (x1 - ((2 : Int32) * q4.1))])) (w' := (mk q4.2 t)) (ob := true) e_86 hk_86 3 rfl rfl ?_
    refine xOK_fg [0, 1] ?_
    exact t_Processor_signed_21 t q _ _ h
set_option maxRecDepth 100000 in
set_option maxHeartbeats 4000000 in
theorem t_Processor_sum_70 (t : xS) (q : (Int32 × xS)) (x6 y1 y2 : Int32) (s : xS) (h : f_Processor_sum_70 x6 y1 y2 s = some q) : xOK 67 none (xEnd 67 (some q.1) (mk q.2 t)) (41, [none, none, none, none, none, none, some (.int x6)], [.int y2, .int y1, .ref 17]) (mk s t) 0 0 := by
  unfold f_Processor_sum_70 at h
  refine xOK_steps (fr' := (42, [none, none, none, none, none, none, some (.int x6)], [.int x6, .int y2, .int y1, .ref 17])) (w' := (mk s t)) (ob := true) e_67 hk_67 1 rfl rfl ?_
  obtain ⟨q1, e2, h⟩ := Option.bind_eq_some_iff.mp h
  refine xu_callv (q := 17) (r := (some q1.1)) (av := [.int y1, .int y2, .int x6]) (st := []) (w1 := (mk q1.2 t)) e_67 hk_67 rfl (m_Processor_askFlags _ _ _ _ _ _ e2) rfl rfl rfl rfl rfl ?_
  cases h
  exact xu_iret e_67 hk_67 rfl rfl rfl
set_option maxRecDepth 100000 in
set_option maxHeartbeats 4000000 in
theorem t_Processor_sum_46 (t : xS) (q : (Int32 × xS)) (x4 y0 : Int32) (s : xS) (h : f_Processor_sum_46 x4 y0 s = some q) : xOK 67 none (xEnd 67 (some q.1) (mk q.2 t)) (28, [some (.ref 17), none, none, none, some (.int x4), none, none], [.int y0]) (mk s t) 0 0 := by
  unfold f_Processor_sum_46 at h
  refine xOK_steps (fr' := (32, [some (.ref 17), none, none, none, some (.int x4), none, some (.int y0)], [.ref 17, .int x4, .ref 17])) (w' := (mk s t)) (ob := true) e_67 hk_67 4 rfl rfl ?_
  obtain ⟨q3, e4, h⟩ := Option.bind_eq_some_iff.mp h
  refine xu_callv (q := 17) (r := (some q3.1)) (av := []) (st := [.int x4, .ref 17]) (w1 := (mk q3.2 t)) e_67 hk_67 rfl (m_Processor_mask  _ _ _ e4) rfl rfl rfl rfl rfl ?_
  refine xOK_steps (fr' := (36, [some (.ref 17), none, none, none, some (.int x4), none, some (.int y0)], [.ref 17, .int x4, .int (x4 &&& q3.1), .ref 17])) (w' := (mk q3.2 t)) (ob := true) e_67 hk_67 3 rfl rfl ?_
  obtain ⟨q5, e6, h⟩ := Option.bind_eq_some_iff.mp h
  refine xu_callv (q := 17) (r := (some q5.1)) (av := []) (st := [.int x4, .int (x4 &&& q3.1), .ref 17]) (w1 := (mk q5.2 t)) e_67 hk_67 rfl (m_Processor_mask  _ _ _ e6) rfl rfl rfl rfl rfl ?_
  refine xu_icmp_le e_67 hk_67 rfl (fun c7 => ?_) (fun c7 => ?_)
  · have h := xif_pos c7 h
    refine xOK_steps (fr' := (41, [some (.ref 17), none, none, none, some (.int x4), none, some (.int y0)], [.int (0 : Int32), .int (x4 &&& q3.1), .ref 17])) (w' := (mk q5.2 t)) (ob := true) e_67 hk_67 1 rfl rfl ?_
    refine xOK_fg [0, 4] ?_
    exact t_Processor_sum_70 t q _ _ _ _ h
  · have h := xif_neg c7 h
    refine xOK_steps (fr' := (41, [some (.ref 17), none, none, none, some (.int x4), none, some (.int y0)], [.int (1 : Int32), .int (x4 &&& q3.1), .ref 17])) (w' := (mk q5.2 t)) (ob := true) e_67 hk_67 2 rfl rfl ?_
    refine xOK_fg [0, 4] ?_
    exact t_Processor_sum_70 t q _ _ _ _ h
set_option maxRecDepth 100000 in
set_option maxHeartbeats 4000000 in
theorem t_Processor_sum_41 (t : xS) (q : (Int32 × xS)) (x4 : Int32) (s : xS) (h : f_Processor_sum_41 x4 s = some q) : xOK 67 none (xEnd 67 (some q.1) (mk q.2 t)) (25, [some (.ref 17), none, none, none, some (.int x4), none, none], []) (mk s t) 0 0 := by
  unfold f_Processor_sum_41 at h
  refine xOK_steps (fr' := (28, [some (.ref 17), none, none, none, some (.int x4), none, none], [.int (1 : Int32)])) (w' := (mk s t)) (ob := true) e_67 hk_67 2 rfl rfl ?_
  exact t_Processor_sum_46 t q _ _ _ h
set_option maxRecDepth 100000 in
set_option maxHeartbeats 4000000 in
theorem m_Processor_sum (x1 x2 x3 : Int32) (s t : xS) (q : (Int32 × xS)) (h : f_Processor_sum x1 x2 x3 s = some q) : xMet 67 [.ref 17, .int x1, .int x2, .int x3] (mk s t) (some q.1) (mk q.2 t) := by
  refine xMet_of hk_67 rfl rfl rfl ?_
  refine xOK_eq (fr := (0, [some (.ref 17), some (.int x1), some (.int x2), some (.int x3), none, none, none], [])) rfl ?_
  unfold f_Processor_sum at h
  refine xOK_steps (fr' := (8, [some (.ref 17), some (.int x1), some (.int x2), some (.int x3), some (.int ((x1 + x2) + x3)), none, none], [.int x1, .ref 17])) (w' := (mk s t)) (ob := true) e_67 hk_67 8 rfl rfl ?_
  obtain ⟨q8, e9, h⟩ := Option.bind_eq_some_iff.mp h
  refine xu_callv (q := 17) (r := (some q8.1)) (av := [.int x1]) (st := []) (w1 := (mk q8.2 t)) e_67 hk_67 rfl (m_Processor_signed _ _ _ _ e9) rfl rfl rfl rfl rfl ?_
  refine xOK_steps (fr' := (11, [some (.ref 17), some (.int x1), some (.int x2), some (.int x3), some (.int ((x1 + x2) + x3)), none, none], [.int x2, .ref 17, .int q8.1])) (w' := (mk q8.2 t)) (ob := true) e_67 hk_67 2 rfl rfl ?_
  obtain ⟨q10, e11, h⟩ := Option.bind_eq_some_iff.mp h
  refine xu_callv (q := 17) (r := (some q10.1)) (av := [.int x2]) (st := [.int q8.1]) (w1 := (mk q10.2 t)) e_67 hk_67 rfl (m_Processor_signed _ _ _ _ e11) rfl rfl rfl rfl rfl ?_
  refine xOK_steps (fr' := (18, [some (.ref 17), some (.int x1), some (.int x2), some (.int x3), some (.int ((x1 + x2) + x3)), some (.int ((q8.1 + q10.1) + x3)), none], [.ref 17, .int ((q8.1 + q10.1) + x3)])) (w' := (mk q10.2 t)) (ob := true) e_67 hk_67 6 rfl rfl ?_
  obtain ⟨q12, e13, h⟩ := Option.bind_eq_some_iff.mp h
  refine xu_callv (q := 17) (r := (some q12.1)) (av := []) (st := [.int ((q8.1 + q10.1) + x3)]) (w1 := (mk q12.2 t)) e_67 hk_67 rfl (m_Processor_highest  _ _ _ e13) rfl rfl rfl rfl rfl ?_
  refine xOK_steps (fr' := (20, [some (.ref 17), some (.int x1), some (.int x2), some (.int x3), some (.int ((x1 + x2) + x3)), some (.int ((q8.1 + q10.1) + x3)), none], [.int (-q12.1), .int ((q8.1 + q10.1) + x3)])) (w' := (mk q12.2 t)) (ob := true) e_67 hk_67 1 rfl rfl ?_
  refine xu_icmp_lt e_67 hk_67 rfl (fun c14 => ?_) (fun c14 => ?_)
  · have h := xif_pos c14 h
    refine xOK_fg [1, 2, 3, 5] ?_
    exact t_Processor_sum_41 t q _ _ h
  · have h := xif_neg c14 h
    refine xOK_steps (fr' := (23, [some (.ref 17), some (.int x1), some (.int x2), some (.int x3), some (.int ((x1 + x2) + x3)), some (.int ((q8.1 + q10.1) + x3)), none], [.ref 17, .int ((q8.1 + q10.1) + x3)])) (w' := (mk q12.2 t)) (ob := true) e_67 hk_67 2 rfl rfl ?_
    obtain ⟨q15, e16, h⟩ := Option.bind_eq_some_iff.mp h
    refine xu_callv (q := 17) (r := (some q15.1)) (av := []) (st := [.int ((q8.1 + q10.1) + x3)]) (w1 := (mk q15.2 t)) e_67 hk_67 rfl (m_Processor_highest  _ _ _ e16) rfl rfl rfl rfl rfl ?_
    refine xu_icmp_lt e_67 hk_67 rfl (fun c17 => ?_) (fun c17 => ?_)
    · have h := xif_pos c17 h
      refine xOK_steps (fr' := (28, [some (.ref 17), some (.int x1), some (.int x2), some (.int x3), some (.int ((x1 + x2) + x3)), some (.int ((q8.1 + q10.1) + x3)), none], [.int (0 : Int32)])) (w' := (mk q15.2 t)) (ob := true) e_67 hk_67 1 rfl rfl ?_
      refine xOK_fg [1, 2, 3, 5] ?_
      exact t_Processor_sum_46 t q _ _ _ h
    · have h := xif_neg c17 h
      refine xOK_fg [1, 2, 3, 5] ?_
      exact t_Processor_sum_41 t q _ _ h
set_option maxRecDepth 100000 in
set_option maxHeartbeats 4000000 in
theorem t_Processor_decimalSum_110 (t : xS) (q : (Int32 × xS)) (y1 y2 : Int32) (s : xS) (h : f_Processor_decimalSum_110 y1 y2 s = some q) : xOK 68 none (xEnd 68 (some q.1) (mk q.2 t)) (66, [none, none, none, none, none, none, none, none], [.int y2, .int y1, .ref 17]) (mk s t) 0 0 := by
  unfold f_Processor_decimalSum_110 at h
  refine xOK_steps (fr' := (67, [none, none, none, none, none, none, none, none], [.int (0 : Int32), .int y2, .int y1, .ref 17])) (w' := (mk s t)) (ob := true) e_68 hk_68 1 rfl rfl ?_
  obtain ⟨q1, e2, h⟩ := Option.bind_eq_some_iff.mp h
  refine xu_callv (q := 17) (r := (some q1.1)) (av := [.int y1, .int y2, .int (0 : Int32)]) (st := []) (w1 := (mk q1.2 t)) e_68 hk_68 rfl (m_Processor_askFlags _ _ _ _ _ _ e2) rfl rfl rfl rfl rfl ?_
  cases h
  exact xu_iret e_68 hk_68 rfl rfl rfl
set_option maxRecDepth 100000 in
set_option maxHeartbeats 4000000 in
theorem t_Processor_decimalSum_67 (t : xS) (q : (Int32 × xS)) (lp : Int32 → Int32 → Int32 → Int32 → Int32 → Int32 → xS → Option (Int32 × xS)) (hlp : ∀ (x1 x2 x3 x4 x5 x6 : Int32) (s : xS), lp x1 x2 x3 x4 x5 x6 s = some q → xOK 68 none (xEnd 68 (some q.1) (mk q.2 t)) (14, [some (.ref 17), some (.int x1), some (.int x2), some (.int x3), some (.int x4), some (.int x5), some (.int x6), none], []) (mk s t) 0 0) (x1 x2 x3 x5 x6 x7 y0 : Int32) (s : xS) (h : f_Processor_decimalSum_67 lp x1 x2 x3 x5 x6 x7 y0 s = some q) : xOK 68 none (xEnd 68 (some q.1) (mk q.2 t)) (41, [some (.ref 17), some (.int x1), some (.int x2), some (.int x3), none, some (.int x5), some (.int x6), some (.int x7)], [.int y0]) (mk s t) 0 0 := by
  unfold f_Processor_decimalSum_67 at h
  refine xOK_steps (fr' := (14, [some (.ref 17), some (.int x1), some (.int x2), some (.int x3), some (.int y0), some (.int (x5 ||| (((x7 + ((6 : Int32) * y0)) &&& (15 : Int32)) <<< (((4 : Int32) * x6) &&& 31)))), some (.int (x6 + (1 : Int32))), some (.int x7)], [])) (w' := (mk s t)) (ob := true) e_68 hk_68 17 rfl rfl ?_
  refine xOK_fg [7] ?_
  exact hlp _ _ _ _ _ _ _ h
set_option maxRecDepth 100000 in
set_option maxHeartbeats 4000000 in
theorem t_Processor_decimalSum_25 (t : xS) (q : (Int32 × xS)) : ∀ (n : Nat), ∀ (x1 x2 x3 x4 x5 x6 : Int32) (s : xS), f_Processor_decimalSum_25 n x1 x2 x3 x4 x5 x6 s = some q → xOK 68 none (xEnd 68 (some q.1) (mk q.2 t)) (14, [some (.ref 17), some (.int x1), some (.int x2), some (.int x3), some (.int x4), some (.int x5), some (.int x6), none], []) (mk s t) 0 0 := by
  intro n
  induction n with
  | zero => intro x1 x2 x3 x4 x5 x6 s h; cases h
  | succ n ih =>
    intro x1 x2 x3 x4 x5 x6 s h
    unfold f_Processor_decimalSum_25 at h
    refine xOK_steps (fr' := (16, [some (.ref 17), some (.int x1), some (.int x2), some (.int x3), some (.int x4), some (.int x5), some (.int x6), none], [.int x3, .int x6])) (w' := (mk s t)) (ob := true) e_68 hk_68 2 rfl rfl ?_
    refine xu_icmp_ge e_68 hk_68 rfl (fun c3 => ?_) (fun c3 => ?_)
    · have h := xif_pos c3 h
      refine xOK_steps (fr' := (62, [some (.ref 17), some (.int x1), some (.int x2), some (.int x3), some (.int x4), some (.int x5), some (.int x6), none], [.int (1 : Int32), .int x4, .int x5, .ref 17])) (w' := (mk s t)) (ob := true) e_68 hk_68 4 rfl rfl ?_
      refine xu_icmp_ne e_68 hk_68 rfl (fun c4 => ?_) (fun c4 => ?_)
      · have h := xif_neg c4 h
        refine xOK_steps (fr' := (66, [some (.ref 17), some (.int x1), some (.int x2), some (.int x3), some (.int x4), some (.int x5), some (.int x6), none], [.int (0 : Int32), .int x5, .ref 17])) (w' := (mk s t)) (ob := true) e_68 hk_68 1 rfl rfl ?_
        refine xOK_fg [0, 1, 2, 3, 4, 5, 6] ?_
        exact t_Processor_decimalSum_110 t q _ _ _ h
      · have h := xif_pos c4 h
        refine xOK_steps (fr' := (66, [some (.ref 17), some (.int x1), some (.int x2), some (.int x3), some (.int x4), some (.int x5), some (.int x6), none], [.int (1 : Int32), .int x5, .ref 17])) (w' := (mk s t)) (ob := true) e_68 hk_68 2 rfl rfl ?_
        refine xOK_fg [0, 1, 2, 3, 4, 5, 6] ?_
        exact t_Processor_decimalSum_110 t q _ _ _ h
    · have h := xif_neg c3 h
      refine xOK_steps (fr' := (37, [some (.ref 17), some (.int x1), some (.int x2), some (.int x3), some (.int x4), some (.int x5), some (.int x6), some (.int ((((x1 >>> (((4 : Int32) * x6) &&& 31)) &&& (15 : Int32)) + ((x2 >>> (((4 : Int32) * x6) &&& 31)) &&& (15 : Int32))) + x4))], [.int (10 : Int32), .int ((((x1 >>> (((4 : Int32) * x6) &&& 31)) &&& (15 : Int32)) + ((x2 >>> (((4 : Int32) * x6) &&& 31)) &&& (15 : Int32))) + x4)])) (w' := (mk s t)) (ob := true) e_68 hk_68 20 rfl rfl ?_
      refine xu_icmp_lt e_68 hk_68 rfl (fun c5 => ?_) (fun c5 => ?_)
      · have h := xif_pos c5 h
        refine xOK_steps (fr' := (41, [some (.ref 17), some (.int x1), some (.int x2), some (.int x3), some (.int x4), some (.int x5), some (.int x6), some (.int ((((x1 >>> (((4 : Int32) * x6) &&& 31)) &&& (15 : Int32)) + ((x2 >>> (((4 : Int32) * x6) &&& 31)) &&& (15 : Int32))) + x4))], [.int (0 : Int32)])) (w' := (mk s t)) (ob := true) e_68 hk_68 1 rfl rfl ?_
        refine xOK_fg [4] ?_
        exact t_Processor_decimalSum_67 t q _ ih _ _ _ _ _ _ _ _ h
      · have h := xif_neg c5 h
        refine xOK_steps (fr' := (41, [some (.ref 17), some (.int x1), some (.int x2), some (.int x3), some (.int x4), some (.int x5), some (.int x6), some (.int ((((x1 >>> (((4 : Int32) * x6) &&& 31)) &&& (15 : Int32)) + ((x2 >>> (((4 : Int32) * x6) &&& 31)) &&& (15 : Int32))) + x4))], [.int (1 : Int32)])) (w' := (mk s t)) (ob := true) e_68 hk_68 2 rfl rfl ?_
        refine xOK_fg [4] ?_
        exact t_Processor_decimalSum_67 t q _ ih _ _ _ _ _ _ _ _ h
set_option maxRecDepth 100000 in
set_option maxHeartbeats 4000000 in
theorem t_Processor_decimalSum_12 (t : xS) (q : (Int32 × xS)) (x1 x2 y0 : Int32) (s : xS) (h : f_Processor_decimalSum_12 x1 x2 y0 s = some q) : xOK 68 none (xEnd 68 (some q.1) (mk q.2 t)) (6, [some (.ref 17), some (.int x1), some (.int x2), none, none, none, none, none], [.int y0]) (mk s t) 0 0 := by
  unfold f_Processor_decimalSum_12 at h
  refine xOK_steps (fr' := (8, [some (.ref 17), some (.int x1), some (.int x2), some (.int y0), none, none, none, none], [.ref 17])) (w' := (mk s t)) (ob := true) e_68 hk_68 2 rfl rfl ?_
  obtain ⟨q6, e7, h⟩ := Option.bind_eq_some_iff.mp h
  refine xu_callv (q := 17) (r := (some q6.1)) (av := []) (st := []) (w1 := (mk q6.2 t)) e_68 hk_68 rfl (m_Processor_carry  _ _ _ e7) rfl rfl rfl rfl rfl ?_
  refine xOK_steps (fr' := (14, [some (.ref 17), some (.int x1), some (.int x2), some (.int y0), some (.int q6.1), some (.int (0 : Int32)), some (.int (0 : Int32)), none], [])) (w' := (mk q6.2 t)) (ob := true) e_68 hk_68 5 rfl rfl ?_
  exact t_Processor_decimalSum_25 t q _ _ _ _ _ _ _ _ h
set_option maxRecDepth 100000 in
set_option maxHeartbeats 4000000 in
theorem m_Processor_decimalSum (x1 x2 : Int32) (s t : xS) (q : (Int32 × xS)) (h : f_Processor_decimalSum x1 x2 s = some q) : xMet 68 [.ref 17, .int x1, .int x2] (mk s t) (some q.1) (mk q.2 t) := by
  refine xMet_of hk_68 rfl rfl rfl ?_
  refine xOK_eq (fr := (0, [some (.ref 17), some (.int x1), some (.int x2), none, none, none, none, none], [])) rfl ?_
  unfold f_Processor_decimalSum at h
  refine xOK_steps (fr' := (2, [some (.ref 17), some (.int x1), some (.int x2), none, none, none, none, none], [.int (s.1 13)])) (w' := (mk s t)) (ob := true) e_68 hk_68 2 rfl rfl ?_
  refine xu_if_eq e_68 hk_68 rfl (fun c8 => ?_) (fun c8 => ?_)
  · have h := xif_pos c8 h
    refine xOK_steps (fr' := (6, [some (.ref 17), some (.int x1), some (.int x2), none, none, none, none, none], [.int (4 : Int32)])) (w' := (mk s t)) (ob := true) e_68 hk_68 1 rfl rfl ?_
    exact t_Processor_decimalSum_12 t q _ _ _ _ h
  · have h := xif_neg c8 h
    refine xOK_steps (fr' := (6, [some (.ref 17), some (.int x1), some (.int x2), none, none, none, none, none], [.int (2 : Int32)])) (w' := (mk s t)) (ob := true) e_68 hk_68 2 rfl rfl ?_
    exact t_Processor_decimalSum_12 t q _ _ _ _ h
set_option maxRecDepth 100000 in
set_option maxHeartbeats 4000000 in
theorem t_Processor_combined_153 (t : xS) (q : (Int32 × xS)) (y1 y2 : Int32) (s : xS) (h : f_Processor_combined_153 y1 y2 s = some q) : xOK 65 none (xEnd 65 (some q.1) (mk q.2 t)) (69, [none, none, none, none, none], [.int y2, .int y1, .ref 17]) (mk s t) 0 0 := by
  unfold f_Processor_combined_153 at h
  obtain ⟨q1, e2, h⟩ := Option.bind_eq_some_iff.mp h
  refine xu_callv (q := 17) (r := (some q1.1)) (av := [.int y1, .int y2]) (st := []) (w1 := (mk q1.2 t)) e_65 hk_65 rfl (m_Processor_logical _ _ _ _ _ e2) rfl rfl rfl rfl rfl ?_
  cases h
  exact xu_iret e_65 hk_65 rfl rfl rfl
set_option maxRecDepth 100000 in
set_option maxHeartbeats 4000000 in
theorem m_Processor_combined (x1 x2 x3 : Int32) (s t : xS) (q : (Int32 × xS)) (h : f_Processor_combined x1 x2 x3 s = some q) : xMet 65 [.ref 17, .int x1, .int x2, .int x3] (mk s t) (some q.1) (mk q.2 t) := by
  refine xMet_of hk_65 rfl rfl rfl ?_
  refine xOK_eq (fr := (0, [some (.ref 17), some (.int x1), some (.int x2), some (.int x3), none], [])) rfl ?_
  unfold f_Processor_combined at h
  refine xOK_steps (fr' := (4, [some (.ref 17), some (.int x1), some (.int x2), some (.int x3), none], [.ref 17, .int (x3 ^^^ (-1 : Int32))])) (w' := (mk s t)) (ob := true) e_65 hk_65 4 rfl rfl ?_
  obtain ⟨q3, e4, h⟩ := Option.bind_eq_some_iff.mp h
  refine xu_callv (q := 17) (r := (some q3.1)) (av := []) (st := [.int (x3 ^^^ (-1 : Int32))]) (w1 := (mk q3.2 t)) e_65 hk_65 rfl (m_Processor_mask  _ _ _ e4) rfl rfl rfl rfl rfl ?_
  refine xOK_steps (fr' := (8, [some (.ref 17), some (.int x1), some (.int x2), some (.int x3), some (.int ((x3 ^^^ (-1 : Int32)) &&& q3.1))], [.int x1])) (w' := (mk q3.2 t)) (ob := true) e_65 hk_65 3 rfl rfl ?_
  by_cases c5 : (x1 < (5 : Int32) ∨ (15 : Int32) < x1)
  · have h := xif_pos c5 h
    refine xu_tswOut (t := 71) e_65 hk_65 rfl c5 rfl rfl rfl ?_
    refine xOK_steps (fr' := (72, [some (.ref 17), some (.int x1), some (.int x2), some (.int x3), some (.int ((x3 ^^^ (-1 : Int32)) &&& q3.1))], [.int x3])) (w' := (mk q3.2 t)) (ob := true) e_65 hk_65 1 rfl rfl ?_
    cases h
    exact xu_iret e_65 hk_65 rfl rfl rfl
  have h := xif_neg c5 h
  by_cases c6 : x1 = (5 : Int32)
  · have h := xif_pos c6 h
    refine xu_tswJ (t := 9) e_65 hk_65 rfl c6 (by decide) (by decide) rfl rfl ?_
    refine xOK_steps (fr' := (13, [some (.ref 17), some (.int x1), some (.int x2), some (.int x3), some (.int ((x3 ^^^ (-1 : Int32)) &&& q3.1))], [.int (0 : Int32), .int x3, .int x2, .ref 17])) (w' := (mk q3.2 t)) (ob := true) e_65 hk_65 4 rfl rfl ?_
    obtain ⟨q7, e8, h⟩ := Option.bind_eq_some_iff.mp h
    refine xu_callv (q := 17) (r := (some q7.1)) (av := [.int x2, .int x3, .int (0 : Int32)]) (st := []) (w1 := (mk q7.2 t)) e_65 hk_65 rfl (m_Processor_sum _ _ _ _ _ _ e8) rfl rfl rfl rfl rfl ?_
    cases h
    exact xu_iret e_65 hk_65 rfl rfl rfl
  have h := xif_neg c6 h
  by_cases c9 : x1 = (6 : Int32)
  · have h := xif_pos c9 h
    refine xu_tswJ (t := 15) e_65 hk_65 rfl c9 (by decide) (by decide) rfl rfl ?_
    refine xOK_steps (fr' := (19, [some (.ref 17), some (.int x1), some (.int x2), some (.int x3), some (.int ((x3 ^^^ (-1 : Int32)) &&& q3.1))], [.ref 17, .int x3, .int x2, .ref 17])) (w' := (mk q3.2 t)) (ob := true) e_65 hk_65 4 rfl rfl ?_
    obtain ⟨q10, e11, h⟩ := Option.bind_eq_some_iff.mp h
    refine xu_callv (q := 17) (r := (some q10.1)) (av := []) (st := [.int x3, .int x2, .ref 17]) (w1 := (mk q10.2 t)) e_65 hk_65 rfl (m_Processor_carry  _ _ _ e11) rfl rfl rfl rfl rfl ?_
    obtain ⟨q12, e13, h⟩ := Option.bind_eq_some_iff.mp h
    refine xu_callv (q := 17) (r := (some q12.1)) (av := [.int x2, .int x3, .int q10.1]) (st := []) (w1 := (mk q12.2 t)) e_65 hk_65 rfl (m_Processor_sum _ _ _ _ _ _ e13) rfl rfl rfl rfl rfl ?_
    cases h
    exact xu_iret e_65 hk_65 rfl rfl rfl
  have h := xif_neg c9 h
  by_cases c14 : x1 = (7 : Int32)
  · have h := xif_pos c14 h
    refine xu_tswJ (t := 22) e_65 hk_65 rfl c14 (by decide) (by decide) rfl rfl ?_
    refine xOK_steps (fr' := (26, [some (.ref 17), some (.int x1), some (.int x2), some (.int x3), some (.int ((x3 ^^^ (-1 : Int32)) &&& q3.1))], [.ref 17, .int ((x3 ^^^ (-1 : Int32)) &&& q3.1), .int x2, .ref 17])) (w' := (mk q3.2 t)) (ob := true) e_65 hk_65 4 rfl rfl ?_
    obtain ⟨q15, e16, h⟩ := Option.bind_eq_some_iff.mp h
    refine xu_callv (q := 17) (r := (some q15.1)) (av := []) (st := [.int ((x3 ^^^ (-1 : Int32)) &&& q3.1), .int x2, .ref 17]) (w1 := (mk q15.2 t)) e_65 hk_65 rfl (m_Processor_carry  _ _ _ e16) rfl rfl rfl rfl rfl ?_
    obtain ⟨q17, e18, h⟩ := Option.bind_eq_some_iff.mp h
    refine xu_callv (q := 17) (r := (some q17.1)) (av := [.int x2, .int ((x3 ^^^ (-1 : Int32)) &&& q3.1), .int q15.1]) (st := []) (w1 := (mk q17.2 t)) e_65 hk_65 rfl (m_Processor_sum _ _ _ _ _ _ e18) rfl rfl rfl rfl rfl ?_
    cases h
    exact xu_iret e_65 hk_65 rfl rfl rfl
  have h := xif_neg c14 h
  by_cases c19 : x1 = (8 : Int32)
  · have h := xif_pos c19 h
    refine xu_tswJ (t := 29) e_65 hk_65 rfl c19 (by decide) (by decide) rfl rfl ?_
    refine xOK_steps (fr' := (33, [some (.ref 17), some (.int x1), some (.int x2), some (.int x3), some (.int ((x3 ^^^ (-1 : Int32)) &&& q3.1))], [.int (1 : Int32), .int ((x3 ^^^ (-1 : Int32)) &&& q3.1), .int x2, .ref 17])) (w' := (mk q3.2 t)) (ob := true) e_65 hk_65 4 rfl rfl ?_
    obtain ⟨q20, e21, h⟩ := Option.bind_eq_some_iff.mp h
    refine xu_callv (q := 17) (r := (some q20.1)) (av := [.int x2, .int ((x3 ^^^ (-1 : Int32)) &&& q3.1), .int (1 : Int32)]) (st := []) (w1 := (mk q20.2 t)) e_65 hk_65 rfl (m_Processor_sum _ _ _ _ _ _ e21) rfl rfl rfl rfl rfl ?_
    cases h
    exact xu_iret e_65 hk_65 rfl rfl rfl
  have h := xif_neg c19 h
  by_cases c22 : x1 = (9 : Int32)
  · have h := xif_pos c22 h
    refine xu_tswJ (t := 29) e_65 hk_65 rfl c22 (by decide) (by decide) rfl rfl ?_
    refine xOK_steps (fr' := (33, [some (.ref 17), some (.int x1), some (.int x2), some (.int x3), some (.int ((x3 ^^^ (-1 : Int32)) &&& q3.1))], [.int (1 : Int32), .int ((x3 ^^^ (-1 : Int32)) &&& q3.1), .int x2, .ref 17])) (w' := (mk q3.2 t)) (ob := true) e_65 hk_65 4 rfl rfl ?_
    obtain ⟨q23, e24, h⟩ := Option.bind_eq_some_iff.mp h
    refine xu_callv (q := 17) (r := (some q23.1)) (av := [.int x2, .int ((x3 ^^^ (-1 : Int32)) &&& q3.1), .int (1 : Int32)]) (st := []) (w1 := (mk q23.2 t)) e_65 hk_65 rfl (m_Processor_sum _ _ _ _ _ _ e24) rfl rfl rfl rfl rfl ?_
    cases h
    exact xu_iret e_65 hk_65 rfl rfl rfl
  have h := xif_neg c22 h
  by_cases c25 : x1 = (10 : Int32)
  · have h := xif_pos c25 h
    refine xu_tswJ (t := 35) e_65 hk_65 rfl c25 (by decide) (by decide) rfl rfl ?_
    refine xOK_steps (fr' := (38, [some (.ref 17), some (.int x1), some (.int x2), some (.int x3), some (.int ((x3 ^^^ (-1 : Int32)) &&& q3.1))], [.int x3, .int x2, .ref 17])) (w' := (mk q3.2 t)) (ob := true) e_65 hk_65 3 rfl rfl ?_
    obtain ⟨q26, e27, h⟩ := Option.bind_eq_some_iff.mp h
    refine xu_callv (q := 17) (r := (some q26.1)) (av := [.int x2, .int x3]) (st := []) (w1 := (mk q26.2 t)) e_65 hk_65 rfl (m_Processor_decimalSum _ _ _ _ _ e27) rfl rfl rfl rfl rfl ?_
    cases h
    exact xu_iret e_65 hk_65 rfl rfl rfl
  have h := xif_neg c25 h
  by_cases c28 : x1 = (11 : Int32)
  · have h := xif_pos c28 h
    refine xu_tswJ (t := 40) e_65 hk_65 rfl c28 (by decide) (by decide) rfl rfl ?_
    refine xOK_steps (fr' := (45, [some (.ref 17), some (.int x1), some (.int x2), some (.int x3), some (.int ((x3 ^^^ (-1 : Int32)) &&& q3.1))], [.int (0 : Int32), .int (x2 &&& x3), .ref 17])) (w' := (mk q3.2 t)) (ob := true) e_65 hk_65 5 rfl rfl ?_
    obtain ⟨q29, e30, h⟩ := Option.bind_eq_some_iff.mp h
    refine xu_callv (q := 17) (r := (some q29.1)) (av := [.int (x2 &&& x3), .int (0 : Int32)]) (st := []) (w1 := (mk q29.2 t)) e_65 hk_65 rfl (m_Processor_logical _ _ _ _ _ e30) rfl rfl rfl rfl rfl ?_
    cases h
    exact xu_iret e_65 hk_65 rfl rfl rfl
  have h := xif_neg c28 h
  by_cases c31 : x1 = (12 : Int32)
  · have h := xif_pos c31 h
    refine xu_tswJ (t := 47) e_65 hk_65 rfl c31 (by decide) (by decide) rfl rfl ?_
    refine xOK_steps (fr' := (50, [some (.ref 17), some (.int x1), some (.int x2), some (.int x3), some (.int ((x3 ^^^ (-1 : Int32)) &&& q3.1))], [.int (x2 &&& ((x3 ^^^ (-1 : Int32)) &&& q3.1))])) (w' := (mk q3.2 t)) (ob := true) e_65 hk_65 3 rfl rfl ?_
    cases h
    exact xu_iret e_65 hk_65 rfl rfl rfl
  have h := xif_neg c31 h
  by_cases c32 : x1 = (13 : Int32)
  · have h := xif_pos c32 h
    refine xu_tswJ (t := 51) e_65 hk_65 rfl c32 (by decide) (by decide) rfl rfl ?_
    refine xOK_steps (fr' := (54, [some (.ref 17), some (.int x1), some (.int x2), some (.int x3), some (.int ((x3 ^^^ (-1 : Int32)) &&& q3.1))], [.int (x2 ||| x3)])) (w' := (mk q3.2 t)) (ob := true) e_65 hk_65 3 rfl rfl ?_
    cases h
    exact xu_iret e_65 hk_65 rfl rfl rfl
  have h := xif_neg c32 h
  by_cases c33 : x1 = (14 : Int32)
  · have h := xif_pos c33 h
    refine xu_tswJ (t := 55) e_65 hk_65 rfl c33 (by decide) (by decide) rfl rfl ?_
    refine xOK_steps (fr' := (63, [some (.ref 17), some (.int x1), some (.int x2), some (.int x3), some (.int ((x3 ^^^ (-1 : Int32)) &&& q3.1))], [.ref 17, .int (x2 &&& x3), .int (x2 ^^^ x3), .ref 17])) (w' := (mk q3.2 t)) (ob := true) e_65 hk_65 8 rfl rfl ?_
    obtain ⟨q34, e35, h⟩ := Option.bind_eq_some_iff.mp h
    refine xu_callv (q := 17) (r := (some q34.1)) (av := []) (st := [.int (x2 &&& x3), .int (x2 ^^^ x3), .ref 17]) (w1 := (mk q34.2 t)) e_65 hk_65 rfl (m_Processor_highest  _ _ _ e35) rfl rfl rfl rfl rfl ?_
    refine xOK_steps (fr' := (65, [some (.ref 17), some (.int x1), some (.int x2), some (.int x3), some (.int ((x3 ^^^ (-1 : Int32)) &&& q3.1))], [.int ((x2 &&& x3) &&& q34.1), .int (x2 ^^^ x3), .ref 17])) (w' := (mk q34.2 t)) (ob := true) e_65 hk_65 1 rfl rfl ?_
    refine xu_if_eq e_65 hk_65 rfl (fun c36 => ?_) (fun c36 => ?_)
    · have h := xif_pos c36 h
      refine xOK_steps (fr' := (69, [some (.ref 17), some (.int x1), some (.int x2), some (.int x3), some (.int ((x3 ^^^ (-1 : Int32)) &&& q3.1))], [.int (0 : Int32), .int (x2 ^^^ x3), .ref 17])) (w' := (mk q34.2 t)) (ob := true) e_65 hk_65 1 rfl rfl ?_
      refine xOK_fg [0, 1, 2, 3, 4] ?_
      exact t_Processor_combined_153 t q _ _ _ h
    · have h := xif_neg c36 h
      refine xOK_steps (fr' := (69, [some (.ref 17), some (.int x1), some (.int x2), some (.int x3), some (.int ((x3 ^^^ (-1 : Int32)) &&& q3.1))], [.int (1 : Int32), .int (x2 ^^^ x3), .ref 17])) (w' := (mk q34.2 t)) (ob := true) e_65 hk_65 2 rfl rfl ?_
      refine xOK_fg [0, 1, 2, 3, 4] ?_
      exact t_Processor_combined_153 t q _ _ _ h
  have h := xif_neg c33 h
  by_cases c37 : x1 = (15 : Int32)
  · have h := xif_pos c37 h
    refine xu_tswJ (t := 40) e_65 hk_65 rfl c37 (by decide) (by decide) rfl rfl ?_
    refine xOK_steps (fr' := (45, [some (.ref 17), some (.int x1), some (.int x2), some (.int x3), some (.int ((x3 ^^^ (-1 : Int32)) &&& q3.1))], [.int (0 : Int32), .int (x2 &&& x3), .ref 17])) (w' := (mk q3.2 t)) (ob := true) e_65 hk_65 5 rfl rfl ?_
    obtain ⟨q38, e39, h⟩ := Option.bind_eq_some_iff.mp h
    refine xu_callv (q := 17) (r := (some q38.1)) (av := [.int (x2 &&& x3), .int (0 : Int32)]) (st := []) (w1 := (mk q38.2 t)) e_65 hk_65 rfl (m_Processor_logical _ _ _ _ _ e39) rfl rfl rfl rfl rfl ?_
    cases h
    exact xu_iret e_65 hk_65 rfl rfl rfl
  have h := xif_neg c37 h
  cases h
set_option maxRecDepth 100000 in
set_option maxHeartbeats 4000000 in
theorem t_Processor_findDestination_31 (t : xS) (q : xS) (s : xS) (h : f_Processor_findDestination_31  s = some q) : xOK 74 none (xEnd 74 none (mk q t)) (18, [none, none, none], []) (mk s t) 0 0 := by
  unfold f_Processor_findDestination_31 at h
  cases h
  exact xu_vret e_74 hk_74 rfl rfl
set_option maxRecDepth 100000 in
set_option maxHeartbeats 4000000 in
theorem m_Processor_findDestination (x1 x2 : Int32) (s t : xS) (q : xS) (h : f_Processor_findDestination x1 x2 s = some q) : xMet 74 [.ref 17, .int x1, .int x2] (mk s t) none (mk q t) := by
  refine xMet_of hk_74 rfl rfl rfl ?_
  refine xOK_eq (fr := (0, [some (.ref 17), some (.int x1), some (.int x2)], [])) rfl ?_
  unfold f_Processor_findDestination at h
  refine xOK_steps (fr' := (1, [some (.ref 17), some (.int x1), some (.int x2)], [.int x2])) (w' := (mk s t)) (ob := true) e_74 hk_74 1 rfl rfl ?_
  refine xu_if_ne e_74 hk_74 rfl (fun c1 => ?_) (fun c1 => ?_)
  · have h := xif_neg c1 h
    refine xOK_steps (fr' := (11, [some (.ref 17), some (.int x1), some (.int x2)], [.int x1, .ref 17, .int (2 : Int32), .ref 17])) (w' := (mk s t)) (ob := true) e_74 hk_74 4 rfl rfl ?_
    obtain ⟨q2, e3, h⟩ := Option.bind_eq_some_iff.mp h
    refine xu_callv (q := 17) (r := (some q2.1)) (av := [.int x1]) (st := [.int (2 : Int32), .ref 17]) (w1 := (mk q2.2 t)) e_74 hk_74 rfl (m_Processor_base _ _ _ _ e3) rfl rfl rfl rfl rfl ?_
    refine xOK_steps (fr' := (13, [some (.ref 17), some (.int x1), some (.int x2)], [.ref 17, .int q2.1, .int (2 : Int32), .ref 17])) (w' := (mk q2.2 t)) (ob := true) e_74 hk_74 1 rfl rfl ?_
    obtain ⟨q4, e5, h⟩ := Option.bind_eq_some_iff.mp h
    refine xu_callv (q := 17) (r := (some q4.1)) (av := []) (st := [.int q2.1, .int (2 : Int32), .ref 17]) (w1 := (mk q4.2 t)) e_74 hk_74 rfl (m_Processor_nextWord  _ _ _ e5) rfl rfl rfl rfl rfl ?_
    refine xOK_steps (fr' := (17, [some (.ref 17), some (.int x1), some (.int x2)], [.int ((q2.1 + q4.1) &&& (65535 : Int32)), .int (2 : Int32), .ref 17])) (w' := (mk q4.2 t)) (ob := true) e_74 hk_74 3 rfl rfl ?_
    obtain ⟨q6, e7, h⟩ := Option.bind_eq_some_iff.mp h
    refine xu_callv (q := 17) (r := none) (av := [.int (2 : Int32), .int ((q2.1 + q4.1) &&& (65535 : Int32))]) (st := []) (w1 := (mk q6 t)) e_74 hk_74 rfl (m_Processor_find _ _ _ _ _ e7) rfl rfl rfl rfl rfl ?_
    refine xOK_fg [0, 1, 2] ?_
    exact t_Processor_findDestination_31 t q  _ h
  · have h := xif_pos c1 h
    refine xOK_steps (fr' := (5, [some (.ref 17), some (.int x1), some (.int x2)], [.int x1, .int (1 : Int32), .ref 17])) (w' := (mk s t)) (ob := true) e_74 hk_74 3 rfl rfl ?_
    obtain ⟨q8, e9, h⟩ := Option.bind_eq_some_iff.mp h
    refine xu_callv (q := 17) (r := none) (av := [.int (1 : Int32), .int x1]) (st := []) (w1 := (mk q8 t)) e_74 hk_74 rfl (m_Processor_find _ _ _ _ _ e9) rfl rfl rfl rfl rfl ?_
    refine xOK_steps (fr' := (18, [some (.ref 17), some (.int x1), some (.int x2)], [])) (w' := (mk q8 t)) (ob := true) e_74 hk_74 1 rfl rfl ?_
    refine xOK_fg [0, 1, 2] ?_
    exact t_Processor_findDestination_31 t q  _ h
set_option maxRecDepth 100000 in
set_option maxHeartbeats 4000000 in
theorem t_Processor_twoOperands_109 (t : xS) (q : xS) (s : xS) (h : f_Processor_twoOperands_109  s = some q) : xOK 61 none (xEnd 61 none (mk q t)) (67, [none, none, none, none, none, none], []) (mk s t) 0 0 := by
  unfold f_Processor_twoOperands_109 at h
  cases h
  exact xu_vret e_61 hk_61 rfl rfl
set_option maxRecDepth 100000 in
set_option maxHeartbeats 4000000 in
theorem t_Processor_twoOperands_96 (t : xS) (q : xS) (s : xS) (h : f_Processor_twoOperands_96  s = some q) : xOK 61 none (xEnd 61 none (mk q t)) (61, [some (.ref 17), none, none, none, none, none], []) (mk s t) 0 0 := by
  unfold f_Processor_twoOperands_96 at h
  refine xOK_steps (fr' := (62, [some (.ref 17), none, none, none, none, none], [.ref 17])) (w' := (mk s t)) (ob := true) e_61 hk_61 1 rfl rfl ?_
  obtain ⟨q1, e2, h⟩ := Option.bind_eq_some_iff.mp h
  refine xu_callv (q := 17) (r := none) (av := []) (st := []) (w1 := (mk q1 t)) e_61 hk_61 rfl (m_Processor_setFlags  _ _ _ e2) rfl rfl rfl rfl rfl ?_
  refine xOK_steps (fr' := (67, [some (.ref 17), none, none, none, none, none], [])) (w' := (mk q1 t)) (ob := true) e_61 hk_61 1 rfl rfl ?_
  refine xOK_fg [0] ?_
  exact t_Processor_twoOperands_109 t q  _ h
set_option maxRecDepth 100000 in
set_option maxHeartbeats 4000000 in
theorem t_Processor_twoOperands_72 (t : xS) (q : xS) (x2 x3 y0 : Int32) (s : xS) (h : f_Processor_twoOperands_72 x2 x3 y0 s = some q) : xOK 61 none (xEnd 61 none (mk q t)) (48, [some (.ref 17), none, some (.int x2), some (.int x3), none, none], [.int y0]) (mk s t) 0 0 := by
  unfold f_Processor_twoOperands_72 at h
  refine xOK_steps (fr' := (53, [some (.ref 17), none, some (.int x2), some (.int x3), some (.int y0), none], [.int x3, .int y0, .int x2, .ref 17])) (w' := (mk s t)) (ob := true) e_61 hk_61 5 rfl rfl ?_
  obtain ⟨q3, e4, h⟩ := Option.bind_eq_some_iff.mp h
  refine xu_callv (q := 17) (r := (some q3.1)) (av := [.int x2, .int y0, .int x3]) (st := []) (w1 := (mk q3.2 t)) e_61 hk_61 rfl (m_Processor_combined _ _ _ _ _ _ e4) rfl rfl rfl rfl rfl ?_
  refine xOK_steps (fr' := (57, [some (.ref 17), none, some (.int x2), some (.int x3), some (.int y0), some (.int q3.1)], [.int (9 : Int32), .int x2])) (w' := (mk q3.2 t)) (ob := true) e_61 hk_61 3 rfl rfl ?_
  refine xu_icmp_eq e_61 hk_61 rfl (fun c5 => ?_) (fun c5 => ?_)
  · have h := xif_pos c5 h
    refine xOK_fg [2, 3, 4, 5] ?_
    exact t_Processor_twoOperands_96 t q  _ h
  · have h := xif_neg c5 h
    refine xOK_steps (fr' := (60, [some (.ref 17), none, some (.int x2), some (.int x3), some (.int y0), some (.int q3.1)], [.int (11 : Int32), .int x2])) (w' := (mk q3.2 t)) (ob := true) e_61 hk_61 2 rfl rfl ?_
    refine xu_icmp_ne e_61 hk_61 rfl (fun c6 => ?_) (fun c6 => ?_)
    · have h := xif_neg c6 h
      refine xOK_steps (fr' := (66, [some (.ref 17), none, some (.int x2), some (.int x3), some (.int y0), some (.int q3.1)], [.int q3.1, .ref 17])) (w' := (mk q3.2 t)) (ob := true) e_61 hk_61 2 rfl rfl ?_
      obtain ⟨q7, e8, h⟩ := Option.bind_eq_some_iff.mp h
      refine xu_callv (q := 17) (r := none) (av := [.int q3.1]) (st := []) (w1 := (mk q7 t)) e_61 hk_61 rfl (m_Processor_deliver _ _ _ _ e8) rfl rfl rfl rfl rfl ?_
      refine xOK_fg [0, 2, 3, 4, 5] ?_
      exact t_Processor_twoOperands_109 t q  _ h
    · have h := xif_pos c6 h
      refine xOK_fg [2, 3, 4, 5] ?_
      exact t_Processor_twoOperands_96 t q  _ h
set_option maxRecDepth 100000 in
set_option maxHeartbeats 4000000 in
theorem t_Processor_twoOperands_21 (t : xS) (q : xS) (x1 x2 y1 : Int32) (s : xS) (h : f_Processor_twoOperands_21 x1 x2 y1 s = some q) : xOK 61 none (xEnd 61 none (mk q t)) (15, [some (.ref 17), some (.int x1), some (.int x2), none, none, none], [.int y1, .ref 17]) (mk s t) 0 0 := by
  unfold f_Processor_twoOperands_21 at h
  by_cases o9 : xbl y1 = true
  case neg => have h := xif_neg o9 h; cases h
  have h := xif_pos o9 h
  refine xOK_steps (fr' := (27, [some (.ref 17), some (.int x1), some (.int x2), none, none, none], [.int ((x1 >>> ((4 : Int32) &&& 31)) &&& (3 : Int32)), .int ((x1 >>> ((8 : Int32) &&& 31)) &&& (15 : Int32)), .ref 17])) (w' := (mk (xsc s 13 y1) t)) (ob := xbl y1 && (true)) e_61 hk_61 12 rfl (xand o9 rfl) ?_
  obtain ⟨q10, e11, h⟩ := Option.bind_eq_some_iff.mp h
  refine xu_callv (q := 17) (r := none) (av := [.int ((x1 >>> ((8 : Int32) &&& 31)) &&& (15 : Int32)), .int ((x1 >>> ((4 : Int32) &&& 31)) &&& (3 : Int32))]) (st := []) (w1 := (mk q10 t)) e_61 hk_61 rfl (m_Processor_findSource _ _ _ _ _ e11) rfl rfl rfl rfl rfl ?_
  refine xOK_steps (fr' := (29, [some (.ref 17), some (.int x1), some (.int x2), none, none, none], [.ref 17])) (w' := (mk q10 t)) (ob := true) e_61 hk_61 1 rfl rfl ?_
  obtain ⟨q12, e13, h⟩ := Option.bind_eq_some_iff.mp h
  refine xu_callv (q := 17) (r := (some q12.1)) (av := []) (st := []) (w1 := (mk q12.2 t)) e_61 hk_61 rfl (m_Processor_operand  _ _ _ e13) rfl rfl rfl rfl rfl ?_
  refine xOK_steps (fr' := (40, [some (.ref 17), some (.int x1), some (.int x2), some (.int q12.1), none, none], [.int ((x1 >>> ((7 : Int32) &&& 31)) &&& (1 : Int32)), .int (x1 &&& (15 : Int32)), .ref 17])) (w' := (mk q12.2 t)) (ob := true) e_61 hk_61 10 rfl rfl ?_
  obtain ⟨q14, e15, h⟩ := Option.bind_eq_some_iff.mp h
  refine xu_callv (q := 17) (r := none) (av := [.int (x1 &&& (15 : Int32)), .int ((x1 >>> ((7 : Int32) &&& 31)) &&& (1 : Int32))]) (st := []) (w1 := (mk q14 t)) e_61 hk_61 rfl (m_Processor_findDestination _ _ _ _ _ e15) rfl rfl rfl rfl rfl ?_
  refine xOK_steps (fr' := (43, [some (.ref 17), some (.int x1), some (.int x2), some (.int q12.1), none, none], [.int (4 : Int32), .int x2])) (w' := (mk q14 t)) (ob := true) e_61 hk_61 2 rfl rfl ?_
  refine xu_icmp_ne e_61 hk_61 rfl (fun c16 => ?_) (fun c16 => ?_)
  · have h := xif_neg c16 h
    refine xOK_steps (fr' := (47, [some (.ref 17), some (.int x1), some (.int x2), some (.int q12.1), none, none], [.ref 17])) (w' := (mk q14 t)) (ob := true) e_61 hk_61 1 rfl rfl ?_
    obtain ⟨q17, e18, h⟩ := Option.bind_eq_some_iff.mp h
    refine xu_callv (q := 17) (r := (some q17.1)) (av := []) (st := []) (w1 := (mk q17.2 t)) e_61 hk_61 rfl (m_Processor_operand  _ _ _ e18) rfl rfl rfl rfl rfl ?_
    refine xOK_fg [1] ?_
    exact t_Processor_twoOperands_72 t q _ _ _ _ h
  · have h := xif_pos c16 h
    refine xOK_steps (fr' := (48, [some (.ref 17), some (.int x1), some (.int x2), some (.int q12.1), none, none], [.int (0 : Int32)])) (w' := (mk q14 t)) (ob := true) e_61 hk_61 2 rfl rfl ?_
    refine xOK_fg [1] ?_
    exact t_Processor_twoOperands_72 t q _ _ _ _ h
set_option maxRecDepth 100000 in
set_option maxHeartbeats 4000000 in
theorem m_Processor_twoOperands (x1 : Int32) (s t : xS) (q : xS) (h : f_Processor_twoOperands x1 s = some q) : xMet 61 [.ref 17, .int x1] (mk s t) none (mk q t) := by
  refine xMet_of hk_61 rfl rfl rfl ?_
  refine xOK_eq (fr := (0, [some (.ref 17), some (.int x1), none, none, none, none], [])) rfl ?_
  unfold f_Processor_twoOperands at h
  refine xOK_steps (fr' := (11, [some (.ref 17), some (.int x1), some (.int (x1 >>> ((12 : Int32) &&& 31))), none, none, none], [.int (1 : Int32), .int ((x1 >>> ((6 : Int32) &&& 31)) &&& (1 : Int32)), .ref 17])) (w' := (mk s t)) (ob := true) e_61 hk_61 11 rfl rfl ?_
  refine xu_icmp_ne e_61 hk_61 rfl (fun c19 => ?_) (fun c19 => ?_)
  · have h := xif_neg c19 h
    refine xOK_steps (fr' := (15, [some (.ref 17), some (.int x1), some (.int (x1 >>> ((12 : Int32) &&& 31))), none, none, none], [.int (0 : Int32), .ref 17])) (w' := (mk s t)) (ob := true) e_61 hk_61 1 rfl rfl ?_
    exact t_Processor_twoOperands_21 t q _ _ _ _ h
  · have h := xif_pos c19 h
    refine xOK_steps (fr' := (15, [some (.ref 17), some (.int x1), some (.int (x1 >>> ((12 : Int32) &&& 31))), none, none, none], [.int (1 : Int32), .ref 17])) (w' := (mk s t)) (ob := true) e_61 hk_61 2 rfl rfl ?_
    exact t_Processor_twoOperands_21 t q _ _ _ _ h
set_option maxRecDepth 100000 in
set_option maxHeartbeats 4000000 in
theorem t_Processor_execute_55 (t : xS) (q : xS) (s : xS) (h : f_Processor_execute_55  s = some q) : xOK 60 none (xEnd 60 none (mk q t)) (32, [none, none], []) (mk s t) 0 0 := by
  unfold f_Processor_execute_55 at h
  cases h
  exact xu_vret e_60 hk_60 rfl rfl
set_option maxRecDepth 100000 in
set_option maxHeartbeats 4000000 in
theorem m_Processor_execute (s t : xS) (q : xS) (h : f_Processor_execute  s = some q) : xMet 60 [.ref 17] (mk s t) none (mk q t) := by
  refine xMet_of hk_60 rfl rfl rfl ?_
  refine xOK_eq (fr := (0, [some (.ref 17), none], [])) rfl ?_
  unfold f_Processor_execute at h
  refine xOK_steps (fr' := (1, [some (.ref 17), none], [.ref 17])) (w' := (mk s t)) (ob := true) e_60 hk_60 1 rfl rfl ?_
  obtain ⟨q1, e2, h⟩ := Option.bind_eq_some_iff.mp h
  refine xu_callv (q := 17) (r := (some q1.1)) (av := []) (st := []) (w1 := (mk q1.2 t)) e_60 hk_60 rfl (m_Processor_nextWord  _ _ _ e2) rfl rfl rfl rfl rfl ?_
  refine xOK_steps (fr' := (10, [some (.ref 17), some (.int q1.1)], [.int (4 : Int32), .int (q1.1 >>> ((12 : Int32) &&& 31))])) (w' := (mk (xsc q1.2 17 (0 : Int32)) t)) (ob := true) e_60 hk_60 8 rfl rfl ?_
  refine xu_icmp_lt e_60 hk_60 rfl (fun c3 => ?_) (fun c3 => ?_)
  · have h := xif_pos c3 h
    refine xOK_steps (fr' := (19, [some (.ref 17), some (.int q1.1)], [.int (2 : Int32), .int (q1.1 >>> ((12 : Int32) &&& 31))])) (w' := (mk (xsc q1.2 17 (0 : Int32)) t)) (ob := true) e_60 hk_60 4 rfl rfl ?_
    refine xu_icmp_lt e_60 hk_60 rfl (fun c4 => ?_) (fun c4 => ?_)
    · have h := xif_pos c4 h
      refine xOK_steps (fr' := (28, [some (.ref 17), some (.int q1.1)], [.int (4 : Int32), .int (q1.1 >>> ((10 : Int32) &&& 31))])) (w' := (mk (xsc q1.2 17 (0 : Int32)) t)) (ob := true) e_60 hk_60 4 rfl rfl ?_
      refine xu_icmp_ne e_60 hk_60 rfl (fun c5 => ?_) (fun c5 => ?_)
      · have h := xif_neg c5 h
        refine xOK_fg [0, 1] ?_
        exact t_Processor_execute_55 t q  _ h
      · have h := xif_pos c5 h
        refine xOK_steps (fr' := (31, [some (.ref 17), some (.int q1.1)], [.int q1.1, .ref 17])) (w' := (mk (xsc q1.2 17 (0 : Int32)) t)) (ob := true) e_60 hk_60 2 rfl rfl ?_
        obtain ⟨q6, e7, h⟩ := Option.bind_eq_some_iff.mp h
        refine xu_callv (q := 17) (r := none) (av := [.int q1.1]) (st := []) (w1 := (mk q6 t)) e_60 hk_60 rfl (m_Processor_oneOperand _ _ _ _ e7) rfl rfl rfl rfl rfl ?_
        refine xOK_fg [0, 1] ?_
        exact t_Processor_execute_55 t q  _ h
    · have h := xif_neg c4 h
      refine xOK_steps (fr' := (22, [some (.ref 17), some (.int q1.1)], [.int q1.1, .ref 17])) (w' := (mk (xsc q1.2 17 (0 : Int32)) t)) (ob := true) e_60 hk_60 2 rfl rfl ?_
      obtain ⟨q8, e9, h⟩ := Option.bind_eq_some_iff.mp h
      refine xu_callv (q := 17) (r := none) (av := [.int q1.1]) (st := []) (w1 := (mk q8 t)) e_60 hk_60 rfl (m_Processor_jump _ _ _ _ e9) rfl rfl rfl rfl rfl ?_
      refine xOK_steps (fr' := (32, [some (.ref 17), some (.int q1.1)], [])) (w' := (mk q8 t)) (ob := true) e_60 hk_60 1 rfl rfl ?_
      refine xOK_fg [0, 1] ?_
      exact t_Processor_execute_55 t q  _ h
  · have h := xif_neg c3 h
    refine xOK_steps (fr' := (13, [some (.ref 17), some (.int q1.1)], [.int q1.1, .ref 17])) (w' := (mk (xsc q1.2 17 (0 : Int32)) t)) (ob := true) e_60 hk_60 2 rfl rfl ?_
    obtain ⟨q10, e11, h⟩ := Option.bind_eq_some_iff.mp h
    refine xu_callv (q := 17) (r := none) (av := [.int q1.1]) (st := []) (w1 := (mk q10 t)) e_60 hk_60 rfl (m_Processor_twoOperands _ _ _ _ e11) rfl rfl rfl rfl rfl ?_
    refine xOK_steps (fr' := (32, [some (.ref 17), some (.int q1.1)], [])) (w' := (mk q10 t)) (ob := true) e_60 hk_60 1 rfl rfl ?_
    refine xOK_fg [0, 1] ?_
    exact t_Processor_execute_55 t q  _ h
set_option maxRecDepth 100000 in
set_option maxHeartbeats 4000000 in
theorem t_C_run_68 (t : xS) (q : (Int32 × xS)) (x2 : Int32) (s : xS) (h : f_C_run_68 x2 s = some q) : xOK 6 none (xEnd 6 (some q.1) (mk q.2 t)) (34, [none, none, some (.int x2), none], []) (mk s t) 0 0 := by
  unfold f_C_run_68 at h
  refine xOK_steps (fr' := (35, [none, none, some (.int x2), none], [.int x2])) (w' := (mk s t)) (ob := true) e_6 hk_6 1 rfl rfl ?_
  cases h
  exact xu_iret e_6 hk_6 rfl rfl rfl
set_option maxRecDepth 100000 in
set_option maxHeartbeats 4000000 in
theorem t_C_run_62 (t : xS) (q : (Int32 × xS)) (lp : Int32 → Int32 → Int32 → xS → Option (Int32 × xS)) (hlp : ∀ (x1 x2 x3 : Int32) (s : xS), lp x1 x2 x3 s = some q → xOK 6 none (xEnd 6 (some q.1) (mk q.2 t)) (15, [some (.ref 0), some (.int x1), some (.int x2), some (.int x3)], []) (mk s t) 0 0) (x1 x2 x3 : Int32) (s : xS) (h : f_C_run_62 lp x1 x2 x3 s = some q) : xOK 6 none (xEnd 6 (some q.1) (mk q.2 t)) (32, [some (.ref 0), some (.int x1), some (.int x2), some (.int x3)], []) (mk s t) 0 0 := by
  unfold f_C_run_62 at h
  refine xOK_steps (fr' := (15, [some (.ref 0), some (.int x1), some (.int x2), some (.int (x3 + (1 : Int32)))], [])) (w' := (mk s t)) (ob := true) e_6 hk_6 2 rfl rfl ?_
  exact hlp _ _ _ _ h
set_option maxRecDepth 100000 in
set_option maxHeartbeats 4000000 in
theorem t_C_run_52 (t : xS) (q : (Int32 × xS)) (lp : Int32 → Int32 → Int32 → xS → Option (Int32 × xS)) (hlp : ∀ (x1 x2 x3 : Int32) (s : xS), lp x1 x2 x3 s = some q → xOK 6 none (xEnd 6 (some q.1) (mk q.2 t)) (15, [some (.ref 0), some (.int x1), some (.int x2), some (.int x3)], []) (mk s t) 0 0) (x1 x2 x3 : Int32) (s : xS) (h : f_C_run_52 lp x1 x2 x3 s = some q) : xOK 6 none (xEnd 6 (some q.1) (mk q.2 t)) (28, [some (.ref 0), some (.int x1), some (.int x2), some (.int x3)], []) (mk s t) 0 0 := by
  unfold f_C_run_52 at h
  refine xOK_steps (fr' := (29, [some (.ref 0), some (.int x1), some (.int x2), some (.int x3)], [.ref 0])) (w' := (mk s t)) (ob := true) e_6 hk_6 1 rfl rfl ?_
  obtain ⟨q1, e2, h⟩ := Option.bind_eq_some_iff.mp h
  refine xu_callv (q := 0) (r := (some q1.1)) (av := []) (st := []) (w1 := (mk q1.2 t)) e_6 hk_6 rfl (m_C_endStep  _ _ _ e2) rfl rfl rfl rfl rfl ?_
  refine xu_if_eq e_6 hk_6 rfl (fun c3 => ?_) (fun c3 => ?_)
  · have h := xif_pos c3 h
    exact t_C_run_62 t q _ hlp _ _ _ _ h
  · have h := xif_neg c3 h
    refine xOK_steps (fr' := (32, [some (.ref 0), some (.int x1), some (.int (x2 + (1 : Int32))), some (.int x3)], [])) (w' := (mk q1.2 t)) (ob := true) e_6 hk_6 1 rfl rfl ?_
    exact t_C_run_62 t q _ hlp _ _ _ _ h
set_option maxRecDepth 100000 in
set_option maxHeartbeats 4000000 in
theorem t_C_run_25 (t : xS) (q : (Int32 × xS)) : ∀ (n : Nat), ∀ (x1 x2 x3 : Int32) (s : xS), f_C_run_25 n x1 x2 x3 s = some q → xOK 6 none (xEnd 6 (some q.1) (mk q.2 t)) (15, [some (.ref 0), some (.int x1), some (.int x2), some (.int x3)], []) (mk s t) 0 0 := by
  intro n
  induction n with
  | zero => intro x1 x2 x3 s h; cases h
  | succ n ih =>
    intro x1 x2 x3 s h
    unfold f_C_run_25 at h
    refine xOK_steps (fr' := (17, [some (.ref 0), some (.int x1), some (.int x2), some (.int x3)], [.int x1, .int x3])) (w' := (mk s t)) (ob := true) e_6 hk_6 2 rfl rfl ?_
    refine xu_icmp_ge e_6 hk_6 rfl (fun c4 => ?_) (fun c4 => ?_)
    · have h := xif_pos c4 h
      refine xOK_fg [0, 1, 3] ?_
      exact t_C_run_68 t q _ _ h
    · have h := xif_neg c4 h
      refine xOK_steps (fr' := (21, [some (.ref 0), some (.int x1), some (.int x2), some (.int x3)], [.int (1 : Int32), .int (s.1 0)])) (w' := (mk s t)) (ob := true) e_6 hk_6 3 rfl rfl ?_
      refine xu_icmp_ne e_6 hk_6 rfl (fun c5 => ?_) (fun c5 => ?_)
      · have h := xif_neg c5 h
        refine xOK_fg [0, 1, 3] ?_
        exact t_C_run_68 t q _ _ h
      · have h := xif_pos c5 h
        refine xOK_steps (fr' := (23, [some (.ref 0), some (.int x1), some (.int x2), some (.int x3)], [.ref 0])) (w' := (mk s t)) (ob := true) e_6 hk_6 1 rfl rfl ?_
        obtain ⟨q6, e7, h⟩ := Option.bind_eq_some_iff.mp h
        refine xu_callv (q := 0) (r := (some q6.1)) (av := []) (st := []) (w1 := (mk q6.2 t)) e_6 hk_6 rfl (m_C_beginStep  _ _ _ e7) rfl rfl rfl rfl rfl ?_
        refine xu_if_eq e_6 hk_6 rfl (fun c8 => ?_) (fun c8 => ?_)
        · have h := xif_pos c8 h
          exact t_C_run_52 t q _ ih _ _ _ _ h
        · have h := xif_neg c8 h
          refine xOK_steps (fr' := (27, [some (.ref 0), some (.int x1), some (.int x2), some (.int x3)], [.ref 17])) (w' := (mk q6.2 t)) (ob := true) e_6 hk_6 2 rfl rfl ?_
          obtain ⟨q9, e10, h⟩ := Option.bind_eq_some_iff.mp h
          refine xu_callv (q := 17) (r := none) (av := []) (st := []) (w1 := (mk q9 t)) e_6 hk_6 rfl (m_Processor_execute  _ _ _ e10) rfl rfl rfl rfl rfl ?_
          exact t_C_run_52 t q _ ih _ _ _ _ h
set_option maxRecDepth 100000 in
set_option maxHeartbeats 4000000 in
theorem t_C_run_19 (t : xS) (q : (Int32 × xS)) (s : xS) (h : f_C_run_19  s = some q) : xOK 6 none (xEnd 6 (some q.1) (mk q.2 t)) (9, [none, none, none, none], []) (mk s t) 0 0 := by
  unfold f_C_run_19 at h
  refine xOK_steps (fr' := (10, [none, none, none, none], [.int (-1 : Int32)])) (w' := (mk s t)) (ob := true) e_6 hk_6 1 rfl rfl ?_
  cases h
  exact xu_iret e_6 hk_6 rfl rfl rfl
set_option maxRecDepth 100000 in
set_option maxHeartbeats 4000000 in
theorem m_C_run (x1 : Int32) (s t : xS) (q : (Int32 × xS)) (h : f_C_run x1 s = some q) : xMet 6 [.ref 0, .int x1] (mk s t) (some q.1) (mk q.2 t) := by
  refine xMet_of hk_6 rfl rfl rfl ?_
  refine xOK_eq (fr := (0, [some (.ref 0), some (.int x1), none, none], [])) rfl ?_
  unfold f_C_run at h
  refine xOK_steps (fr' := (3, [some (.ref 0), some (.int x1), none, none], [.int (1 : Int32), .int (s.1 0)])) (w' := (mk s t)) (ob := true) e_6 hk_6 3 rfl rfl ?_
  refine xu_icmp_ne e_6 hk_6 rfl (fun c11 => ?_) (fun c11 => ?_)
  · have h := xif_neg c11 h
    refine xOK_fg [0, 1] ?_
    exact t_C_run_19 t q  _ h
  · have h := xif_pos c11 h
    refine xOK_steps (fr' := (5, [some (.ref 0), some (.int x1), none, none], [.int x1])) (w' := (mk s t)) (ob := true) e_6 hk_6 1 rfl rfl ?_
    refine xu_if_lt e_6 hk_6 rfl (fun c12 => ?_) (fun c12 => ?_)
    · have h := xif_pos c12 h
      refine xOK_fg [0, 1] ?_
      exact t_C_run_19 t q  _ h
    · have h := xif_neg c12 h
      refine xOK_steps (fr' := (8, [some (.ref 0), some (.int x1), none, none], [.int (200 : Int32), .int x1])) (w' := (mk s t)) (ob := true) e_6 hk_6 2 rfl rfl ?_
      refine xu_icmp_le e_6 hk_6 rfl (fun c13 => ?_) (fun c13 => ?_)
      · have h := xif_pos c13 h
        refine xOK_steps (fr' := (15, [some (.ref 0), some (.int x1), some (.int (0 : Int32)), some (.int (0 : Int32))], [])) (w' := (mk s t)) (ob := true) e_6 hk_6 4 rfl rfl ?_
        exact t_C_run_25 t q _ _ _ _ _ h
      · have h := xif_neg c13 h
        refine xOK_fg [0, 1] ?_
        exact t_C_run_19 t q  _ h
set_option maxRecDepth 100000 in
set_option maxHeartbeats 4000000 in
theorem t_Keeper_recover_19 (t : xS) (q : (Int32 × xS)) (s : xS) (h : f_Keeper_recover_19  s = some q) : xOK 91 none (xEnd 91 (some q.1) (mk q.2 t)) (9, [some (.ref 19)], []) (mk s t) 0 0 := by
  unfold f_Keeper_recover_19 at h
  refine xOK_steps (fr' := (17, [some (.ref 19)], [.int (16 : Int32), .int (0 : Int32), .ref 18, .int (0 : Int32), .ref 21])) (w' := (mk s t)) (ob := true) e_91 hk_91 8 rfl rfl ?_
  refine xu_copy (n := 16) (q0 := 21) (q1 := 18) (w1 := (mk (xsf s 10 (va_cpy (s.2 11) (s.2 10) 0 0 16)) t)) e_91 hk_91 rfl rfl rfl rfl rfl rfl ?_
  refine xOK_steps (fr' := (26, [some (.ref 19)], [.int (16 : Int32), .int (0 : Int32), .ref 16, .int (0 : Int32), .ref 22])) (w' := (mk (xsf s 10 (va_cpy (s.2 11) (s.2 10) 0 0 16)) t)) (ob := true) e_91 hk_91 8 rfl rfl ?_
  refine xu_copy (n := 16) (q0 := 22) (q1 := 16) (w1 := (mk (xsf (xsf s 10 (va_cpy (s.2 11) (s.2 10) 0 0 16)) 9 (va_cpy (s.2 12) (s.2 9) 0 0 16)) t)) e_91 hk_91 rfl rfl rfl rfl rfl rfl ?_
  refine xOK_steps (fr' := (29, [some (.ref 19)], [.ref 9])) (w' := (mk (xsf (xsf s 10 (va_cpy (s.2 11) (s.2 10) 0 0 16)) 9 (va_cpy (s.2 12) (s.2 9) 0 0 16)) t)) (ob := true) e_91 hk_91 2 rfl rfl ?_
  obtain ⟨q1, e2, h⟩ := Option.bind_eq_some_iff.mp h
  refine xu_callv (q := 9) (r := none) (av := []) (st := []) (w1 := (mk q1 t)) e_91 hk_91 rfl (m_Section_begin  _ _ _ e2) rfl rfl rfl rfl rfl ?_
  refine xOK_steps (fr' := (31, [some (.ref 19)], [.int (1 : Int32)])) (w' := (mk q1 t)) (ob := true) e_91 hk_91 1 rfl rfl ?_
  cases h
  exact xu_iret e_91 hk_91 rfl rfl rfl
set_option maxRecDepth 100000 in
set_option maxHeartbeats 4000000 in
theorem m_Keeper_recover (s t : xS) (q : (Int32 × xS)) (h : f_Keeper_recover  s = some q) : xMet 91 [.ref 19] (mk s t) (some q.1) (mk q.2 t) := by
  refine xMet_of hk_91 rfl rfl rfl ?_
  refine xOK_eq (fr := (0, [some (.ref 19)], [])) rfl ?_
  unfold f_Keeper_recover at h
  refine xOK_steps (fr' := (3, [some (.ref 19)], [.int (s.1 22)])) (w' := (mk s t)) (ob := true) e_91 hk_91 3 rfl rfl ?_
  refine xu_if_ne e_91 hk_91 rfl (fun c3 => ?_) (fun c3 => ?_)
  · have h := xif_neg c3 h
    exact t_Keeper_recover_19 t q  _ h
  · have h := xif_pos c3 h
    refine xOK_steps (fr' := (5, [some (.ref 19)], [.ref 19])) (w' := (mk s t)) (ob := true) e_91 hk_91 1 rfl rfl ?_
    obtain ⟨q4, e5, h⟩ := Option.bind_eq_some_iff.mp h
    refine xu_callv (q := 19) (r := (some q4.1)) (av := []) (st := []) (w1 := (mk q4.2 t)) e_91 hk_91 rfl (m_Keeper_finish  _ _ _ e5) rfl rfl rfl rfl rfl ?_
    refine xu_if_ne e_91 hk_91 rfl (fun c6 => ?_) (fun c6 => ?_)
    · have h := xif_neg c6 h
      exact t_Keeper_recover_19 t q  _ h
    · have h := xif_pos c6 h
      refine xOK_steps (fr' := (8, [some (.ref 19)], [.int (0 : Int32)])) (w' := (mk q4.2 t)) (ob := true) e_91 hk_91 1 rfl rfl ?_
      cases h
      exact xu_iret e_91 hk_91 rfl rfl rfl
set_option maxRecDepth 100000 in
set_option maxHeartbeats 4000000 in
theorem t_C_boot_49 (t : xS) (q : (Int32 × xS)) (y1 : Int32) (s : xS) (h : f_C_boot_49 y1 s = some q) : xOK 7 none (xEnd 7 (some q.1) (mk q.2 t)) (25, [none], [.int y1, .ref 0]) (mk s t) 0 0 := by
  unfold f_C_boot_49 at h
  refine xOK_steps (fr' := (27, [none], [.int (1 : Int32)])) (w' := (mk (xsc s 0 y1) t)) (ob := true) e_7 hk_7 2 rfl rfl ?_
  cases h
  exact xu_iret e_7 hk_7 rfl rfl rfl
set_option maxRecDepth 100000 in
set_option maxHeartbeats 4000000 in
theorem m_C_boot (s t : xS) (q : (Int32 × xS)) (h : f_C_boot  s = some q) : xMet 7 [.ref 0] (mk s t) (some q.1) (mk q.2 t) := by
  refine xMet_of hk_7 rfl rfl rfl ?_
  refine xOK_eq (fr := (0, [some (.ref 0)], [])) rfl ?_
  unfold f_C_boot at h
  refine xOK_steps (fr' := (3, [some (.ref 0)], [.int (2 : Int32), .int (s.1 0)])) (w' := (mk s t)) (ob := true) e_7 hk_7 3 rfl rfl ?_
  refine xu_icmp_eq e_7 hk_7 rfl (fun c1 => ?_) (fun c1 => ?_)
  · have h := xif_pos c1 h
    refine xOK_steps (fr' := (12, [some (.ref 0)], [.ref 19])) (w' := (mk (xsc s 1 (1 : Int32)) t)) (ob := true) e_7 hk_7 6 rfl rfl ?_
    obtain ⟨q2, e3, h⟩ := Option.bind_eq_some_iff.mp h
    refine xu_callv (q := 19) (r := (some q2.1)) (av := []) (st := []) (w1 := (mk q2.2 t)) e_7 hk_7 rfl (m_Keeper_recover  _ _ _ e3) rfl rfl rfl rfl rfl ?_
    refine xu_if_ne e_7 hk_7 rfl (fun c4 => ?_) (fun c4 => ?_)
    · have h := xif_neg c4 h
      refine xOK_steps (fr' := (21, [some (.ref 0)], [.int (q2.2.1 21), .ref 0])) (w' := (mk q2.2 t)) (ob := true) e_7 hk_7 5 rfl rfl ?_
      refine xu_if_eq e_7 hk_7 rfl (fun c5 => ?_) (fun c5 => ?_)
      · have h := xif_pos c5 h
        refine xOK_steps (fr' := (25, [some (.ref 0)], [.int (1 : Int32), .ref 0])) (w' := (mk q2.2 t)) (ob := true) e_7 hk_7 1 rfl rfl ?_
        refine xOK_fg [0] ?_
        exact t_C_boot_49 t q _ _ h
      · have h := xif_neg c5 h
        refine xOK_steps (fr' := (25, [some (.ref 0)], [.int (3 : Int32), .ref 0])) (w' := (mk q2.2 t)) (ob := true) e_7 hk_7 2 rfl rfl ?_
        refine xOK_fg [0] ?_
        exact t_C_boot_49 t q _ _ h
    · have h := xif_pos c4 h
      refine xOK_steps (fr' := (15, [some (.ref 0)], [.int (0 : Int32)])) (w' := (mk q2.2 t)) (ob := true) e_7 hk_7 1 rfl rfl ?_
      cases h
      exact xu_iret e_7 hk_7 rfl rfl rfl
  · have h := xif_neg c1 h
    refine xOK_steps (fr' := (5, [some (.ref 0)], [.int (0 : Int32)])) (w' := (mk s t)) (ob := true) e_7 hk_7 1 rfl rfl ?_
    cases h
    exact xu_iret e_7 hk_7 rfl rfl rfl
set_option maxRecDepth 100000 in
set_option maxHeartbeats 4000000 in
theorem m_C_state (s t : xS) (q : (Int32 × xS)) (h : f_C_state  s = some q) : xMet 8 [.ref 0] (mk s t) (some q.1) (mk q.2 t) := by
  refine xMet_of hk_8 rfl rfl rfl ?_
  refine xOK_eq (fr := (0, [some (.ref 0)], [])) rfl ?_
  unfold f_C_state at h
  refine xOK_steps (fr' := (2, [some (.ref 0)], [.int (s.1 0)])) (w' := (mk s t)) (ob := true) e_8 hk_8 2 rfl rfl ?_
  cases h
  exact xu_iret e_8 hk_8 rfl rfl rfl
set_option maxRecDepth 100000 in
set_option maxHeartbeats 4000000 in
theorem t_C_register_23 (t : xS) (q : (Int32 × xS)) (y0 : Int32) (s : xS) (h : f_C_register_23 y0 s = some q) : xOK 9 none (xEnd 9 (some q.1) (mk q.2 t)) (12, [none, none], [.int y0]) (mk s t) 0 0 := by
  unfold f_C_register_23 at h
  cases h
  exact xu_iret e_9 hk_9 rfl rfl rfl
set_option maxRecDepth 100000 in
set_option maxHeartbeats 4000000 in
theorem t_C_register_10 (t : xS) (q : (Int32 × xS)) (s : xS) (h : f_C_register_10  s = some q) : xOK 9 none (xEnd 9 (some q.1) (mk q.2 t)) (5, [none, none], []) (mk s t) 0 0 := by
  unfold f_C_register_10 at h
  refine xOK_steps (fr' := (12, [none, none], [.int (0 : Int32)])) (w' := (mk s t)) (ob := true) e_9 hk_9 2 rfl rfl ?_
  exact t_C_register_23 t q _ _ h
set_option maxRecDepth 100000 in
set_option maxHeartbeats 4000000 in
theorem m_C_register (x1 : Int32) (s t : xS) (q : (Int32 × xS)) (h : f_C_register x1 s = some q) : xMet 9 [.ref 0, .int x1] (mk s t) (some q.1) (mk q.2 t) := by
  refine xMet_of hk_9 rfl rfl rfl ?_
  refine xOK_eq (fr := (0, [some (.ref 0), some (.int x1)], [])) rfl ?_
  unfold f_C_register at h
  refine xOK_steps (fr' := (1, [some (.ref 0), some (.int x1)], [.int x1])) (w' := (mk s t)) (ob := true) e_9 hk_9 1 rfl rfl ?_
  refine xu_if_lt e_9 hk_9 rfl (fun c1 => ?_) (fun c1 => ?_)
  · have h := xif_pos c1 h
    refine xOK_fg [0, 1] ?_
    exact t_C_register_10 t q  _ h
  · have h := xif_neg c1 h
    refine xOK_steps (fr' := (4, [some (.ref 0), some (.int x1)], [.int (16 : Int32), .int x1])) (w' := (mk s t)) (ob := true) e_9 hk_9 2 rfl rfl ?_
    refine xu_icmp_lt e_9 hk_9 rfl (fun c2 => ?_) (fun c2 => ?_)
    · have h := xif_pos c2 h
      by_cases o3 : xin x1 16 = true
      case neg => have h := xif_neg o3 h; cases h
      have h := xif_pos o3 h
      refine xOK_steps (fr' := (12, [some (.ref 0), some (.int x1)], [.int ((s.2 10) (x1).toNatClampNeg)])) (w' := (mk s t)) (ob := xin x1 16 && (true)) e_9 hk_9 5 rfl (xand o3 rfl) ?_
      refine xOK_fg [0, 1] ?_
      exact t_C_register_23 t q _ _ h
    · have h := xif_neg c2 h
      refine xOK_fg [0, 1] ?_
      exact t_C_register_10 t q  _ h
set_option maxRecDepth 100000 in
set_option maxHeartbeats 4000000 in
theorem m_C_memory (x1 : Int32) (s t : xS) (q : (Int32 × xS)) (h : f_C_memory x1 s = some q) : xMet 10 [.ref 0, .int x1] (mk s t) (some q.1) (mk q.2 t) := by
  refine xMet_of hk_10 rfl rfl rfl ?_
  refine xOK_eq (fr := (0, [some (.ref 0), some (.int x1)], [])) rfl ?_
  unfold f_C_memory at h
  refine xOK_steps (fr' := (3, [some (.ref 0), some (.int x1)], [.int x1, .ref 15])) (w' := (mk s t)) (ob := true) e_10 hk_10 3 rfl rfl ?_
  obtain ⟨q1, e2, h⟩ := Option.bind_eq_some_iff.mp h
  refine xu_callv (q := 15) (r := (some q1.1)) (av := [.int x1]) (st := []) (w1 := (mk q1.2 t)) e_10 hk_10 rfl (m_Bus_peek _ _ _ _ e2) rfl rfl rfl rfl rfl ?_
  cases h
  exact xu_iret e_10 hk_10 rfl rfl rfl
set_option maxRecDepth 100000 in
set_option maxHeartbeats 4000000 in
theorem t_C_fram_20 (t : xS) (q : (Int32 × xS)) (y0 : Int32) (s : xS) (h : f_C_fram_20 y0 s = some q) : xOK 11 none (xEnd 11 (some q.1) (mk q.2 t)) (10, [none, none], [.int y0]) (mk s t) 0 0 := by
  unfold f_C_fram_20 at h
  cases h
  exact xu_iret e_11 hk_11 rfl rfl rfl
set_option maxRecDepth 100000 in
set_option maxHeartbeats 4000000 in
theorem m_C_fram (x1 : Int32) (s t : xS) (q : (Int32 × xS)) (h : f_C_fram x1 s = some q) : xMet 11 [.ref 0, .int x1] (mk s t) (some q.1) (mk q.2 t) := by
  refine xMet_of hk_11 rfl rfl rfl ?_
  refine xOK_eq (fr := (0, [some (.ref 0), some (.int x1)], [])) rfl ?_
  unfold f_C_fram at h
  refine xOK_steps (fr' := (1, [some (.ref 0), some (.int x1)], [.int x1])) (w' := (mk s t)) (ob := true) e_11 hk_11 1 rfl rfl ?_
  obtain ⟨q1, e2, h⟩ := Option.bind_eq_some_iff.mp h
  refine xu_calls (r := (some q1)) (av := [.int x1]) (st := []) (w1 := (mk s t)) e_11 hk_11 rfl rfl (m_C_isFramWord _ _ _ _ e2) rfl rfl rfl rfl ?_
  refine xu_if_eq e_11 hk_11 rfl (fun c3 => ?_) (fun c3 => ?_)
  · have h := xif_pos c3 h
    refine xOK_steps (fr' := (10, [some (.ref 0), some (.int x1)], [.int (0 : Int32)])) (w' := (mk s t)) (ob := true) e_11 hk_11 1 rfl rfl ?_
    refine xOK_fg [0, 1] ?_
    exact t_C_fram_20 t q _ _ h
  · have h := xif_neg c3 h
    by_cases o4 : xin x1 128 = true
    case neg => have h := xif_neg o4 h; cases h
    have h := xif_pos o4 h
    refine xOK_steps (fr' := (10, [some (.ref 0), some (.int x1)], [.int ((s.2 1) (x1).toNatClampNeg)])) (w' := (mk s t)) (ob := xin x1 128 && (true)) e_11 hk_11 6 rfl (xand o4 rfl) ?_
    refine xOK_fg [0, 1] ?_
    exact t_C_fram_20 t q _ _ h
set_option maxRecDepth 100000 in
set_option maxHeartbeats 4000000 in
theorem t_C_radio_41 (t : xS) (q : (Int32 × xS)) (y0 : Int32) (s : xS) (h : f_C_radio_41 y0 s = some q) : xOK 12 none (xEnd 12 (some q.1) (mk q.2 t)) (21, [none, none], [.int y0]) (mk s t) 0 0 := by
  unfold f_C_radio_41 at h
  cases h
  exact xu_iret e_12 hk_12 rfl rfl rfl
set_option maxRecDepth 100000 in
set_option maxHeartbeats 4000000 in
theorem t_C_radio_28 (t : xS) (q : (Int32 × xS)) (s : xS) (h : f_C_radio_28  s = some q) : xOK 12 none (xEnd 12 (some q.1) (mk q.2 t)) (14, [none, none], []) (mk s t) 0 0 := by
  unfold f_C_radio_28 at h
  refine xOK_steps (fr' := (21, [none, none], [.int (0 : Int32)])) (w' := (mk s t)) (ob := true) e_12 hk_12 2 rfl rfl ?_
  exact t_C_radio_41 t q _ _ h
set_option maxRecDepth 100000 in
set_option maxHeartbeats 4000000 in
theorem m_C_radio (x1 : Int32) (s t : xS) (q : (Int32 × xS)) (h : f_C_radio x1 s = some q) : xMet 12 [.ref 0, .int x1] (mk s t) (some q.1) (mk q.2 t) := by
  refine xMet_of hk_12 rfl rfl rfl ?_
  refine xOK_eq (fr := (0, [some (.ref 0), some (.int x1)], [])) rfl ?_
  unfold f_C_radio at h
  refine xOK_steps (fr' := (2, [some (.ref 0), some (.int x1)], [.int (-1 : Int32), .int x1])) (w' := (mk s t)) (ob := true) e_12 hk_12 2 rfl rfl ?_
  refine xu_icmp_ne e_12 hk_12 rfl (fun c1 => ?_) (fun c1 => ?_)
  · have h := xif_neg c1 h
    refine xOK_steps (fr' := (8, [some (.ref 0), some (.int x1)], [.int x1])) (w' := (mk s t)) (ob := true) e_12 hk_12 1 rfl rfl ?_
    refine xu_if_lt e_12 hk_12 rfl (fun c2 => ?_) (fun c2 => ?_)
    · have h := xif_pos c2 h
      refine xOK_fg [0, 1] ?_
      exact t_C_radio_28 t q  _ h
    · have h := xif_neg c2 h
      refine xOK_steps (fr' := (13, [some (.ref 0), some (.int x1)], [.int (s.1 4), .int x1])) (w' := (mk s t)) (ob := true) e_12 hk_12 4 rfl rfl ?_
      refine xu_icmp_lt e_12 hk_12 rfl (fun c3 => ?_) (fun c3 => ?_)
      · have h := xif_pos c3 h
        by_cases o4 : xin x1 200 = true
        case neg => have h := xif_neg o4 h; cases h
        have h := xif_pos o4 h
        refine xOK_steps (fr' := (21, [some (.ref 0), some (.int x1)], [.int ((s.2 3) (x1).toNatClampNeg)])) (w' := (mk s t)) (ob := xin x1 200 && (true)) e_12 hk_12 5 rfl (xand o4 rfl) ?_
        refine xOK_fg [0, 1] ?_
        exact t_C_radio_41 t q _ _ h
      · have h := xif_neg c3 h
        refine xOK_fg [0, 1] ?_
        exact t_C_radio_28 t q  _ h
  · have h := xif_pos c1 h
    refine xOK_steps (fr' := (6, [some (.ref 0), some (.int x1)], [.int (s.1 4)])) (w' := (mk s t)) (ob := true) e_12 hk_12 3 rfl rfl ?_
    cases h
    exact xu_iret e_12 hk_12 rfl rfl rfl
set_option maxRecDepth 100000 in
set_option maxHeartbeats 4000000 in
theorem m_C_waiting (s t : xS) (q : (Int32 × xS)) (h : f_C_waiting  s = some q) : xMet 13 [.ref 0] (mk s t) (some q.1) (mk q.2 t) := by
  refine xMet_of hk_13 rfl rfl rfl ?_
  refine xOK_eq (fr := (0, [some (.ref 0)], [])) rfl ?_
  unfold f_C_waiting at h
  refine xOK_steps (fr' := (3, [some (.ref 0)], [.int (s.1 6)])) (w' := (mk s t)) (ob := true) e_13 hk_13 3 rfl rfl ?_
  cases h
  exact xu_iret e_13 hk_13 rfl rfl rfl
set_option maxRecDepth 100000 in
set_option maxHeartbeats 4000000 in
theorem m_C_writes (s t : xS) (q : (Int32 × xS)) (h : f_C_writes  s = some q) : xMet 14 [.ref 0] (mk s t) (some q.1) (mk q.2 t) := by
  refine xMet_of hk_14 rfl rfl rfl ?_
  refine xOK_eq (fr := (0, [some (.ref 0)], [])) rfl ?_
  unfold f_C_writes at h
  refine xOK_steps (fr' := (3, [some (.ref 0)], [.int (s.1 2)])) (w' := (mk s t)) (ob := true) e_14 hk_14 3 rfl rfl ?_
  cases h
  exact xu_iret e_14 hk_14 rfl rfl rfl
set_option maxRecDepth 100000 in
set_option maxHeartbeats 4000000 in
theorem m_C_flips (s t : xS) (q : (Int32 × xS)) (h : f_C_flips  s = some q) : xMet 15 [.ref 0] (mk s t) (some q.1) (mk q.2 t) := by
  refine xMet_of hk_15 rfl rfl rfl ?_
  refine xOK_eq (fr := (0, [some (.ref 0)], [])) rfl ?_
  unfold f_C_flips at h
  refine xOK_steps (fr' := (3, [some (.ref 0)], [.int (s.1 18)])) (w' := (mk s t)) (ob := true) e_15 hk_15 3 rfl rfl ?_
  cases h
  exact xu_iret e_15 hk_15 rfl rfl rfl
set_option maxRecDepth 100000 in
set_option maxHeartbeats 4000000 in
theorem m_C_retired (s t : xS) (q : (Int32 × xS)) (h : f_C_retired  s = some q) : xMet 16 [.ref 0] (mk s t) (some q.1) (mk q.2 t) := by
  refine xMet_of hk_16 rfl rfl rfl ?_
  refine xOK_eq (fr := (0, [some (.ref 0)], [])) rfl ?_
  unfold f_C_retired at h
  refine xOK_steps (fr' := (8, [some (.ref 0)], [.int ((s.1 19) + (s.1 9))])) (w' := (mk s t)) (ob := true) e_16 hk_16 8 rfl rfl ?_
  cases h
  exact xu_iret e_16 hk_16 rfl rfl rfl
set_option maxRecDepth 100000 in
set_option maxHeartbeats 4000000 in
theorem m_C_section (s t : xS) (q : (Int32 × xS)) (h : f_C_section  s = some q) : xMet 17 [.ref 0] (mk s t) (some q.1) (mk q.2 t) := by
  refine xMet_of hk_17 rfl rfl rfl ?_
  refine xOK_eq (fr := (0, [some (.ref 0)], [])) rfl ?_
  unfold f_C_section at h
  refine xOK_steps (fr' := (23, [some (.ref 0)], [.int ((((s.1 7) + ((32 : Int32) * (s.1 10))) + ((256 : Int32) * (s.1 11))) + ((2048 : Int32) * (s.1 3)))])) (w' := (mk s t)) (ob := true) e_17 hk_17 23 rfl rfl ?_
  cases h
  exact xu_iret e_17 hk_17 rfl rfl rfl
end
section
set_option maxRecDepth 100000 in
set_option maxHeartbeats 4000000 in
theorem t_M_framNow_24 (t : xS) (q : (Int32 × xS)) (y0 : Int32) (s : xS) (h : f_M_framNow_24 y0 s = some q) : xOK 105 none (xEnd 105 (some q.1) (mk t q.2)) (14, [none, none], [.int y0]) (mk t s) 0 0 := by
  unfold f_M_framNow_24 at h
  cases h
  exact xu_iret e_105 hk_105 rfl rfl rfl
set_option maxRecDepth 100000 in
set_option maxHeartbeats 4000000 in
theorem m_M_framNow (x1 : Int32) (s t : xS) (q : (Int32 × xS)) (h : f_M_framNow x1 s = some q) : xMet 105 [.ref 27, .int x1] (mk t s) (some q.1) (mk t q.2) := by
  refine xMet_of hk_105 rfl rfl rfl ?_
  refine xOK_eq (fr := (0, [some (.ref 27), some (.int x1)], [])) rfl ?_
  unfold f_M_framNow at h
  by_cases o1 : xin x1 128 = true
  case neg => have h := xif_neg o1 h; cases h
  have h := xif_pos o1 h
  refine xOK_steps (fr' := (4, [some (.ref 27), some (.int x1)], [.int ((s.2 4) (x1).toNatClampNeg)])) (w' := (mk t s)) (ob := xin x1 128 && (true)) e_105 hk_105 4 rfl (xand o1 rfl) ?_
  refine xu_if_le e_105 hk_105 rfl (fun c2 => ?_) (fun c2 => ?_)
  · have h := xif_pos c2 h
    by_cases o3 : xin x1 128 = true
    case neg => have h := xif_neg o3 h; cases h
    have h := xif_pos o3 h
    refine xOK_steps (fr' := (14, [some (.ref 27), some (.int x1)], [.int ((s.2 2) (x1).toNatClampNeg)])) (w' := (mk t s)) (ob := xin x1 128 && (true)) e_105 hk_105 4 rfl (xand o3 rfl) ?_
    refine xOK_fg [0, 1] ?_
    exact t_M_framNow_24 t q _ _ h
  · have h := xif_neg c2 h
    by_cases o4 : xin x1 128 = true
    case neg => have h := xif_neg o4 h; cases h
    have h := xif_pos o4 h
    refine xOK_steps (fr' := (14, [some (.ref 27), some (.int x1)], [.int ((s.2 5) (x1).toNatClampNeg)])) (w' := (mk t s)) (ob := xin x1 128 && (true)) e_105 hk_105 5 rfl (xand o4 rfl) ?_
    refine xOK_fg [0, 1] ?_
    exact t_M_framNow_24 t q _ _ h
set_option maxRecDepth 100000 in
set_option maxHeartbeats 4000000 in
theorem t_M_plain_76 (t : xS) (q : (Int32 × xS)) (y0 : Int32) (s : xS) (h : f_M_plain_76 y0 s = some q) : xOK 106 none (xEnd 106 (some q.1) (mk t q.2)) (44, [none, none, none], [.int y0]) (mk t s) 0 0 := by
  unfold f_M_plain_76 at h
  cases h
  exact xu_iret e_106 hk_106 rfl rfl rfl
set_option maxRecDepth 100000 in
set_option maxHeartbeats 4000000 in
theorem t_M_plain_46 (t : xS) (q : (Int32 × xS)) (x2 y1 y2 : Int32) (s : xS) (h : f_M_plain_46 x2 y1 y2 s = some q) : xOK 106 none (xEnd 106 (some q.1) (mk t q.2)) (26, [some (.ref 27), none, some (.int x2)], [.int y2, .int y1, .ref 31]) (mk t s) 0 0 := by
  unfold f_M_plain_46 at h
  by_cases o1 : xin y1 128 = true
  case neg => have h := xif_neg o1 h; cases h
  have h := xif_pos o1 h
  refine xOK_steps (fr' := (29, [some (.ref 27), none, some (.int x2)], [.int x2, .ref 27])) (w' := (mk t (xsa s 3 (y1).toNatClampNeg y2))) (ob := xin y1 128 && (true)) e_106 hk_106 3 rfl (xand o1 rfl) ?_
  obtain ⟨q2, e3, h⟩ := Option.bind_eq_some_iff.mp h
  refine xu_callv (q := 27) (r := (some q2.1)) (av := [.int x2]) (st := []) (w1 := (mk t q2.2)) e_106 hk_106 rfl (m_M_framNow _ _ _ _ e3) rfl rfl rfl rfl rfl ?_
  cases h
  exact xu_iret e_106 hk_106 rfl rfl rfl
set_option maxRecDepth 100000 in
set_option maxHeartbeats 4000000 in
theorem t_M_plain_40 (t : xS) (q : (Int32 × xS)) (x2 y1 : Int32) (s : xS) (h : f_M_plain_40 x2 y1 s = some q) : xOK 106 none (xEnd 106 (some q.1) (mk t q.2)) (22, [some (.ref 27), none, some (.int x2)], [.int y1, .ref 31]) (mk t s) 0 0 := by
  unfold f_M_plain_40 at h
  by_cases o4 : xin x2 128 = true
  case neg => have h := xif_neg o4 h; cases h
  have h := xif_pos o4 h
  refine xOK_steps (fr' := (26, [some (.ref 27), none, some (.int x2)], [.int ((s.2 3) (x2).toNatClampNeg), .int y1, .ref 31])) (w' := (mk t s)) (ob := xin x2 128 && (true)) e_106 hk_106 4 rfl (xand o4 rfl) ?_
  exact t_M_plain_46 t q _ _ _ _ h
set_option maxRecDepth 100000 in
set_option maxHeartbeats 4000000 in
theorem m_M_plain (x1 : Int32) (s t : xS) (q : (Int32 × xS)) (h : f_M_plain x1 s = some q) : xMet 106 [.ref 27, .int x1] (mk t s) (some q.1) (mk t q.2) := by
  refine xMet_of hk_106 rfl rfl rfl ?_
  refine xOK_eq (fr := (0, [some (.ref 27), some (.int x1), none], [])) rfl ?_
  unfold f_M_plain at h
  refine xOK_steps (fr' := (1, [some (.ref 27), some (.int x1), none], [.int x1])) (w' := (mk t s)) (ob := true) e_106 hk_106 1 rfl rfl ?_
  obtain ⟨q5, e6, h⟩ := Option.bind_eq_some_iff.mp h
  refine xu_calls (r := (some q5)) (av := [.int x1]) (st := []) (w1 := (mk t s)) e_106 hk_106 rfl rfl (m_M_inFram _ _ _ _ e6) rfl rfl rfl rfl ?_
  refine xu_if_eq e_106 hk_106 rfl (fun c7 => ?_) (fun c7 => ?_)
  · have h := xif_pos c7 h
    refine xOK_steps (fr' := (32, [some (.ref 27), some (.int x1), none], [.int x1])) (w' := (mk t s)) (ob := true) e_106 hk_106 1 rfl rfl ?_
    obtain ⟨q8, e9, h⟩ := Option.bind_eq_some_iff.mp h
    refine xu_calls (r := (some q8)) (av := [.int x1]) (st := []) (w1 := (mk t s)) e_106 hk_106 rfl rfl (m_M_inSram _ _ _ _ e9) rfl rfl rfl rfl ?_
    refine xu_if_eq e_106 hk_106 rfl (fun c10 => ?_) (fun c10 => ?_)
    · have h := xif_pos c10 h
      refine xOK_steps (fr' := (44, [some (.ref 27), some (.int x1), none], [.int (0 : Int32)])) (w' := (mk t s)) (ob := true) e_106 hk_106 1 rfl rfl ?_
      refine xOK_fg [0, 1] ?_
      exact t_M_plain_76 t q _ _ h
    · have h := xif_neg c10 h
      by_cases o11 : xin ((x1 - (512 : Int32)) / (2 : Int32)) 16 = true
      case neg => have h := xif_neg o11 h; cases h
      have h := xif_pos o11 h
      refine xOK_steps (fr' := (44, [some (.ref 27), some (.int x1), none], [.int ((s.2 1) ((x1 - (512 : Int32)) / (2 : Int32)).toNatClampNeg)])) (w' := (mk t s)) (ob := xin ((x1 - (512 : Int32)) / (2 : Int32)) 16 && (true)) e_106 hk_106 9 rfl (xand o11 rfl) ?_
      refine xOK_fg [0, 1] ?_
      exact t_M_plain_76 t q _ _ h
  · have h := xif_neg c7 h
    refine xOK_steps (fr' := (14, [some (.ref 27), some (.int x1), some (.int ((x1 - (1024 : Int32)) / (2 : Int32)))], [.int (s.1 15), .int ((x1 - (1024 : Int32)) / (2 : Int32)), .ref 31])) (w' := (mk t s)) (ob := true) e_106 hk_106 11 rfl rfl ?_
    refine xu_if_eq e_106 hk_106 rfl (fun c12 => ?_) (fun c12 => ?_)
    · have h := xif_pos c12 h
      refine xOK_fg [1] ?_
      exact t_M_plain_40 t q _ _ _ h
    · have h := xif_neg c12 h
      by_cases o13 : xin ((x1 - (1024 : Int32)) / (2 : Int32)) 128 = true
      case neg => have h := xif_neg o13 h; cases h
      have h := xif_pos o13 h
      refine xOK_steps (fr' := (19, [some (.ref 27), some (.int x1), some (.int ((x1 - (1024 : Int32)) / (2 : Int32)))], [.int ((s.2 3) ((x1 - (1024 : Int32)) / (2 : Int32)).toNatClampNeg), .int ((x1 - (1024 : Int32)) / (2 : Int32)), .ref 31])) (w' := (mk t s)) (ob := xin ((x1 - (1024 : Int32)) / (2 : Int32)) 128 && (true)) e_106 hk_106 4 rfl (xand o13 rfl) ?_
      refine xu_if_ne e_106 hk_106 rfl (fun c14 => ?_) (fun c14 => ?_)
      · have h := xif_neg c14 h
        refine xOK_fg [1] ?_
        exact t_M_plain_40 t q _ _ _ h
      · have h := xif_pos c14 h
        refine xOK_steps (fr' := (26, [some (.ref 27), some (.int x1), some (.int ((x1 - (1024 : Int32)) / (2 : Int32)))], [.int (1 : Int32), .int ((x1 - (1024 : Int32)) / (2 : Int32)), .ref 31])) (w' := (mk t s)) (ob := true) e_106 hk_106 2 rfl rfl ?_
        refine xOK_fg [1] ?_
        exact t_M_plain_46 t q _ _ _ _ h
set_option maxRecDepth 100000 in
set_option maxHeartbeats 4000000 in
theorem m_M_fetch (s t : xS) (q : (Int32 × xS)) (h : f_M_fetch  s = some q) : xMet 112 [.ref 27] (mk t s) (some q.1) (mk t q.2) := by
  refine xMet_of hk_112 rfl rfl rfl ?_
  refine xOK_eq (fr := (0, [some (.ref 27), none], [])) rfl ?_
  unfold f_M_fetch at h
  refine xOK_steps (fr' := (5, [some (.ref 27), none], [.int ((s.2 0) 0), .ref 27])) (w' := (mk t s)) (ob := true) e_112 hk_112 5 rfl rfl ?_
  obtain ⟨q1, e2, h⟩ := Option.bind_eq_some_iff.mp h
  refine xu_callv (q := 27) (r := (some q1.1)) (av := [.int ((s.2 0) 0)]) (st := []) (w1 := (mk t q1.2)) e_112 hk_112 rfl (m_M_plain _ _ _ _ e2) rfl rfl rfl rfl rfl ?_
  refine xOK_steps (fr' := (20, [some (.ref 27), some (.int q1.1)], [.int q1.1])) (w' := (mk t (xsa q1.2 0 0 (xrem (((q1.2.2 0) 0) + (2 : Int32)) (65536 : Int32))))) (ob := true) e_112 hk_112 14 rfl rfl ?_
  cases h
  exact xu_iret e_112 hk_112 rfl rfl rfl
set_option maxRecDepth 100000 in
set_option maxHeartbeats 4000000 in
theorem t_M_fresh_2 (t : xS) (q : xS) : ∀ (n : Nat), ∀ (x1 : Int32) (s : xS), f_M_fresh_2 n x1 s = some q → xOK 99 none (xEnd 99 none (mk t q)) (2, [some (.ref 27), some (.int x1)], []) (mk t s) 0 0 := by
  intro n
  induction n with
  | zero => intro x1 s h; cases h
  | succ n ih =>
    intro x1 s h
    unfold f_M_fresh_2 at h
    refine xOK_steps (fr' := (4, [some (.ref 27), some (.int x1)], [.int (128 : Int32), .int x1])) (w' := (mk t s)) (ob := true) e_99 hk_99 2 rfl rfl ?_
    refine xu_icmp_ge e_99 hk_99 rfl (fun c1 => ?_) (fun c1 => ?_)
    · have h := xif_pos c1 h
      refine xOK_steps (fr' := (29, [some (.ref 27), some (.int x1)], [])) (w' := (mk t (xsc (xsc (xsc (xsc s 0 (0 : Int32)) 1 (0 : Int32)) 2 (0 : Int32)) 4 (0 : Int32)))) (ob := true) e_99 hk_99 12 rfl rfl ?_
      cases h
      exact xu_vret e_99 hk_99 rfl rfl
    · have h := xif_neg c1 h
      by_cases o2 : xin x1 128 = true
      case neg => have h := xif_neg o2 h; cases h
      have h := xif_pos o2 h
      by_cases o3 : xin x1 128 = true
      case neg => have h := xif_neg o3 h; cases h
      have h := xif_pos o3 h
      refine xOK_steps (fr' := (2, [some (.ref 27), some (.int (x1 + (1 : Int32)))], [])) (w' := (mk t (xsa (xsa s 3 (x1).toNatClampNeg (0 : Int32)) 4 (x1).toNatClampNeg (0 : Int32)))) (ob := xin x1 128 && (xin x1 128 && (true))) e_99 hk_99 12 rfl (xand o2 (xand o3 rfl)) ?_
      exact ih _ _ h
set_option maxRecDepth 100000 in
set_option maxHeartbeats 4000000 in
theorem m_M_fresh (s t : xS) (q : xS) (h : f_M_fresh  s = some q) : xMet 99 [.ref 27] (mk t s) none (mk t q) := by
  refine xMet_of hk_99 rfl rfl rfl ?_
  refine xOK_eq (fr := (0, [some (.ref 27), none], [])) rfl ?_
  unfold f_M_fresh at h
  refine xOK_steps (fr' := (2, [some (.ref 27), some (.int (0 : Int32))], [])) (w' := (mk t s)) (ob := true) e_99 hk_99 2 rfl rfl ?_
  exact t_M_fresh_2 t q _ _ _ h
set_option maxRecDepth 100000 in
set_option maxHeartbeats 4000000 in
theorem m_M_off (s t : xS) (q : xS) (h : f_M_off  s = some q) : xMet 98 [.ref 27] (mk t s) none (mk t q) := by
  refine xMet_of hk_98 rfl rfl rfl ?_
  refine xOK_eq (fr := (0, [some (.ref 27)], [])) rfl ?_
  unfold f_M_off at h
  refine xOK_steps (fr' := (16, [some (.ref 27)], [.ref 27])) (w' := (mk t (xsc (xsc (xsc (xsc (xsc s 15 (0 : Int32)) 14 (2 : Int32)) 16 (0 : Int32)) 17 (0 : Int32)) 3 (0 : Int32)))) (ob := true) e_98 hk_98 16 rfl rfl ?_
  obtain ⟨q1, e2, h⟩ := Option.bind_eq_some_iff.mp h
  refine xu_callv (q := 27) (r := none) (av := []) (st := []) (w1 := (mk t q1)) e_98 hk_98 rfl (m_M_fresh  _ _ _ e2) rfl rfl rfl rfl rfl ?_
  cases h
  exact xu_vret e_98 hk_98 rfl rfl
set_option maxRecDepth 100000 in
set_option maxHeartbeats 4000000 in
theorem t_M_write_41 (t : xS) (q : (Int32 × xS)) (y1 : Int32) (s : xS) (h : f_M_write_41 y1 s = some q) : xOK 100 none (xEnd 100 (some q.1) (mk t q.2)) (23, [some (.ref 27)], [.int y1, .ref 27]) (mk t s) 0 0 := by
  unfold f_M_write_41 at h
  refine xOK_steps (fr' := (31, [some (.ref 27)], [.int (1 : Int32)])) (w' := (mk t (xsc (xsc s 16 y1) 18 ((s.1 18) + (1 : Int32))))) (ob := true) e_100 hk_100 8 rfl rfl ?_
  cases h
  exact xu_iret e_100 hk_100 rfl rfl rfl
set_option maxRecDepth 100000 in
set_option maxHeartbeats 4000000 in
theorem m_M_write (s t : xS) (q : (Int32 × xS)) (h : f_M_write  s = some q) : xMet 100 [.ref 27] (mk t s) (some q.1) (mk t q.2) := by
  refine xMet_of hk_100 rfl rfl rfl ?_
  refine xOK_eq (fr := (0, [some (.ref 27)], [])) rfl ?_
  unfold f_M_write at h
  refine xOK_steps (fr' := (2, [some (.ref 27)], [.int (s.1 15)])) (w' := (mk t s)) (ob := true) e_100 hk_100 2 rfl rfl ?_
  refine xu_if_ne e_100 hk_100 rfl (fun c1 => ?_) (fun c1 => ?_)
  · have h := xif_neg c1 h
    refine xOK_steps (fr' := (8, [some (.ref 27)], [.int (1 : Int32), .int (s.1 16)])) (w' := (mk t s)) (ob := true) e_100 hk_100 3 rfl rfl ?_
    refine xu_icmp_ne e_100 hk_100 rfl (fun c2 => ?_) (fun c2 => ?_)
    · have h := xif_neg c2 h
      refine xOK_steps (fr' := (16, [some (.ref 27)], [.int (s.1 16), .ref 27])) (w' := (mk t s)) (ob := true) e_100 hk_100 3 rfl rfl ?_
      refine xu_if_le e_100 hk_100 rfl (fun c3 => ?_) (fun c3 => ?_)
      · have h := xif_pos c3 h
        refine xOK_steps (fr' := (23, [some (.ref 27)], [.int (0 : Int32), .ref 27])) (w' := (mk t s)) (ob := true) e_100 hk_100 1 rfl rfl ?_
        exact t_M_write_41 t q _ _ h
      · have h := xif_neg c3 h
        refine xOK_steps (fr' := (23, [some (.ref 27)], [.int ((s.1 16) - (1 : Int32)), .ref 27])) (w' := (mk t s)) (ob := true) e_100 hk_100 5 rfl rfl ?_
        exact t_M_write_41 t q _ _ h
    · have h := xif_pos c2 h
      refine xOK_steps (fr' := (10, [some (.ref 27)], [.ref 27])) (w' := (mk t s)) (ob := true) e_100 hk_100 1 rfl rfl ?_
      obtain ⟨q4, e5, h⟩ := Option.bind_eq_some_iff.mp h
      refine xu_callv (q := 27) (r := none) (av := []) (st := []) (w1 := (mk t q4)) e_100 hk_100 rfl (m_M_off  _ _ _ e5) rfl rfl rfl rfl rfl ?_
      refine xOK_steps (fr' := (12, [some (.ref 27)], [.int (0 : Int32)])) (w' := (mk t q4)) (ob := true) e_100 hk_100 1 rfl rfl ?_
      cases h
      exact xu_iret e_100 hk_100 rfl rfl rfl
  · have h := xif_pos c1 h
    refine xOK_steps (fr' := (4, [some (.ref 27)], [.int (0 : Int32)])) (w' := (mk t s)) (ob := true) e_100 hk_100 1 rfl rfl ?_
    cases h
    exact xu_iret e_100 hk_100 rfl rfl rfl
set_option maxRecDepth 100000 in
set_option maxHeartbeats 4000000 in
theorem t_M_keep_68 (t : xS) (q : xS) (s : xS) (h : f_M_keep_68  s = some q) : xOK 111 none (xEnd 111 none (mk t q)) (42, [none, none, none], []) (mk t s) 0 0 := by
  unfold f_M_keep_68 at h
  cases h
  exact xu_vret e_111 hk_111 rfl rfl
set_option maxRecDepth 100000 in
set_option maxHeartbeats 4000000 in
theorem t_M_keep_39 (t : xS) (q : xS) (x1 x2 : Int32) (s : xS) (h : f_M_keep_39 x1 x2 s = some q) : xOK 111 none (xEnd 111 none (mk t q)) (23, [some (.ref 27), some (.int x1), some (.int x2)], []) (mk t s) 0 0 := by
  unfold f_M_keep_39 at h
  by_cases o1 : xin x1 128 = true
  case neg => have h := xif_neg o1 h; cases h
  have h := xif_pos o1 h
  refine xOK_steps (fr' := (28, [some (.ref 27), some (.int x1), some (.int x2)], [])) (w' := (mk t (xsa s 5 (x1).toNatClampNeg x2))) (ob := xin x1 128 && (true)) e_111 hk_111 5 rfl (xand o1 rfl) ?_
  cases h
  exact xu_vret e_111 hk_111 rfl rfl
set_option maxRecDepth 100000 in
set_option maxHeartbeats 4000000 in
theorem m_M_keep (x1 x2 : Int32) (s t : xS) (q : xS) (h : f_M_keep x1 x2 s = some q) : xMet 111 [.ref 27, .int x1, .int x2] (mk t s) none (mk t q) := by
  refine xMet_of hk_111 rfl rfl rfl ?_
  refine xOK_eq (fr := (0, [some (.ref 27), some (.int x1), some (.int x2)], [])) rfl ?_
  unfold f_M_keep at h
  by_cases o2 : xin x1 128 = true
  case neg => have h := xif_neg o2 h; cases h
  have h := xif_pos o2 h
  refine xOK_steps (fr' := (5, [some (.ref 27), some (.int x1), some (.int x2)], [.int (1 : Int32), .int ((s.2 3) (x1).toNatClampNeg)])) (w' := (mk t s)) (ob := xin x1 128 && (true)) e_111 hk_111 5 rfl (xand o2 rfl) ?_
  refine xu_icmp_ne e_111 hk_111 rfl (fun c3 => ?_) (fun c3 => ?_)
  · have h := xif_neg c3 h
    by_cases o4 : xin x1 128 = true
    case neg => have h := xif_neg o4 h; cases h
    have h := xif_pos o4 h
    refine xOK_steps (fr' := (35, [some (.ref 27), some (.int x1), some (.int x2)], [.ref 27])) (w' := (mk t (xsa s 3 (x1).toNatClampNeg (2 : Int32)))) (ob := xin x1 128 && (true)) e_111 hk_111 6 rfl (xand o4 rfl) ?_
    obtain ⟨q5, e6, h⟩ := Option.bind_eq_some_iff.mp h
    refine xu_callv (q := 27) (r := (some q5.1)) (av := []) (st := []) (w1 := (mk t q5.2)) e_111 hk_111 rfl (m_M_write  _ _ _ e6) rfl rfl rfl rfl rfl ?_
    refine xu_if_eq e_111 hk_111 rfl (fun c7 => ?_) (fun c7 => ?_)
    · have h := xif_pos c7 h
      refine xOK_fg [0, 1, 2] ?_
      exact t_M_keep_68 t q  _ h
    · have h := xif_neg c7 h
      by_cases o8 : xin x1 128 = true
      case neg => have h := xif_neg o8 h; cases h
      have h := xif_pos o8 h
      refine xOK_steps (fr' := (42, [some (.ref 27), some (.int x1), some (.int x2)], [])) (w' := (mk t (xsa q5.2 2 (x1).toNatClampNeg x2))) (ob := xin x1 128 && (true)) e_111 hk_111 5 rfl (xand o8 rfl) ?_
      refine xOK_fg [0, 1, 2] ?_
      exact t_M_keep_68 t q  _ h
  · have h := xif_pos c3 h
    by_cases o9 : xin x1 128 = true
    case neg => have h := xif_neg o9 h; cases h
    have h := xif_pos o9 h
    refine xOK_steps (fr' := (10, [some (.ref 27), some (.int x1), some (.int x2)], [.int ((s.2 4) (x1).toNatClampNeg)])) (w' := (mk t s)) (ob := xin x1 128 && (true)) e_111 hk_111 4 rfl (xand o9 rfl) ?_
    refine xu_if_ne e_111 hk_111 rfl (fun c10 => ?_) (fun c10 => ?_)
    · have h := xif_neg c10 h
      exact t_M_keep_39 t q _ _ _ h
    · have h := xif_pos c10 h
      by_cases o11 : xin x1 128 = true
      case neg => have h := xif_neg o11 h; cases h
      have h := xif_pos o11 h
      refine xOK_steps (fr' := (23, [some (.ref 27), some (.int x1), some (.int x2)], [])) (w' := (mk t (xsa (xsc s 0 ((s.1 0) + (1 : Int32))) 4 (x1).toNatClampNeg ((s.1 0) + (1 : Int32))))) (ob := xin x1 128 && (true)) e_111 hk_111 12 rfl (xand o11 rfl) ?_
      exact t_M_keep_39 t q _ _ _ h
set_option maxRecDepth 100000 in
set_option maxHeartbeats 4000000 in
theorem t_M_store_162 (t : xS) (q : xS) (s : xS) (h : f_M_store_162  s = some q) : xOK 110 none (xEnd 110 none (mk t q)) (87, [none, none, none, none, none, none], []) (mk t s) 0 0 := by
  unfold f_M_store_162 at h
  cases h
  exact xu_vret e_110 hk_110 rfl rfl
set_option maxRecDepth 100000 in
set_option maxHeartbeats 4000000 in
theorem t_M_store_157 (t : xS) (q : xS) (s : xS) (h : f_M_store_157  s = some q) : xOK 110 none (xEnd 110 none (mk t q)) (84, [some (.ref 27), none, none, none, none, none], []) (mk t s) 0 0 := by
  unfold f_M_store_157 at h
  refine xOK_steps (fr' := (87, [some (.ref 27), none, none, none, none, none], [])) (w' := (mk t (xsc s 4 (1 : Int32)))) (ob := true) e_110 hk_110 3 rfl rfl ?_
  refine xOK_fg [0] ?_
  exact t_M_store_162 t q  _ h
set_option maxRecDepth 100000 in
set_option maxHeartbeats 4000000 in
theorem t_M_store_107 (t : xS) (q : xS) (x2 : Int32) (s : xS) (h : f_M_store_107 x2 s = some q) : xOK 110 none (xEnd 110 none (mk t q)) (58, [some (.ref 27), none, some (.int x2), none, none, none], []) (mk t s) 0 0 := by
  unfold f_M_store_107 at h
  refine xOK_steps (fr' := (64, [some (.ref 27), none, some (.int x2), none, none, none], [.int (200 : Int32), .int ((s.1 13) + (s.1 1))])) (w' := (mk t s)) (ob := true) e_110 hk_110 6 rfl rfl ?_
  refine xu_icmp_ge e_110 hk_110 rfl (fun c1 => ?_) (fun c1 => ?_)
  · have h := xif_pos c1 h
    refine xOK_fg [0, 2] ?_
    exact t_M_store_162 t q  _ h
  · have h := xif_neg c1 h
    by_cases o2 : xin (s.1 1) 8 = true
    case neg => have h := xif_neg o2 h; cases h
    have h := xif_pos o2 h
    refine xOK_steps (fr' := (87, [some (.ref 27), none, some (.int x2), none, none, none], [])) (w' := (mk t (xsc (xsa s 6 (s.1 1).toNatClampNeg x2) 1 ((s.1 1) + (1 : Int32))))) (ob := xin (s.1 1) 8 && (true)) e_110 hk_110 13 rfl (xand o2 rfl) ?_
    refine xOK_fg [0, 2] ?_
    exact t_M_store_162 t q  _ h
set_option maxRecDepth 100000 in
set_option maxHeartbeats 4000000 in
theorem t_M_store_76 (t : xS) (q : xS) (x1 x2 x3 x4 y0 : Int32) (s : xS) (h : f_M_store_76 x1 x2 x3 x4 y0 s = some q) : xOK 110 none (xEnd 110 none (mk t q)) (42, [some (.ref 27), some (.int x1), some (.int x2), some (.int x3), some (.int x4), none], [.int y0]) (mk t s) 0 0 := by
  unfold f_M_store_76 at h
  refine xOK_steps (fr' := (49, [some (.ref 27), some (.int x1), some (.int x2), some (.int x3), some (.int x4), some (.int y0)], [.int x3, .int x2, .int x1, .int y0, .int x4, .ref 27])) (w' := (mk t s)) (ob := true) e_110 hk_110 7 rfl rfl ?_
  obtain ⟨q3, e4, h⟩ := Option.bind_eq_some_iff.mp h
  refine xu_calls (r := (some q3)) (av := [.int y0, .int x1, .int x2, .int x3]) (st := [.int x4, .ref 27]) (w1 := (mk t s)) e_110 hk_110 rfl rfl (m_M_merged _ _ _ _ _ _ _ e4) rfl rfl rfl rfl ?_
  obtain ⟨q5, e6, h⟩ := Option.bind_eq_some_iff.mp h
  refine xu_callv (q := 27) (r := none) (av := [.int x4, .int q3]) (st := []) (w1 := (mk t q5)) e_110 hk_110 rfl (m_M_keep _ _ _ _ _ e6) rfl rfl rfl rfl rfl ?_
  refine xOK_steps (fr' := (87, [some (.ref 27), some (.int x1), some (.int x2), some (.int x3), some (.int x4), some (.int y0)], [])) (w' := (mk t q5)) (ob := true) e_110 hk_110 1 rfl rfl ?_
  refine xOK_fg [0, 1, 2, 3, 4, 5] ?_
  exact t_M_store_162 t q  _ h
set_option maxRecDepth 100000 in
set_option maxHeartbeats 4000000 in
theorem m_M_store (x1 x2 x3 : Int32) (s t : xS) (q : xS) (h : f_M_store x1 x2 x3 s = some q) : xMet 110 [.ref 27, .int x1, .int x2, .int x3] (mk t s) none (mk t q) := by
  refine xMet_of hk_110 rfl rfl rfl ?_
  refine xOK_eq (fr := (0, [some (.ref 27), some (.int x1), some (.int x2), some (.int x3), none, none], [])) rfl ?_
  unfold f_M_store at h
  refine xOK_steps (fr' := (2, [some (.ref 27), some (.int x1), some (.int x2), some (.int x3), none, none], [.int (s.1 15)])) (w' := (mk t s)) (ob := true) e_110 hk_110 2 rfl rfl ?_
  refine xu_if_ne e_110 hk_110 rfl (fun c7 => ?_) (fun c7 => ?_)
  · have h := xif_neg c7 h
    refine xOK_steps (fr' := (5, [some (.ref 27), some (.int x1), some (.int x2), some (.int x3), none, none], [.int x1])) (w' := (mk t s)) (ob := true) e_110 hk_110 1 rfl rfl ?_
    obtain ⟨q8, e9, h⟩ := Option.bind_eq_some_iff.mp h
    refine xu_calls (r := (some q8)) (av := [.int x1]) (st := []) (w1 := (mk t s)) e_110 hk_110 rfl rfl (m_M_inSram _ _ _ _ e9) rfl rfl rfl rfl ?_
    refine xu_if_eq e_110 hk_110 rfl (fun c10 => ?_) (fun c10 => ?_)
    · have h := xif_pos c10 h
      refine xOK_steps (fr' := (27, [some (.ref 27), some (.int x1), some (.int x2), some (.int x3), none, none], [.int x1])) (w' := (mk t s)) (ob := true) e_110 hk_110 1 rfl rfl ?_
      obtain ⟨q11, e12, h⟩ := Option.bind_eq_some_iff.mp h
      refine xu_calls (r := (some q11)) (av := [.int x1]) (st := []) (w1 := (mk t s)) e_110 hk_110 rfl rfl (m_M_inFram _ _ _ _ e12) rfl rfl rfl rfl ?_
      refine xu_if_eq e_110 hk_110 rfl (fun c13 => ?_) (fun c13 => ?_)
      · have h := xif_pos c13 h
        refine xOK_steps (fr' := (54, [some (.ref 27), some (.int x1), some (.int x2), some (.int x3), none, none], [.int (18 : Int32), .int x1])) (w' := (mk t s)) (ob := true) e_110 hk_110 2 rfl rfl ?_
        refine xu_icmp_eq e_110 hk_110 rfl (fun c14 => ?_) (fun c14 => ?_)
        · have h := xif_pos c14 h
          refine xOK_fg [1, 3] ?_
          exact t_M_store_107 t q _ _ h
        · have h := xif_neg c14 h
          refine xOK_steps (fr' := (57, [some (.ref 27), some (.int x1), some (.int x2), some (.int x3), none, none], [.int (19 : Int32), .int x1])) (w' := (mk t s)) (ob := true) e_110 hk_110 2 rfl rfl ?_
          refine xu_icmp_ne e_110 hk_110 rfl (fun c15 => ?_) (fun c15 => ?_)
          · have h := xif_neg c15 h
            refine xOK_steps (fr' := (80, [some (.ref 27), some (.int x1), some (.int x2), some (.int x3), none, none], [.int (20 : Int32), .int x1])) (w' := (mk t s)) (ob := true) e_110 hk_110 2 rfl rfl ?_
            refine xu_icmp_eq e_110 hk_110 rfl (fun c16 => ?_) (fun c16 => ?_)
            · have h := xif_pos c16 h
              refine xOK_fg [1, 2, 3] ?_
              exact t_M_store_157 t q  _ h
            · have h := xif_neg c16 h
              refine xOK_steps (fr' := (83, [some (.ref 27), some (.int x1), some (.int x2), some (.int x3), none, none], [.int (21 : Int32), .int x1])) (w' := (mk t s)) (ob := true) e_110 hk_110 2 rfl rfl ?_
              refine xu_icmp_ne e_110 hk_110 rfl (fun c17 => ?_) (fun c17 => ?_)
              · have h := xif_neg c17 h
                refine xOK_fg [0, 1, 2, 3] ?_
                exact t_M_store_162 t q  _ h
              · have h := xif_pos c17 h
                refine xOK_fg [1, 2, 3] ?_
                exact t_M_store_157 t q  _ h
          · have h := xif_pos c15 h
            refine xOK_fg [1, 3] ?_
            exact t_M_store_107 t q _ _ h
      · have h := xif_neg c13 h
        refine xOK_steps (fr' := (36, [some (.ref 27), some (.int x1), some (.int x2), some (.int x3), some (.int ((x1 - (1024 : Int32)) / (2 : Int32))), none], [.int x3])) (w' := (mk t s)) (ob := true) e_110 hk_110 7 rfl rfl ?_
        refine xu_if_eq e_110 hk_110 rfl (fun c18 => ?_) (fun c18 => ?_)
        · have h := xif_pos c18 h
          refine xOK_steps (fr' := (42, [some (.ref 27), some (.int x1), some (.int x2), some (.int x3), some (.int ((x1 - (1024 : Int32)) / (2 : Int32))), none], [.int (0 : Int32)])) (w' := (mk t s)) (ob := true) e_110 hk_110 1 rfl rfl ?_
          exact t_M_store_76 t q _ _ _ _ _ _ h
        · have h := xif_neg c18 h
          refine xOK_steps (fr' := (39, [some (.ref 27), some (.int x1), some (.int x2), some (.int x3), some (.int ((x1 - (1024 : Int32)) / (2 : Int32))), none], [.int x1, .ref 27])) (w' := (mk t s)) (ob := true) e_110 hk_110 2 rfl rfl ?_
          obtain ⟨q19, e20, h⟩ := Option.bind_eq_some_iff.mp h
          refine xu_callv (q := 27) (r := (some q19.1)) (av := [.int x1]) (st := []) (w1 := (mk t q19.2)) e_110 hk_110 rfl (m_M_plain _ _ _ _ e20) rfl rfl rfl rfl rfl ?_
          refine xOK_steps (fr' := (42, [some (.ref 27), some (.int x1), some (.int x2), some (.int x3), some (.int ((x1 - (1024 : Int32)) / (2 : Int32))), none], [.int q19.1])) (w' := (mk t q19.2)) (ob := true) e_110 hk_110 1 rfl rfl ?_
          exact t_M_store_76 t q _ _ _ _ _ _ h
    · have h := xif_neg c10 h
      by_cases o21 : xin ((x1 - (512 : Int32)) / (2 : Int32)) 16 = true
      case neg => have h := xif_neg o21 h; cases h
      have h := xif_pos o21 h
      refine xOK_steps (fr' := (23, [some (.ref 27), some (.int x1), some (.int x2), some (.int x3), some (.int ((x1 - (512 : Int32)) / (2 : Int32))), none], [.int x3, .int x2, .int x1, .int ((s.2 1) ((x1 - (512 : Int32)) / (2 : Int32)).toNatClampNeg), .int ((x1 - (512 : Int32)) / (2 : Int32)), .ref 29])) (w' := (mk t s)) (ob := xin ((x1 - (512 : Int32)) / (2 : Int32)) 16 && (true)) e_110 hk_110 16 rfl (xand o21 rfl) ?_
      obtain ⟨q22, e23, h⟩ := Option.bind_eq_some_iff.mp h
      refine xu_calls (r := (some q22)) (av := [.int ((s.2 1) ((x1 - (512 : Int32)) / (2 : Int32)).toNatClampNeg), .int x1, .int x2, .int x3]) (st := [.int ((x1 - (512 : Int32)) / (2 : Int32)), .ref 29]) (w1 := (mk t s)) e_110 hk_110 rfl rfl (m_M_merged _ _ _ _ _ _ _ e23) rfl rfl rfl rfl ?_
      by_cases o24 : xin ((x1 - (512 : Int32)) / (2 : Int32)) 16 = true
      case neg => have h := xif_neg o24 h; cases h
      have h := xif_pos o24 h
      refine xOK_steps (fr' := (87, [some (.ref 27), some (.int x1), some (.int x2), some (.int x3), some (.int ((x1 - (512 : Int32)) / (2 : Int32))), none], [])) (w' := (mk t (xsa s 1 ((x1 - (512 : Int32)) / (2 : Int32)).toNatClampNeg q22))) (ob := xin ((x1 - (512 : Int32)) / (2 : Int32)) 16 && (true)) e_110 hk_110 2 rfl (xand o24 rfl) ?_
      refine xOK_fg [0, 1, 2, 3, 4] ?_
      exact t_M_store_162 t q  _ h
  · have h := xif_pos c7 h
    cases h
    exact xu_vret e_110 hk_110 rfl rfl
set_option maxRecDepth 100000 in
set_option maxHeartbeats 4000000 in
theorem t_M_put_41 (t : xS) (q : xS) (y1 y2 : Int32) (s : xS) (h : f_M_put_41 y1 y2 s = some q) : xOK 113 none (xEnd 113 none (mk t q)) (25, [none, none, none], [.int y2, .int y1, .ref 28]) (mk t s) 0 0 := by
  unfold f_M_put_41 at h
  by_cases o1 : xin y1 16 = true
  case neg => have h := xif_neg o1 h; cases h
  have h := xif_pos o1 h
  refine xOK_steps (fr' := (26, [none, none, none], [])) (w' := (mk t (xsa s 0 (y1).toNatClampNeg y2))) (ob := xin y1 16 && (true)) e_113 hk_113 1 rfl (xand o1 rfl) ?_
  cases h
  exact xu_vret e_113 hk_113 rfl rfl
set_option maxRecDepth 100000 in
set_option maxHeartbeats 4000000 in
theorem m_M_put (x1 x2 : Int32) (s t : xS) (q : xS) (h : f_M_put x1 x2 s = some q) : xMet 113 [.ref 27, .int x1, .int x2] (mk t s) none (mk t q) := by
  refine xMet_of hk_113 rfl rfl rfl ?_
  refine xOK_eq (fr := (0, [some (.ref 27), some (.int x1), some (.int x2)], [])) rfl ?_
  unfold f_M_put at h
  refine xOK_steps (fr' := (5, [some (.ref 27), some (.int x1), some (.int x2)], [.int (2 : Int32), .int x1, .int x1, .ref 28])) (w' := (mk t s)) (ob := true) e_113 hk_113 5 rfl rfl ?_
  refine xu_icmp_ge e_113 hk_113 rfl (fun c2 => ?_) (fun c2 => ?_)
  · have h := xif_pos c2 h
    refine xOK_steps (fr' := (14, [some (.ref 27), some (.int x1), some (.int x2)], [.int (2 : Int32), .int x1, .int x1, .ref 28])) (w' := (mk t s)) (ob := true) e_113 hk_113 2 rfl rfl ?_
    refine xu_icmp_ne e_113 hk_113 rfl (fun c3 => ?_) (fun c3 => ?_)
    · have h := xif_neg c3 h
      refine xOK_steps (fr' := (21, [some (.ref 27), some (.int x1), some (.int x2)], [.int (3 : Int32), .int x1, .int x1, .ref 28])) (w' := (mk t s)) (ob := true) e_113 hk_113 2 rfl rfl ?_
      refine xu_icmp_ne e_113 hk_113 rfl (fun c4 => ?_) (fun c4 => ?_)
      · have h := xif_neg c4 h
        refine xOK_steps (fr' := (25, [some (.ref 27), some (.int x1), some (.int x2)], [.int x2, .int x1, .ref 28])) (w' := (mk t s)) (ob := true) e_113 hk_113 1 rfl rfl ?_
        refine xOK_fg [0, 1, 2] ?_
        exact t_M_put_41 t q _ _ _ h
      · have h := xif_pos c4 h
        refine xOK_steps (fr' := (25, [some (.ref 27), some (.int x1), some (.int x2)], [.int (0 : Int32), .int x1, .ref 28])) (w' := (mk t s)) (ob := true) e_113 hk_113 2 rfl rfl ?_
        refine xOK_fg [0, 1, 2] ?_
        exact t_M_put_41 t q _ _ _ h
    · have h := xif_pos c3 h
      refine xOK_steps (fr' := (25, [some (.ref 27), some (.int x1), some (.int x2)], [.int (x2 &&& (263 : Int32)), .int x1, .ref 28])) (w' := (mk t s)) (ob := true) e_113 hk_113 4 rfl rfl ?_
      refine xOK_fg [0, 1, 2] ?_
      exact t_M_put_41 t q _ _ _ h
  · have h := xif_neg c2 h
    refine xOK_steps (fr' := (25, [some (.ref 27), some (.int x1), some (.int x2)], [.int ((x2 / (2 : Int32)) * (2 : Int32)), .int x1, .ref 28])) (w' := (mk t s)) (ob := true) e_113 hk_113 6 rfl rfl ?_
    refine xOK_fg [0, 1, 2] ?_
    exact t_M_put_41 t q _ _ _ h
set_option maxRecDepth 100000 in
set_option maxHeartbeats 4000000 in
theorem t_M_back_38 (t : xS) (q : xS) (s : xS) (h : f_M_back_38  s = some q) : xOK 117 none (xEnd 117 none (mk t q)) (20, [none, none, none], []) (mk t s) 0 0 := by
  unfold f_M_back_38 at h
  cases h
  exact xu_vret e_117 hk_117 rfl rfl
set_option maxRecDepth 100000 in
set_option maxHeartbeats 4000000 in
theorem m_M_back (x1 x2 : Int32) (s t : xS) (q : xS) (h : f_M_back x1 x2 s = some q) : xMet 117 [.ref 27, .int x1, .int x2] (mk t s) none (mk t q) := by
  refine xMet_of hk_117 rfl rfl rfl ?_
  refine xOK_eq (fr := (0, [some (.ref 27), some (.int x1), some (.int x2)], [])) rfl ?_
  unfold f_M_back at h
  refine xOK_steps (fr' := (3, [some (.ref 27), some (.int x1), some (.int x2)], [.int (1 : Int32), .int (s.1 20)])) (w' := (mk t s)) (ob := true) e_117 hk_117 3 rfl rfl ?_
  refine xu_icmp_ne e_117 hk_117 rfl (fun c1 => ?_) (fun c1 => ?_)
  · have h := xif_neg c1 h
    refine xOK_steps (fr' := (13, [some (.ref 27), some (.int x1), some (.int x2)], [.int (2 : Int32), .int (s.1 20)])) (w' := (mk t s)) (ob := true) e_117 hk_117 3 rfl rfl ?_
    refine xu_icmp_ne e_117 hk_117 rfl (fun c2 => ?_) (fun c2 => ?_)
    · have h := xif_neg c2 h
      refine xOK_fg [0, 1, 2] ?_
      exact t_M_back_38 t q  _ h
    · have h := xif_pos c2 h
      refine xOK_steps (fr' := (19, [some (.ref 27), some (.int x1), some (.int x2)], [.int x2, .int x1, .int (s.1 21), .ref 27])) (w' := (mk t s)) (ob := true) e_117 hk_117 5 rfl rfl ?_
      obtain ⟨q3, e4, h⟩ := Option.bind_eq_some_iff.mp h
      refine xu_callv (q := 27) (r := none) (av := [.int (s.1 21), .int x1, .int x2]) (st := []) (w1 := (mk t q3)) e_117 hk_117 rfl (m_M_store _ _ _ _ _ _ e4) rfl rfl rfl rfl rfl ?_
      refine xOK_fg [0, 1, 2] ?_
      exact t_M_back_38 t q  _ h
  · have h := xif_pos c1 h
    refine xOK_steps (fr' := (8, [some (.ref 27), some (.int x1), some (.int x2)], [.int x1, .int (s.1 21), .ref 27])) (w' := (mk t s)) (ob := true) e_117 hk_117 4 rfl rfl ?_
    obtain ⟨q5, e6, h⟩ := Option.bind_eq_some_iff.mp h
    refine xu_callv (q := 27) (r := none) (av := [.int (s.1 21), .int x1]) (st := []) (w1 := (mk t q5)) e_117 hk_117 rfl (m_M_put _ _ _ _ _ e6) rfl rfl rfl rfl rfl ?_
    refine xOK_steps (fr' := (20, [some (.ref 27), some (.int x1), some (.int x2)], [])) (w' := (mk t q5)) (ob := true) e_117 hk_117 1 rfl rfl ?_
    refine xOK_fg [0, 1, 2] ?_
    exact t_M_back_38 t q  _ h
set_option maxRecDepth 100000 in
set_option maxHeartbeats 4000000 in
theorem t_M_flags_33 (t : xS) (q : xS) (x1 x2 x5 y0 : Int32) (s : xS) (h : f_M_flags_33 x1 x2 x5 y0 s = some q) : xOK 118 none (xEnd 118 none (mk t q)) (16, [some (.ref 27), some (.int x1), some (.int x2), none, none, some (.int x5), none], [.int y0]) (mk t s) 0 0 := by
  unfold f_M_flags_33 at h
  refine xOK_steps (fr' := (30, [some (.ref 27), some (.int x1), some (.int x2), none, none, some (.int x5), some (.int y0)], [])) (w' := (mk t (xsa s 0 2 (((x1 + x5) + y0) + ((256 : Int32) * x2))))) (ob := true) e_118 hk_118 14 rfl rfl ?_
  cases h
  exact xu_vret e_118 hk_118 rfl rfl
set_option maxRecDepth 100000 in
set_option maxHeartbeats 4000000 in
theorem t_M_flags_25 (t : xS) (q : xS) (x1 x2 x5 y0 y1 : Int32) (s : xS) (h : f_M_flags_25 x1 x2 x5 y0 y1 s = some q) : xOK 118 none (xEnd 118 none (mk t q)) (12, [some (.ref 27), some (.int x1), some (.int x2), none, none, some (.int x5), none], [.int y1, .int y0]) (mk t s) 0 0 := by
  unfold f_M_flags_25 at h
  refine xu_icmp_lt e_118 hk_118 rfl (fun c1 => ?_) (fun c1 => ?_)
  · have h := xif_pos c1 h
    refine xOK_steps (fr' := (16, [some (.ref 27), some (.int x1), some (.int x2), none, none, some (.int x5), none], [.int (0 : Int32)])) (w' := (mk t s)) (ob := true) e_118 hk_118 1 rfl rfl ?_
    exact t_M_flags_33 t q _ _ _ _ _ h
  · have h := xif_neg c1 h
    refine xOK_steps (fr' := (16, [some (.ref 27), some (.int x1), some (.int x2), none, none, some (.int x5), none], [.int (4 : Int32)])) (w' := (mk t s)) (ob := true) e_118 hk_118 2 rfl rfl ?_
    exact t_M_flags_33 t q _ _ _ _ _ h
set_option maxRecDepth 100000 in
set_option maxHeartbeats 4000000 in
theorem t_M_flags_9 (t : xS) (q : xS) (x1 x2 x3 x4 y0 : Int32) (s : xS) (h : f_M_flags_9 x1 x2 x3 x4 y0 s = some q) : xOK 118 none (xEnd 118 none (mk t q)) (5, [some (.ref 27), some (.int x1), some (.int x2), some (.int x3), some (.int x4), none, none], [.int y0]) (mk t s) 0 0 := by
  unfold f_M_flags_9 at h
  refine xOK_steps (fr' := (8, [some (.ref 27), some (.int x1), some (.int x2), some (.int x3), some (.int x4), some (.int y0), none], [.int x4, .int x3])) (w' := (mk t s)) (ob := true) e_118 hk_118 3 rfl rfl ?_
  refine xu_if_eq e_118 hk_118 rfl (fun c2 => ?_) (fun c2 => ?_)
  · have h := xif_pos c2 h
    refine xOK_steps (fr' := (12, [some (.ref 27), some (.int x1), some (.int x2), some (.int x3), some (.int x4), some (.int y0), none], [.int (32768 : Int32), .int x3])) (w' := (mk t s)) (ob := true) e_118 hk_118 1 rfl rfl ?_
    refine xOK_fg [3, 4] ?_
    exact t_M_flags_25 t q _ _ _ _ _ _ h
  · have h := xif_neg c2 h
    refine xOK_steps (fr' := (12, [some (.ref 27), some (.int x1), some (.int x2), some (.int x3), some (.int x4), some (.int y0), none], [.int (128 : Int32), .int x3])) (w' := (mk t s)) (ob := true) e_118 hk_118 2 rfl rfl ?_
    refine xOK_fg [3, 4] ?_
    exact t_M_flags_25 t q _ _ _ _ _ _ h
set_option maxRecDepth 100000 in
set_option maxHeartbeats 4000000 in
theorem m_M_flags (x1 x2 x3 x4 : Int32) (s t : xS) (q : xS) (h : f_M_flags x1 x2 x3 x4 s = some q) : xMet 118 [.ref 27, .int x1, .int x2, .int x3, .int x4] (mk t s) none (mk t q) := by
  refine xMet_of hk_118 rfl rfl rfl ?_
  refine xOK_eq (fr := (0, [some (.ref 27), some (.int x1), some (.int x2), some (.int x3), some (.int x4), none, none], [])) rfl ?_
  unfold f_M_flags at h
  refine xOK_steps (fr' := (1, [some (.ref 27), some (.int x1), some (.int x2), some (.int x3), some (.int x4), none, none], [.int x3])) (w' := (mk t s)) (ob := true) e_118 hk_118 1 rfl rfl ?_
  refine xu_if_ne e_118 hk_118 rfl (fun c3 => ?_) (fun c3 => ?_)
  · have h := xif_neg c3 h
    refine xOK_steps (fr' := (5, [some (.ref 27), some (.int x1), some (.int x2), some (.int x3), some (.int x4), none, none], [.int (0 : Int32)])) (w' := (mk t s)) (ob := true) e_118 hk_118 1 rfl rfl ?_
    exact t_M_flags_9 t q _ _ _ _ _ _ h
  · have h := xif_pos c3 h
    refine xOK_steps (fr' := (5, [some (.ref 27), some (.int x1), some (.int x2), some (.int x3), some (.int x4), none, none], [.int (2 : Int32)])) (w' := (mk t s)) (ob := true) e_118 hk_118 2 rfl rfl ?_
    exact t_M_flags_9 t q _ _ _ _ _ _ h
set_option maxRecDepth 100000 in
set_option maxHeartbeats 4000000 in
theorem t_M_silent_25 (t : xS) (q : (Int32 × xS)) (y0 : Int32) (s : xS) (h : f_M_silent_25 y0 s = some q) : xOK 123 none (xEnd 123 (some q.1) (mk t q.2)) (13, [none, none], [.int y0]) (mk t s) 0 0 := by
  unfold f_M_silent_25 at h
  by_cases o1 : xbl y0 = true
  case neg => have h := xif_neg o1 h; cases h
  have h := xif_pos o1 h
  cases h
  exact xu_iret e_123 hk_123 rfl o1 rfl
set_option maxRecDepth 100000 in
set_option maxHeartbeats 4000000 in
theorem t_M_silent_24 (t : xS) (q : (Int32 × xS)) (s : xS) (h : f_M_silent_24  s = some q) : xOK 123 none (xEnd 123 (some q.1) (mk t q.2)) (12, [none, none], []) (mk t s) 0 0 := by
  unfold f_M_silent_24 at h
  refine xOK_steps (fr' := (13, [none, none], [.int (0 : Int32)])) (w' := (mk t s)) (ob := true) e_123 hk_123 1 rfl rfl ?_
  exact t_M_silent_25 t q _ _ h
set_option maxRecDepth 100000 in
set_option maxHeartbeats 4000000 in
theorem m_M_silent (x1 : Int32) (s t : xS) (q : (Int32 × xS)) (h : f_M_silent x1 s = some q) : xMet 123 [.ref 27, .int x1] (mk t s) (some q.1) (mk t q.2) := by
  refine xMet_of hk_123 rfl rfl rfl ?_
  refine xOK_eq (fr := (0, [some (.ref 27), some (.int x1)], [])) rfl ?_
  unfold f_M_silent at h
  refine xOK_steps (fr' := (1, [some (.ref 27), some (.int x1)], [.int x1])) (w' := (mk t s)) (ob := true) e_123 hk_123 1 rfl rfl ?_
  refine xu_if_eq e_123 hk_123 rfl (fun c2 => ?_) (fun c2 => ?_)
  · have h := xif_pos c2 h
    refine xOK_fg [0, 1] ?_
    exact t_M_silent_24 t q  _ h
  · have h := xif_neg c2 h
    refine xOK_steps (fr' := (5, [some (.ref 27), some (.int x1)], [.int (1 : Int32), .int (s.1 20)])) (w' := (mk t s)) (ob := true) e_123 hk_123 3 rfl rfl ?_
    refine xu_icmp_ne e_123 hk_123 rfl (fun c3 => ?_) (fun c3 => ?_)
    · have h := xif_neg c3 h
      refine xOK_fg [0, 1] ?_
      exact t_M_silent_24 t q  _ h
    · have h := xif_pos c3 h
      refine xOK_steps (fr' := (9, [some (.ref 27), some (.int x1)], [.int (2 : Int32), .int (s.1 21)])) (w' := (mk t s)) (ob := true) e_123 hk_123 3 rfl rfl ?_
      refine xu_icmp_ne e_123 hk_123 rfl (fun c4 => ?_) (fun c4 => ?_)
      · have h := xif_neg c4 h
        refine xOK_fg [0, 1] ?_
        exact t_M_silent_24 t q  _ h
      · have h := xif_pos c4 h
        refine xOK_steps (fr' := (13, [some (.ref 27), some (.int x1)], [.int (1 : Int32)])) (w' := (mk t s)) (ob := true) e_123 hk_123 2 rfl rfl ?_
        refine xOK_fg [0, 1] ?_
        exact t_M_silent_25 t q _ _ h
set_option maxRecDepth 100000 in
set_option maxHeartbeats 4000000 in
theorem t_M_flag_16 (t : xS) (q : (Int32 × xS)) (y0 : Int32) (s : xS) (h : f_M_flag_16 y0 s = some q) : xOK 114 none (xEnd 114 (some q.1) (mk t q.2)) (10, [none, none], [.int y0]) (mk t s) 0 0 := by
  unfold f_M_flag_16 at h
  cases h
  exact xu_iret e_114 hk_114 rfl rfl rfl
set_option maxRecDepth 100000 in
set_option maxHeartbeats 4000000 in
theorem m_M_flag (x1 : Int32) (s t : xS) (q : (Int32 × xS)) (h : f_M_flag x1 s = some q) : xMet 114 [.ref 27, .int x1] (mk t s) (some q.1) (mk t q.2) := by
  refine xMet_of hk_114 rfl rfl rfl ?_
  refine xOK_eq (fr := (0, [some (.ref 27), some (.int x1)], [])) rfl ?_
  unfold f_M_flag at h
  refine xOK_steps (fr' := (6, [some (.ref 27), some (.int x1)], [.int (((s.2 0) 2) &&& x1)])) (w' := (mk t s)) (ob := true) e_114 hk_114 6 rfl rfl ?_
  refine xu_if_eq e_114 hk_114 rfl (fun c1 => ?_) (fun c1 => ?_)
  · have h := xif_pos c1 h
    refine xOK_steps (fr' := (10, [some (.ref 27), some (.int x1)], [.int (0 : Int32)])) (w' := (mk t s)) (ob := true) e_114 hk_114 1 rfl rfl ?_
    refine xOK_fg [0, 1] ?_
    exact t_M_flag_16 t q _ _ h
  · have h := xif_neg c1 h
    refine xOK_steps (fr' := (10, [some (.ref 27), some (.int x1)], [.int (1 : Int32)])) (w' := (mk t s)) (ob := true) e_114 hk_114 2 rfl rfl ?_
    refine xOK_fg [0, 1] ?_
    exact t_M_flag_16 t q _ _ h
set_option maxRecDepth 100000 in
set_option maxHeartbeats 4000000 in
theorem t_M_sense_109 (t : xS) (q : (Int32 × xS)) (x1 y1 : Int32) (s : xS) (h : f_M_sense_109 x1 y1 s = some q) : xOK 107 none (xEnd 107 (some q.1) (mk t q.2)) (62, [some (.ref 27), some (.int x1), none], [.int y1, .ref 27]) (mk t s) 0 0 := by
  unfold f_M_sense_109 at h
  refine xOK_steps (fr' := (64, [some (.ref 27), some (.int x1), none], [.ref 27])) (w' := (mk t (xsc s 12 y1))) (ob := true) e_107 hk_107 2 rfl rfl ?_
  obtain ⟨q1, e2, h⟩ := Option.bind_eq_some_iff.mp h
  refine xu_callv (q := 27) (r := (some q1.1)) (av := []) (st := []) (w1 := (mk t q1.2)) e_107 hk_107 rfl (m_M_write  _ _ _ e2) rfl rfl rfl rfl rfl ?_
  refine xu_if_ne e_107 hk_107 rfl (fun c3 => ?_) (fun c3 => ?_)
  · have h := xif_neg c3 h
    by_cases o4 : xin ((q1.2.1 2) - (1 : Int32)) 8 = true
    case neg => have h := xif_neg o4 h; cases h
    have h := xif_pos o4 h
    refine xOK_steps (fr' := (77, [some (.ref 27), some (.int x1), none], [.ref 27])) (w' := (mk t (xsa q1.2 12 ((q1.2.1 2) - (1 : Int32)).toNatClampNeg x1))) (ob := xin ((q1.2.1 2) - (1 : Int32)) 8 && (true)) e_107 hk_107 9 rfl (xand o4 rfl) ?_
    obtain ⟨q5, e6, h⟩ := Option.bind_eq_some_iff.mp h
    refine xu_callv (q := 27) (r := (some q5.1)) (av := []) (st := []) (w1 := (mk t q5.2)) e_107 hk_107 rfl (m_M_write  _ _ _ e6) rfl rfl rfl rfl rfl ?_
    refine xu_if_ne e_107 hk_107 rfl (fun c7 => ?_) (fun c7 => ?_)
    · have h := xif_neg c7 h
      refine xOK_steps (fr' := (86, [some (.ref 27), some (.int x1), none], [.int x1])) (w' := (mk t (xsc q5.2 11 (q5.2.1 2)))) (ob := true) e_107 hk_107 5 rfl rfl ?_
      cases h
      exact xu_iret e_107 hk_107 rfl rfl rfl
    · have h := xif_pos c7 h
      refine xOK_steps (fr' := (80, [some (.ref 27), some (.int x1), none], [.int (0 : Int32)])) (w' := (mk t q5.2)) (ob := true) e_107 hk_107 1 rfl rfl ?_
      cases h
      exact xu_iret e_107 hk_107 rfl rfl rfl
  · have h := xif_pos c3 h
    refine xOK_steps (fr' := (67, [some (.ref 27), some (.int x1), none], [.int (0 : Int32)])) (w' := (mk t q1.2)) (ob := true) e_107 hk_107 1 rfl rfl ?_
    cases h
    exact xu_iret e_107 hk_107 rfl rfl rfl
set_option maxRecDepth 100000 in
set_option maxHeartbeats 4000000 in
theorem t_M_sense_63 (t : xS) (q : (Int32 × xS)) : ∀ (n : Nat), ∀ (x1 x2 : Int32) (s : xS), f_M_sense_63 n x1 x2 s = some q → xOK 107 none (xEnd 107 (some q.1) (mk t q.2)) (36, [some (.ref 27), some (.int x1), some (.int x2)], []) (mk t s) 0 0 := by
  intro n
  induction n with
  | zero => intro x1 x2 s h; cases h
  | succ n ih =>
    intro x1 x2 s h
    unfold f_M_sense_63 at h
    refine xOK_steps (fr' := (39, [some (.ref 27), some (.int x1), some (.int x2)], [.int (s.1 12), .int x2])) (w' := (mk t s)) (ob := true) e_107 hk_107 3 rfl rfl ?_
    refine xu_icmp_ge e_107 hk_107 rfl (fun c8 => ?_) (fun c8 => ?_)
    · have h := xif_pos c8 h
      refine xOK_steps (fr' := (55, [some (.ref 27), some (.int x1), some (.int x2)], [.int (s.1 12), .ref 27])) (w' := (mk t s)) (ob := true) e_107 hk_107 3 rfl rfl ?_
      refine xu_if_le e_107 hk_107 rfl (fun c9 => ?_) (fun c9 => ?_)
      · have h := xif_pos c9 h
        refine xOK_steps (fr' := (62, [some (.ref 27), some (.int x1), some (.int x2)], [.int (0 : Int32), .ref 27])) (w' := (mk t s)) (ob := true) e_107 hk_107 1 rfl rfl ?_
        refine xOK_fg [2] ?_
        exact t_M_sense_109 t q _ _ _ h
      · have h := xif_neg c9 h
        refine xOK_steps (fr' := (62, [some (.ref 27), some (.int x1), some (.int x2)], [.int ((s.1 12) - (1 : Int32)), .ref 27])) (w' := (mk t s)) (ob := true) e_107 hk_107 5 rfl rfl ?_
        refine xOK_fg [2] ?_
        exact t_M_sense_109 t q _ _ _ h
    · have h := xif_neg c8 h
      by_cases o10 : xin x2 16 = true
      case neg => have h := xif_neg o10 h; cases h
      have h := xif_pos o10 h
      by_cases o11 : xin (x2 - (1 : Int32)) 16 = true
      case neg => have h := xif_neg o11 h; cases h
      have h := xif_pos o11 h
      refine xOK_steps (fr' := (36, [some (.ref 27), some (.int x1), some (.int (x2 + (1 : Int32)))], [])) (w' := (mk t (xsa s 13 (x2 - (1 : Int32)).toNatClampNeg ((s.2 13) (x2).toNatClampNeg)))) (ob := xin x2 16 && (xin (x2 - (1 : Int32)) 16 && (true))) e_107 hk_107 12 rfl (xand o10 (xand o11 rfl)) ?_
      exact ih _ _ _ h
set_option maxRecDepth 100000 in
set_option maxHeartbeats 4000000 in
theorem t_M_sense_60 (t : xS) (q : (Int32 × xS)) (y0 : Int32) (s : xS) (h : f_M_sense_60 y0 s = some q) : xOK 107 none (xEnd 107 (some q.1) (mk t q.2)) (33, [some (.ref 27), none, none], [.int y0]) (mk t s) 0 0 := by
  unfold f_M_sense_60 at h
  refine xOK_steps (fr' := (36, [some (.ref 27), some (.int y0), some (.int (1 : Int32))], [])) (w' := (mk t s)) (ob := true) e_107 hk_107 3 rfl rfl ?_
  exact t_M_sense_63 t q _ _ _ _ h
set_option maxRecDepth 100000 in
set_option maxHeartbeats 4000000 in
theorem m_M_sense (s t : xS) (q : (Int32 × xS)) (h : f_M_sense  s = some q) : xMet 107 [.ref 27] (mk t s) (some q.1) (mk t q.2) := by
  refine xMet_of hk_107 rfl rfl rfl ?_
  refine xOK_eq (fr := (0, [some (.ref 27), none, none], [])) rfl ?_
  unfold f_M_sense at h
  refine xOK_steps (fr' := (10, [some (.ref 27), none, none], [.int ((s.1 2) + (1 : Int32)), .int (s.1 11)])) (w' := (mk t (xsc s 2 ((s.1 2) + (1 : Int32))))) (ob := true) e_107 hk_107 10 rfl rfl ?_
  refine xu_icmp_lt e_107 hk_107 rfl (fun c12 => ?_) (fun c12 => ?_)
  · have h := xif_pos c12 h
    refine xOK_steps (fr' := (21, [some (.ref 27), none, none], [.int (s.1 15)])) (w' := (mk t (xsc s 2 ((s.1 2) + (1 : Int32))))) (ob := true) e_107 hk_107 2 rfl rfl ?_
    refine xu_if_ne e_107 hk_107 rfl (fun c13 => ?_) (fun c13 => ?_)
    · have h := xif_neg c13 h
      refine xOK_steps (fr' := (26, [some (.ref 27), none, none], [.int (s.1 12)])) (w' := (mk t (xsc s 2 ((s.1 2) + (1 : Int32))))) (ob := true) e_107 hk_107 2 rfl rfl ?_
      refine xu_if_le e_107 hk_107 rfl (fun c14 => ?_) (fun c14 => ?_)
      · have h := xif_pos c14 h
        refine xOK_steps (fr' := (33, [some (.ref 27), none, none], [.int (65535 : Int32)])) (w' := (mk t (xsc s 2 ((s.1 2) + (1 : Int32))))) (ob := true) e_107 hk_107 1 rfl rfl ?_
        exact t_M_sense_60 t q _ _ h
      · have h := xif_neg c14 h
        refine xOK_steps (fr' := (33, [some (.ref 27), none, none], [.int ((s.2 13) 0)])) (w' := (mk t (xsc s 2 ((s.1 2) + (1 : Int32))))) (ob := true) e_107 hk_107 5 rfl rfl ?_
        exact t_M_sense_60 t q _ _ h
    · have h := xif_pos c13 h
      refine xOK_steps (fr' := (23, [some (.ref 27), none, none], [.int (0 : Int32)])) (w' := (mk t (xsc s 2 ((s.1 2) + (1 : Int32))))) (ob := true) e_107 hk_107 1 rfl rfl ?_
      cases h
      exact xu_iret e_107 hk_107 rfl rfl rfl
  · have h := xif_neg c12 h
    by_cases o15 : xin (((s.1 2) + (1 : Int32)) - (1 : Int32)) 8 = true
    case neg => have h := xif_neg o15 h; cases h
    have h := xif_pos o15 h
    refine xOK_steps (fr' := (18, [some (.ref 27), none, none], [.int ((s.2 12) (((s.1 2) + (1 : Int32)) - (1 : Int32)).toNatClampNeg)])) (w' := (mk t (xsc s 2 ((s.1 2) + (1 : Int32))))) (ob := xin (((s.1 2) + (1 : Int32)) - (1 : Int32)) 8 && (true)) e_107 hk_107 7 rfl (xand o15 rfl) ?_
    cases h
    exact xu_iret e_107 hk_107 rfl rfl rfl
set_option maxRecDepth 100000 in
set_option maxHeartbeats 4000000 in
theorem t_M_loaded_52 (t : xS) (q : (Int32 × xS)) (y0 : Int32) (s : xS) (h : f_M_loaded_52 y0 s = some q) : xOK 108 none (xEnd 108 (some q.1) (mk t q.2)) (28, [none, none, none, none], [.int y0]) (mk t s) 0 0 := by
  unfold f_M_loaded_52 at h
  cases h
  exact xu_iret e_108 hk_108 rfl rfl rfl
set_option maxRecDepth 100000 in
set_option maxHeartbeats 4000000 in
theorem t_M_loaded_24 (t : xS) (q : (Int32 × xS)) (x1 x2 y0 : Int32) (s : xS) (h : f_M_loaded_24 x1 x2 y0 s = some q) : xOK 108 none (xEnd 108 (some q.1) (mk t q.2)) (12, [none, some (.int x1), some (.int x2), none], [.int y0]) (mk t s) 0 0 := by
  unfold f_M_loaded_24 at h
  refine xOK_steps (fr' := (14, [none, some (.int x1), some (.int x2), some (.int y0)], [.int x2])) (w' := (mk t s)) (ob := true) e_108 hk_108 2 rfl rfl ?_
  refine xu_if_ne e_108 hk_108 rfl (fun c1 => ?_) (fun c1 => ?_)
  · have h := xif_neg c1 h
    refine xOK_steps (fr' := (20, [none, some (.int x1), some (.int x2), some (.int y0)], [.int (xrem x1 (2 : Int32))])) (w' := (mk t s)) (ob := true) e_108 hk_108 3 rfl rfl ?_
    refine xu_if_ne e_108 hk_108 rfl (fun c2 => ?_) (fun c2 => ?_)
    · have h := xif_neg c2 h
      refine xOK_steps (fr' := (28, [none, some (.int x1), some (.int x2), some (.int y0)], [.int (y0 / (256 : Int32))])) (w' := (mk t s)) (ob := true) e_108 hk_108 3 rfl rfl ?_
      refine xOK_fg [1, 2, 3] ?_
      exact t_M_loaded_52 t q _ _ h
    · have h := xif_pos c2 h
      refine xOK_steps (fr' := (28, [none, some (.int x1), some (.int x2), some (.int y0)], [.int (xrem y0 (256 : Int32))])) (w' := (mk t s)) (ob := true) e_108 hk_108 4 rfl rfl ?_
      refine xOK_fg [1, 2, 3] ?_
      exact t_M_loaded_52 t q _ _ h
  · have h := xif_pos c1 h
    refine xOK_steps (fr' := (28, [none, some (.int x1), some (.int x2), some (.int y0)], [.int y0])) (w' := (mk t s)) (ob := true) e_108 hk_108 2 rfl rfl ?_
    refine xOK_fg [1, 2, 3] ?_
    exact t_M_loaded_52 t q _ _ h
set_option maxRecDepth 100000 in
set_option maxHeartbeats 4000000 in
theorem t_M_loaded_12 (t : xS) (q : (Int32 × xS)) (x1 x2 : Int32) (s : xS) (h : f_M_loaded_12 x1 x2 s = some q) : xOK 108 none (xEnd 108 (some q.1) (mk t q.2)) (6, [some (.ref 27), some (.int x1), some (.int x2), none], []) (mk t s) 0 0 := by
  unfold f_M_loaded_12 at h
  refine xOK_steps (fr' := (7, [some (.ref 27), some (.int x1), some (.int x2), none], [.ref 27])) (w' := (mk t s)) (ob := true) e_108 hk_108 1 rfl rfl ?_
  obtain ⟨q3, e4, h⟩ := Option.bind_eq_some_iff.mp h
  refine xu_callv (q := 27) (r := (some q3.1)) (av := []) (st := []) (w1 := (mk t q3.2)) e_108 hk_108 rfl (m_M_sense  _ _ _ e4) rfl rfl rfl rfl rfl ?_
  refine xOK_steps (fr' := (12, [some (.ref 27), some (.int x1), some (.int x2), none], [.int q3.1])) (w' := (mk t q3.2)) (ob := true) e_108 hk_108 1 rfl rfl ?_
  refine xOK_fg [0] ?_
  exact t_M_loaded_24 t q _ _ _ _ h
set_option maxRecDepth 100000 in
set_option maxHeartbeats 4000000 in
theorem m_M_loaded (x1 x2 : Int32) (s t : xS) (q : (Int32 × xS)) (h : f_M_loaded x1 x2 s = some q) : xMet 108 [.ref 27, .int x1, .int x2] (mk t s) (some q.1) (mk t q.2) := by
  refine xMet_of hk_108 rfl rfl rfl ?_
  refine xOK_eq (fr := (0, [some (.ref 27), some (.int x1), some (.int x2), none], [])) rfl ?_
  unfold f_M_loaded at h
  refine xOK_steps (fr' := (2, [some (.ref 27), some (.int x1), some (.int x2), none], [.int (16 : Int32), .int x1])) (w' := (mk t s)) (ob := true) e_108 hk_108 2 rfl rfl ?_
  refine xu_icmp_eq e_108 hk_108 rfl (fun c5 => ?_) (fun c5 => ?_)
  · have h := xif_pos c5 h
    exact t_M_loaded_12 t q _ _ _ h
  · have h := xif_neg c5 h
    refine xOK_steps (fr' := (5, [some (.ref 27), some (.int x1), some (.int x2), none], [.int (17 : Int32), .int x1])) (w' := (mk t s)) (ob := true) e_108 hk_108 2 rfl rfl ?_
    refine xu_icmp_ne e_108 hk_108 rfl (fun c6 => ?_) (fun c6 => ?_)
    · have h := xif_neg c6 h
      refine xOK_steps (fr' := (11, [some (.ref 27), some (.int x1), some (.int x2), none], [.int x1, .ref 27])) (w' := (mk t s)) (ob := true) e_108 hk_108 2 rfl rfl ?_
      obtain ⟨q7, e8, h⟩ := Option.bind_eq_some_iff.mp h
      refine xu_callv (q := 27) (r := (some q7.1)) (av := [.int x1]) (st := []) (w1 := (mk t q7.2)) e_108 hk_108 rfl (m_M_plain _ _ _ _ e8) rfl rfl rfl rfl rfl ?_
      refine xOK_fg [0] ?_
      exact t_M_loaded_24 t q _ _ _ _ h
    · have h := xif_pos c6 h
      exact t_M_loaded_12 t q _ _ _ h
set_option maxRecDepth 100000 in
set_option maxHeartbeats 4000000 in
theorem t_M_indexed_33 (t : xS) (q : (Int32 × xS)) (y0 : Int32) (s : xS) (h : f_M_indexed_33 y0 s = some q) : xOK 115 none (xEnd 115 (some q.1) (mk t q.2)) (19, [some (.ref 27), none, none, none], [.int y0]) (mk t s) 0 0 := by
  unfold f_M_indexed_33 at h
  refine xOK_steps (fr' := (21, [some (.ref 27), none, some (.int y0), none], [.ref 27])) (w' := (mk t s)) (ob := true) e_115 hk_115 2 rfl rfl ?_
  obtain ⟨q1, e2, h⟩ := Option.bind_eq_some_iff.mp h
  refine xu_callv (q := 27) (r := (some q1.1)) (av := []) (st := []) (w1 := (mk t q1.2)) e_115 hk_115 rfl (m_M_fetch  _ _ _ e2) rfl rfl rfl rfl rfl ?_
  refine xOK_steps (fr' := (28, [some (.ref 27), none, some (.int y0), some (.int q1.1)], [.int (xrem (q1.1 + y0) (65536 : Int32))])) (w' := (mk t q1.2)) (ob := true) e_115 hk_115 6 rfl rfl ?_
  cases h
  exact xu_iret e_115 hk_115 rfl rfl rfl
set_option maxRecDepth 100000 in
set_option maxHeartbeats 4000000 in
theorem t_M_indexed_23 (t : xS) (q : (Int32 × xS)) (s : xS) (h : f_M_indexed_23  s = some q) : xOK 115 none (xEnd 115 (some q.1) (mk t q.2)) (13, [some (.ref 27), none, none, none], []) (mk t s) 0 0 := by
  unfold f_M_indexed_23 at h
  refine xOK_steps (fr' := (19, [some (.ref 27), none, none, none], [.int (0 : Int32)])) (w' := (mk t s)) (ob := true) e_115 hk_115 2 rfl rfl ?_
  exact t_M_indexed_33 t q _ _ h
set_option maxRecDepth 100000 in
set_option maxHeartbeats 4000000 in
theorem m_M_indexed (x1 : Int32) (s t : xS) (q : (Int32 × xS)) (h : f_M_indexed x1 s = some q) : xMet 115 [.ref 27, .int x1] (mk t s) (some q.1) (mk t q.2) := by
  refine xMet_of hk_115 rfl rfl rfl ?_
  refine xOK_eq (fr := (0, [some (.ref 27), some (.int x1), none, none], [])) rfl ?_
  unfold f_M_indexed at h
  refine xOK_steps (fr' := (1, [some (.ref 27), some (.int x1), none, none], [.int x1])) (w' := (mk t s)) (ob := true) e_115 hk_115 1 rfl rfl ?_
  refine xu_if_ne e_115 hk_115 rfl (fun c3 => ?_) (fun c3 => ?_)
  · have h := xif_neg c3 h
    refine xOK_steps (fr' := (9, [some (.ref 27), some (.int x1), none, none], [.int (2 : Int32), .int x1])) (w' := (mk t s)) (ob := true) e_115 hk_115 2 rfl rfl ?_
    refine xu_icmp_eq e_115 hk_115 rfl (fun c4 => ?_) (fun c4 => ?_)
    · have h := xif_pos c4 h
      refine xOK_fg [1] ?_
      exact t_M_indexed_23 t q  _ h
    · have h := xif_neg c4 h
      refine xOK_steps (fr' := (12, [some (.ref 27), some (.int x1), none, none], [.int (3 : Int32), .int x1])) (w' := (mk t s)) (ob := true) e_115 hk_115 2 rfl rfl ?_
      refine xu_icmp_ne e_115 hk_115 rfl (fun c5 => ?_) (fun c5 => ?_)
      · have h := xif_neg c5 h
        by_cases o6 : xin x1 16 = true
        case neg => have h := xif_neg o6 h; cases h
        have h := xif_pos o6 h
        refine xOK_steps (fr' := (19, [some (.ref 27), some (.int x1), none, none], [.int ((s.2 0) (x1).toNatClampNeg)])) (w' := (mk t s)) (ob := xin x1 16 && (true)) e_115 hk_115 4 rfl (xand o6 rfl) ?_
        refine xOK_fg [1] ?_
        exact t_M_indexed_33 t q _ _ h
      · have h := xif_pos c5 h
        refine xOK_fg [1] ?_
        exact t_M_indexed_23 t q  _ h
  · have h := xif_pos c3 h
    refine xOK_steps (fr' := (19, [some (.ref 27), some (.int x1), none, none], [.int ((s.2 0) 0)])) (w' := (mk t s)) (ob := true) e_115 hk_115 5 rfl rfl ?_
    refine xOK_fg [1] ?_
    exact t_M_indexed_33 t q _ _ h
set_option maxRecDepth 100000 in
set_option maxHeartbeats 4000000 in
theorem t_M_operand_168 (t : xS) (q : (Int32 × xS)) (x6 : Int32) (s : xS) (h : f_M_operand_168 x6 s = some q) : xOK 116 none (xEnd 116 (some q.1) (mk t q.2)) (100, [none, none, none, none, none, none, some (.int x6)], []) (mk t s) 0 0 := by
  unfold f_M_operand_168 at h
  refine xOK_steps (fr' := (101, [none, none, none, none, none, none, some (.int x6)], [.int x6])) (w' := (mk t s)) (ob := true) e_116 hk_116 1 rfl rfl ?_
  cases h
  exact xu_iret e_116 hk_116 rfl rfl rfl
set_option maxRecDepth 100000 in
set_option maxHeartbeats 4000000 in
theorem t_M_operand_163 (t : xS) (q : (Int32 × xS)) (x6 y1 y2 y3 : Int32) (s : xS) (h : f_M_operand_163 x6 y1 y2 y3 s = some q) : xOK 116 none (xEnd 116 (some q.1) (mk t q.2)) (96, [none, none, none, none, none, none, some (.int x6)], [.int y3, .int y2, .int y1, .ref 28]) (mk t s) 0 0 := by
  unfold f_M_operand_163 at h
  by_cases o1 : xin y1 16 = true
  case neg => have h := xif_neg o1 h; cases h
  have h := xif_pos o1 h
  refine xOK_steps (fr' := (100, [none, none, none, none, none, none, some (.int x6)], [])) (w' := (mk t (xsa s 0 (y1).toNatClampNeg (xrem (y2 + y3) (65536 : Int32))))) (ob := xin y1 16 && (true)) e_116 hk_116 4 rfl (xand o1 rfl) ?_
  exact t_M_operand_168 t q _ _ h
set_option maxRecDepth 100000 in
set_option maxHeartbeats 4000000 in
theorem t_M_operand_162 (t : xS) (q : (Int32 × xS)) (x6 y1 y2 : Int32) (s : xS) (h : f_M_operand_162 x6 y1 y2 s = some q) : xOK 116 none (xEnd 116 (some q.1) (mk t q.2)) (95, [none, none, none, none, none, none, some (.int x6)], [.int y2, .int y1, .ref 28]) (mk t s) 0 0 := by
  unfold f_M_operand_162 at h
  refine xOK_steps (fr' := (96, [none, none, none, none, none, none, some (.int x6)], [.int (2 : Int32), .int y2, .int y1, .ref 28])) (w' := (mk t s)) (ob := true) e_116 hk_116 1 rfl rfl ?_
  exact t_M_operand_163 t q _ _ _ _ _ h
set_option maxRecDepth 100000 in
set_option maxHeartbeats 4000000 in
theorem t_M_operand_120 (t : xS) (q : (Int32 × xS)) (x1 x2 x3 y0 : Int32) (s : xS) (h : f_M_operand_120 x1 x2 x3 y0 s = some q) : xOK 116 none (xEnd 116 (some q.1) (mk t q.2)) (72, [some (.ref 27), some (.int x1), some (.int x2), some (.int x3), none, none, none], [.int y0]) (mk t s) 0 0 := by
  unfold f_M_operand_120 at h
  refine xOK_steps (fr' := (79, [some (.ref 27), some (.int x1), some (.int x2), some (.int x3), none, some (.int y0), none], [.int x3, .int y0, .ref 27])) (w' := (mk t (xsc s 21 y0))) (ob := true) e_116 hk_116 7 rfl rfl ?_
  obtain ⟨q2, e3, h⟩ := Option.bind_eq_some_iff.mp h
  refine xu_callv (q := 27) (r := (some q2.1)) (av := [.int y0, .int x3]) (st := []) (w1 := (mk t q2.2)) e_116 hk_116 rfl (m_M_loaded _ _ _ _ _ e3) rfl rfl rfl rfl rfl ?_
  refine xOK_steps (fr' := (83, [some (.ref 27), some (.int x1), some (.int x2), some (.int x3), none, some (.int y0), some (.int q2.1)], [.int (3 : Int32), .int x2])) (w' := (mk t q2.2)) (ob := true) e_116 hk_116 3 rfl rfl ?_
  refine xu_icmp_ne e_116 hk_116 rfl (fun c4 => ?_) (fun c4 => ?_)
  · have h := xif_neg c4 h
    refine xOK_fg [0, 1, 2, 3, 5] ?_
    exact t_M_operand_168 t q _ _ h
  · have h := xif_pos c4 h
    refine xOK_steps (fr' := (89, [some (.ref 27), some (.int x1), some (.int x2), some (.int x3), none, some (.int y0), some (.int q2.1)], [.int x3, .int y0, .int x1, .ref 28])) (w' := (mk t q2.2)) (ob := true) e_116 hk_116 5 rfl rfl ?_
    refine xu_if_eq e_116 hk_116 rfl (fun c5 => ?_) (fun c5 => ?_)
    · have h := xif_pos c5 h
      refine xOK_fg [0, 1, 2, 3, 5] ?_
      exact t_M_operand_162 t q _ _ _ _ h
    · have h := xif_neg c5 h
      refine xOK_steps (fr' := (92, [some (.ref 27), some (.int x1), some (.int x2), some (.int x3), none, some (.int y0), some (.int q2.1)], [.int (1 : Int32), .int x1, .int y0, .int x1, .ref 28])) (w' := (mk t q2.2)) (ob := true) e_116 hk_116 2 rfl rfl ?_
      refine xu_icmp_eq e_116 hk_116 rfl (fun c6 => ?_) (fun c6 => ?_)
      · have h := xif_pos c6 h
        refine xOK_fg [0, 1, 2, 3, 5] ?_
        exact t_M_operand_162 t q _ _ _ _ h
      · have h := xif_neg c6 h
        refine xOK_steps (fr' := (96, [some (.ref 27), some (.int x1), some (.int x2), some (.int x3), none, some (.int y0), some (.int q2.1)], [.int (1 : Int32), .int y0, .int x1, .ref 28])) (w' := (mk t q2.2)) (ob := true) e_116 hk_116 2 rfl rfl ?_
        refine xOK_fg [0, 1, 2, 3, 5] ?_
        exact t_M_operand_163 t q _ _ _ _ _ h
set_option maxRecDepth 100000 in
set_option maxHeartbeats 4000000 in
theorem t_M_operand_96 (t : xS) (q : (Int32 × xS)) (x1 x2 x3 : Int32) (s : xS) (h : f_M_operand_96 x1 x2 x3 s = some q) : xOK 116 none (xEnd 116 (some q.1) (mk t q.2)) (58, [some (.ref 27), some (.int x1), some (.int x2), some (.int x3), none, none, none], []) (mk t s) 0 0 := by
  unfold f_M_operand_96 at h
  refine xOK_steps (fr' := (63, [some (.ref 27), some (.int x1), some (.int x2), some (.int x3), none, none, none], [.int (1 : Int32), .int x2])) (w' := (mk t (xsc s 20 (2 : Int32)))) (ob := true) e_116 hk_116 5 rfl rfl ?_
  refine xu_icmp_ne e_116 hk_116 rfl (fun c7 => ?_) (fun c7 => ?_)
  · have h := xif_neg c7 h
    by_cases o8 : xin x1 16 = true
    case neg => have h := xif_neg o8 h; cases h
    have h := xif_pos o8 h
    refine xOK_steps (fr' := (72, [some (.ref 27), some (.int x1), some (.int x2), some (.int x3), none, none, none], [.int ((s.2 0) (x1).toNatClampNeg)])) (w' := (mk t (xsc s 20 (2 : Int32)))) (ob := xin x1 16 && (true)) e_116 hk_116 4 rfl (xand o8 rfl) ?_
    exact t_M_operand_120 t q _ _ _ _ _ h
  · have h := xif_pos c7 h
    refine xOK_steps (fr' := (66, [some (.ref 27), some (.int x1), some (.int x2), some (.int x3), none, none, none], [.int x1, .ref 27])) (w' := (mk t (xsc s 20 (2 : Int32)))) (ob := true) e_116 hk_116 2 rfl rfl ?_
    obtain ⟨q9, e10, h⟩ := Option.bind_eq_some_iff.mp h
    refine xu_callv (q := 27) (r := (some q9.1)) (av := [.int x1]) (st := []) (w1 := (mk t q9.2)) e_116 hk_116 rfl (m_M_indexed _ _ _ _ e10) rfl rfl rfl rfl rfl ?_
    refine xOK_steps (fr' := (72, [some (.ref 27), some (.int x1), some (.int x2), some (.int x3), none, none, none], [.int q9.1])) (w' := (mk t q9.2)) (ob := true) e_116 hk_116 1 rfl rfl ?_
    exact t_M_operand_120 t q _ _ _ _ _ h
set_option maxRecDepth 100000 in
set_option maxHeartbeats 4000000 in
theorem t_M_operand_55 (t : xS) (q : (Int32 × xS)) (x1 x2 x3 x4 : Int32) (s : xS) (h : f_M_operand_55 x1 x2 x3 x4 s = some q) : xOK 116 none (xEnd 116 (some q.1) (mk t q.2)) (33, [some (.ref 27), some (.int x1), some (.int x2), some (.int x3), some (.int x4), none, none], []) (mk t s) 0 0 := by
  unfold f_M_operand_55 at h
  refine xOK_steps (fr' := (34, [some (.ref 27), some (.int x1), some (.int x2), some (.int x3), some (.int x4), none, none], [.int x2])) (w' := (mk t s)) (ob := true) e_116 hk_116 1 rfl rfl ?_
  refine xu_if_ne e_116 hk_116 rfl (fun c11 => ?_) (fun c11 => ?_)
  · have h := xif_neg c11 h
    refine xOK_steps (fr' := (49, [some (.ref 27), some (.int x1), some (.int x2), some (.int x3), some (.int x4), none, none], [.int x1])) (w' := (mk t s)) (ob := true) e_116 hk_116 1 rfl rfl ?_
    refine xu_if_ne e_116 hk_116 rfl (fun c12 => ?_) (fun c12 => ?_)
    · have h := xif_neg c12 h
      refine xOK_fg [4] ?_
      exact t_M_operand_96 t q _ _ _ _ h
    · have h := xif_pos c12 h
      refine xOK_steps (fr' := (52, [some (.ref 27), some (.int x1), some (.int x2), some (.int x3), some (.int x4), none, none], [.int (3 : Int32), .int x2])) (w' := (mk t s)) (ob := true) e_116 hk_116 2 rfl rfl ?_
      refine xu_icmp_ne e_116 hk_116 rfl (fun c13 => ?_) (fun c13 => ?_)
      · have h := xif_neg c13 h
        refine xOK_fg [4] ?_
        exact t_M_operand_96 t q _ _ _ _ h
      · have h := xif_pos c13 h
        refine xOK_steps (fr' := (54, [some (.ref 27), some (.int x1), some (.int x2), some (.int x3), some (.int x4), none, none], [.ref 27])) (w' := (mk t s)) (ob := true) e_116 hk_116 1 rfl rfl ?_
        obtain ⟨q14, e15, h⟩ := Option.bind_eq_some_iff.mp h
        refine xu_callv (q := 27) (r := (some q14.1)) (av := []) (st := []) (w1 := (mk t q14.2)) e_116 hk_116 rfl (m_M_fetch  _ _ _ e15) rfl rfl rfl rfl rfl ?_
        by_cases o16 : (!(x4 == 0)) = true
        case neg => have h := xif_neg o16 h; cases h
        have h := xif_pos o16 h
        refine xOK_steps (fr' := (57, [some (.ref 27), some (.int x1), some (.int x2), some (.int x3), some (.int x4), none, none], [.int (xrem q14.1 x4)])) (w' := (mk t q14.2)) (ob := (!(x4 == 0)) && (true)) e_116 hk_116 2 rfl (xand o16 rfl) ?_
        cases h
        exact xu_iret e_116 hk_116 rfl rfl rfl
  · have h := xif_pos c11 h
    by_cases o17 : xin x1 16 = true
    case neg => have h := xif_neg o17 h; cases h
    have h := xif_pos o17 h
    by_cases o18 : (!(x4 == 0)) = true
    case neg => have h := xif_neg o18 h; cases h
    have h := xif_pos o18 h
    refine xOK_steps (fr' := (47, [some (.ref 27), some (.int x1), some (.int x2), some (.int x3), some (.int x4), none, none], [.int (xrem ((s.2 0) (x1).toNatClampNeg) x4)])) (w' := (mk t (xsc (xsc s 20 (1 : Int32)) 21 x1))) (ob := xin x1 16 && ((!(x4 == 0)) && (true))) e_116 hk_116 12 rfl (xand o17 (xand o18 rfl)) ?_
    cases h
    exact xu_iret e_116 hk_116 rfl rfl rfl
set_option maxRecDepth 100000 in
set_option maxHeartbeats 4000000 in
theorem t_M_operand_35 (t : xS) (q : (Int32 × xS)) (x4 y0 : Int32) (s : xS) (h : f_M_operand_35 x4 y0 s = some q) : xOK 116 none (xEnd 116 (some q.1) (mk t q.2)) (18, [none, none, none, none, some (.int x4), none, none], [.int y0]) (mk t s) 0 0 := by
  unfold f_M_operand_35 at h
  by_cases o19 : (!(x4 == 0)) = true
  case neg => have h := xif_neg o19 h; cases h
  have h := xif_pos o19 h
  refine xOK_steps (fr' := (20, [none, none, none, none, some (.int x4), none, none], [.int (xrem y0 x4)])) (w' := (mk t s)) (ob := (!(x4 == 0)) && (true)) e_116 hk_116 2 rfl (xand o19 rfl) ?_
  cases h
  exact xu_iret e_116 hk_116 rfl rfl rfl
set_option maxRecDepth 100000 in
set_option maxHeartbeats 4000000 in
theorem t_M_operand_12 (t : xS) (q : (Int32 × xS)) (x1 x2 x3 y0 : Int32) (s : xS) (h : f_M_operand_12 x1 x2 x3 y0 s = some q) : xOK 116 none (xEnd 116 (some q.1) (mk t q.2)) (5, [some (.ref 27), some (.int x1), some (.int x2), some (.int x3), none, none, none], [.int y0]) (mk t s) 0 0 := by
  unfold f_M_operand_12 at h
  refine xOK_steps (fr' := (11, [some (.ref 27), some (.int x1), some (.int x2), some (.int x3), some (.int y0), none, none], [.int (3 : Int32), .int x1])) (w' := (mk t (xsc s 20 (0 : Int32)))) (ob := true) e_116 hk_116 6 rfl rfl ?_
  refine xu_icmp_ne e_116 hk_116 rfl (fun c20 => ?_) (fun c20 => ?_)
  · have h := xif_neg c20 h
    refine xOK_steps (fr' := (23, [some (.ref 27), some (.int x1), some (.int x2), some (.int x3), some (.int y0), none, none], [.int (2 : Int32), .int x1])) (w' := (mk t (xsc s 20 (0 : Int32)))) (ob := true) e_116 hk_116 2 rfl rfl ?_
    refine xu_icmp_ne e_116 hk_116 rfl (fun c21 => ?_) (fun c21 => ?_)
    · have h := xif_neg c21 h
      exact t_M_operand_55 t q _ _ _ _ _ h
    · have h := xif_pos c21 h
      refine xOK_steps (fr' := (26, [some (.ref 27), some (.int x1), some (.int x2), some (.int x3), some (.int y0), none, none], [.int (1 : Int32), .int x2])) (w' := (mk t (xsc s 20 (0 : Int32)))) (ob := true) e_116 hk_116 2 rfl rfl ?_
      refine xu_icmp_le e_116 hk_116 rfl (fun c22 => ?_) (fun c22 => ?_)
      · have h := xif_pos c22 h
        exact t_M_operand_55 t q _ _ _ _ _ h
      · have h := xif_neg c22 h
        refine xOK_steps (fr' := (32, [some (.ref 27), some (.int x1), some (.int x2), some (.int x3), some (.int y0), none, none], [.int ((4 : Int32) * (x2 - (1 : Int32)))])) (w' := (mk t (xsc s 20 (0 : Int32)))) (ob := true) e_116 hk_116 5 rfl rfl ?_
        cases h
        exact xu_iret e_116 hk_116 rfl rfl rfl
  · have h := xif_pos c20 h
    refine xOK_steps (fr' := (14, [some (.ref 27), some (.int x1), some (.int x2), some (.int x3), some (.int y0), none, none], [.int (3 : Int32), .int x2])) (w' := (mk t (xsc s 20 (0 : Int32)))) (ob := true) e_116 hk_116 2 rfl rfl ?_
    refine xu_icmp_ne e_116 hk_116 rfl (fun c23 => ?_) (fun c23 => ?_)
    · have h := xif_neg c23 h
      refine xOK_steps (fr' := (18, [some (.ref 27), some (.int x1), some (.int x2), some (.int x3), some (.int y0), none, none], [.int x2])) (w' := (mk t (xsc s 20 (0 : Int32)))) (ob := true) e_116 hk_116 1 rfl rfl ?_
      refine xOK_fg [0, 1, 2, 3] ?_
      exact t_M_operand_35 t q _ _ _ h
    · have h := xif_pos c23 h
      refine xOK_steps (fr' := (18, [some (.ref 27), some (.int x1), some (.int x2), some (.int x3), some (.int y0), none, none], [.int (65535 : Int32)])) (w' := (mk t (xsc s 20 (0 : Int32)))) (ob := true) e_116 hk_116 2 rfl rfl ?_
      refine xOK_fg [0, 1, 2, 3] ?_
      exact t_M_operand_35 t q _ _ _ h
set_option maxRecDepth 100000 in
set_option maxHeartbeats 4000000 in
theorem m_M_operand (x1 x2 x3 : Int32) (s t : xS) (q : (Int32 × xS)) (h : f_M_operand x1 x2 x3 s = some q) : xMet 116 [.ref 27, .int x1, .int x2, .int x3] (mk t s) (some q.1) (mk t q.2) := by
  refine xMet_of hk_116 rfl rfl rfl ?_
  refine xOK_eq (fr := (0, [some (.ref 27), some (.int x1), some (.int x2), some (.int x3), none, none, none], [])) rfl ?_
  unfold f_M_operand at h
  refine xOK_steps (fr' := (1, [some (.ref 27), some (.int x1), some (.int x2), some (.int x3), none, none, none], [.int x3])) (w' := (mk t s)) (ob := true) e_116 hk_116 1 rfl rfl ?_
  refine xu_if_eq e_116 hk_116 rfl (fun c24 => ?_) (fun c24 => ?_)
  · have h := xif_pos c24 h
    refine xOK_steps (fr' := (5, [some (.ref 27), some (.int x1), some (.int x2), some (.int x3), none, none, none], [.int (65536 : Int32)])) (w' := (mk t s)) (ob := true) e_116 hk_116 1 rfl rfl ?_
    exact t_M_operand_12 t q _ _ _ _ _ h
  · have h := xif_neg c24 h
    refine xOK_steps (fr' := (5, [some (.ref 27), some (.int x1), some (.int x2), some (.int x3), none, none, none], [.int (256 : Int32)])) (w' := (mk t s)) (ob := true) e_116 hk_116 2 rfl rfl ?_
    exact t_M_operand_12 t q _ _ _ _ _ h
set_option maxRecDepth 100000 in
set_option maxHeartbeats 4000000 in
theorem t_M_one_331 (t : xS) (q : xS) (x3 x6 : Int32) (s : xS) (h : f_M_one_331 x3 x6 s = some q) : xOK 127 none (xEnd 127 none (mk t q)) (197, [some (.ref 27), none, none, some (.int x3), none, none, some (.int x6)], []) (mk t s) 0 0 := by
  unfold f_M_one_331 at h
  refine xOK_steps (fr' := (200, [some (.ref 27), none, none, some (.int x3), none, none, some (.int x6)], [.int x3, .int x6, .ref 27])) (w' := (mk t s)) (ob := true) e_127 hk_127 3 rfl rfl ?_
  obtain ⟨q1, e2, h⟩ := Option.bind_eq_some_iff.mp h
  refine xu_callv (q := 27) (r := none) (av := [.int x6, .int x3]) (st := []) (w1 := (mk t q1)) e_127 hk_127 rfl (m_M_back _ _ _ _ _ e2) rfl rfl rfl rfl rfl ?_
  cases h
  exact xu_vret e_127 hk_127 rfl rfl
set_option maxRecDepth 100000 in
set_option maxHeartbeats 4000000 in
theorem t_M_one_324 (t : xS) (q : xS) (x3 x6 y1 : Int32) (s : xS) (h : f_M_one_324 x3 x6 y1 s = some q) : xOK 127 none (xEnd 127 none (mk t q)) (193, [some (.ref 27), none, none, some (.int x3), none, none, some (.int x6)], [.int y1, .ref 27]) (mk t s) 0 0 := by
  unfold f_M_one_324 at h
  refine xOK_steps (fr' := (196, [some (.ref 27), none, none, some (.int x3), none, none, some (.int x6)], [.int x3, .int x6, .int (0 : Int32), .int y1, .ref 27])) (w' := (mk t s)) (ob := true) e_127 hk_127 3 rfl rfl ?_
  obtain ⟨q3, e4, h⟩ := Option.bind_eq_some_iff.mp h
  refine xu_callv (q := 27) (r := none) (av := [.int y1, .int (0 : Int32), .int x6, .int x3]) (st := []) (w1 := (mk t q3)) e_127 hk_127 rfl (m_M_flags _ _ _ _ _ _ _ e4) rfl rfl rfl rfl rfl ?_
  exact t_M_one_331 t q _ _ _ h
set_option maxRecDepth 100000 in
set_option maxHeartbeats 4000000 in
theorem t_M_one_286 (t : xS) (q : xS) (x1 x3 x4 y0 : Int32) (s : xS) (h : f_M_one_286 x1 x3 x4 y0 s = some q) : xOK 127 none (xEnd 127 none (mk t q)) (172, [some (.ref 27), some (.int x1), none, some (.int x3), some (.int x4), none, none], [.int y0]) (mk t s) 0 0 := by
  unfold f_M_one_286 at h
  refine xOK_steps (fr' := (175, [some (.ref 27), some (.int x1), none, some (.int x3), some (.int x4), none, some (.int y0)], [.int (1 : Int32), .int x1])) (w' := (mk t s)) (ob := true) e_127 hk_127 3 rfl rfl ?_
  refine xu_icmp_eq e_127 hk_127 rfl (fun c5 => ?_) (fun c5 => ?_)
  · have h := xif_pos c5 h
    refine xOK_fg [1, 4] ?_
    exact t_M_one_331 t q _ _ _ h
  · have h := xif_neg c5 h
    refine xOK_steps (fr' := (178, [some (.ref 27), some (.int x1), none, some (.int x3), some (.int x4), none, some (.int y0)], [.int (1 : Int32), .ref 27])) (w' := (mk t s)) (ob := true) e_127 hk_127 2 rfl rfl ?_
    obtain ⟨q6, e7, h⟩ := Option.bind_eq_some_iff.mp h
    refine xu_callv (q := 27) (r := (some q6.1)) (av := [.int (1 : Int32)]) (st := []) (w1 := (mk t q6.2)) e_127 hk_127 rfl (m_M_silent _ _ _ _ e7) rfl rfl rfl rfl rfl ?_
    refine xu_if_ne e_127 hk_127 rfl (fun c8 => ?_) (fun c8 => ?_)
    · have h := xif_neg c8 h
      refine xOK_fg [1, 4] ?_
      exact t_M_one_331 t q _ _ _ h
    · have h := xif_pos c8 h
      refine xOK_steps (fr' := (183, [some (.ref 27), some (.int x1), none, some (.int x3), some (.int x4), none, some (.int y0)], [.int (3 : Int32), .int x1, .ref 27])) (w' := (mk t q6.2)) (ob := true) e_127 hk_127 3 rfl rfl ?_
      refine xu_icmp_ne e_127 hk_127 rfl (fun c9 => ?_) (fun c9 => ?_)
      · have h := xif_neg c9 h
        refine xOK_steps (fr' := (193, [some (.ref 27), some (.int x1), none, some (.int x3), some (.int x4), none, some (.int y0)], [.int (xrem x4 (2 : Int32)), .ref 27])) (w' := (mk t q6.2)) (ob := true) e_127 hk_127 3 rfl rfl ?_
        refine xOK_fg [1, 4] ?_
        exact t_M_one_324 t q _ _ _ _ h
      · have h := xif_pos c9 h
        refine xOK_steps (fr' := (185, [some (.ref 27), some (.int x1), none, some (.int x3), some (.int x4), none, some (.int y0)], [.int y0, .ref 27])) (w' := (mk t q6.2)) (ob := true) e_127 hk_127 1 rfl rfl ?_
        refine xu_if_eq e_127 hk_127 rfl (fun c10 => ?_) (fun c10 => ?_)
        · have h := xif_pos c10 h
          refine xOK_steps (fr' := (193, [some (.ref 27), some (.int x1), none, some (.int x3), some (.int x4), none, some (.int y0)], [.int (0 : Int32), .ref 27])) (w' := (mk t q6.2)) (ob := true) e_127 hk_127 2 rfl rfl ?_
          refine xOK_fg [1, 4] ?_
          exact t_M_one_324 t q _ _ _ _ h
        · have h := xif_neg c10 h
          refine xOK_steps (fr' := (193, [some (.ref 27), some (.int x1), none, some (.int x3), some (.int x4), none, some (.int y0)], [.int (1 : Int32), .ref 27])) (w' := (mk t q6.2)) (ob := true) e_127 hk_127 2 rfl rfl ?_
          refine xOK_fg [1, 4] ?_
          exact t_M_one_324 t q _ _ _ _ h
set_option maxRecDepth 100000 in
set_option maxHeartbeats 4000000 in
theorem t_M_one_285 (t : xS) (q : xS) (x1 x3 x4 y0 y1 : Int32) (s : xS) (h : f_M_one_285 x1 x3 x4 y0 y1 s = some q) : xOK 127 none (xEnd 127 none (mk t q)) (171, [some (.ref 27), some (.int x1), none, some (.int x3), some (.int x4), none, none], [.int y1, .int y0]) (mk t s) 0 0 := by
  unfold f_M_one_285 at h
  refine xOK_steps (fr' := (172, [some (.ref 27), some (.int x1), none, some (.int x3), some (.int x4), none, none], [.int (y0 + y1)])) (w' := (mk t s)) (ob := true) e_127 hk_127 1 rfl rfl ?_
  exact t_M_one_286 t q _ _ _ _ _ h
set_option maxRecDepth 100000 in
set_option maxHeartbeats 4000000 in
theorem t_M_one_201 (t : xS) (q : xS) (s : xS) (h : f_M_one_201  s = some q) : xOK 127 none (xEnd 127 none (mk t q)) (127, [none, none, none, none, none, none, none], []) (mk t s) 0 0 := by
  unfold f_M_one_201 at h
  cases h
  exact xu_vret e_127 hk_127 rfl rfl
set_option maxRecDepth 100000 in
set_option maxHeartbeats 4000000 in
theorem t_M_one_185 (t : xS) (q : xS) (x1 x3 x4 y1 y2 : Int32) (s : xS) (h : f_M_one_185 x1 x3 x4 y1 y2 s = some q) : xOK 127 none (xEnd 127 none (mk t q)) (118, [some (.ref 27), some (.int x1), none, some (.int x3), some (.int x4), none, none], [.int y2, .int y1, .ref 27]) (mk t s) 0 0 := by
  unfold f_M_one_185 at h
  refine xOK_steps (fr' := (119, [some (.ref 27), some (.int x1), none, some (.int x3), some (.int x4), none, none], [.int x3, .int y2, .int y1, .ref 27])) (w' := (mk t s)) (ob := true) e_127 hk_127 1 rfl rfl ?_
  obtain ⟨q11, e12, h⟩ := Option.bind_eq_some_iff.mp h
  refine xu_callv (q := 27) (r := none) (av := [.int y1, .int y2, .int x3]) (st := []) (w1 := (mk t q11)) e_127 hk_127 rfl (m_M_store _ _ _ _ _ _ e12) rfl rfl rfl rfl rfl ?_
  refine xOK_steps (fr' := (122, [some (.ref 27), some (.int x1), none, some (.int x3), some (.int x4), none, none], [.int (5 : Int32), .int x1])) (w' := (mk t q11)) (ob := true) e_127 hk_127 2 rfl rfl ?_
  refine xu_icmp_ne e_127 hk_127 rfl (fun c13 => ?_) (fun c13 => ?_)
  · have h := xif_neg c13 h
    refine xOK_fg [0, 1, 3, 4] ?_
    exact t_M_one_201 t q  _ h
  · have h := xif_pos c13 h
    refine xOK_steps (fr' := (126, [some (.ref 27), some (.int x1), none, some (.int x3), some (.int x4), none, none], [.int x4, .int (0 : Int32), .ref 27])) (w' := (mk t q11)) (ob := true) e_127 hk_127 3 rfl rfl ?_
    obtain ⟨q14, e15, h⟩ := Option.bind_eq_some_iff.mp h
    refine xu_callv (q := 27) (r := none) (av := [.int (0 : Int32), .int x4]) (st := []) (w1 := (mk t q14)) e_127 hk_127 rfl (m_M_put _ _ _ _ _ e15) rfl rfl rfl rfl rfl ?_
    refine xOK_fg [0, 1, 3, 4] ?_
    exact t_M_one_201 t q  _ h
set_option maxRecDepth 100000 in
set_option maxHeartbeats 4000000 in
theorem t_M_one_137 (t : xS) (q : xS) (x1 x3 x4 y0 : Int32) (s : xS) (h : f_M_one_137 x1 x3 x4 y0 s = some q) : xOK 127 none (xEnd 127 none (mk t q)) (88, [some (.ref 27), some (.int x1), none, some (.int x3), some (.int x4), none, none], [.int y0]) (mk t s) 0 0 := by
  unfold f_M_one_137 at h
  refine xOK_steps (fr' := (91, [some (.ref 27), some (.int x1), none, some (.int x3), some (.int x4), some (.int y0), none], [.int (3 : Int32), .int x1])) (w' := (mk t s)) (ob := true) e_127 hk_127 3 rfl rfl ?_
  refine xu_icmp_le e_127 hk_127 rfl (fun c16 => ?_) (fun c16 => ?_)
  · have h := xif_pos c16 h
    refine xOK_steps (fr' := (130, [some (.ref 27), some (.int x1), none, some (.int x3), some (.int x4), some (.int y0), none], [.int (1 : Int32), .int x1])) (w' := (mk t s)) (ob := true) e_127 hk_127 2 rfl rfl ?_
    refine xu_icmp_ne e_127 hk_127 rfl (fun c17 => ?_) (fun c17 => ?_)
    · have h := xif_neg c17 h
      refine xOK_steps (fr' := (143, [some (.ref 27), some (.int x1), none, some (.int x3), some (.int x4), some (.int y0), none], [.int (3 : Int32), .int x1])) (w' := (mk t s)) (ob := true) e_127 hk_127 2 rfl rfl ?_
      refine xu_icmp_ne e_127 hk_127 rfl (fun c18 => ?_) (fun c18 => ?_)
      · have h := xif_neg c18 h
        refine xOK_steps (fr' := (158, [some (.ref 27), some (.int x1), none, some (.int x3), some (.int x4), some (.int y0), none], [.int x1, .int (x4 / (2 : Int32))])) (w' := (mk t s)) (ob := true) e_127 hk_127 4 rfl rfl ?_
        refine xu_if_ne e_127 hk_127 rfl (fun c19 => ?_) (fun c19 => ?_)
        · have h := xif_neg c19 h
          refine xOK_steps (fr' := (167, [some (.ref 27), some (.int x1), none, some (.int x3), some (.int x4), some (.int y0), none], [.int y0, .int x4, .int (x4 / (2 : Int32))])) (w' := (mk t s)) (ob := true) e_127 hk_127 2 rfl rfl ?_
          refine xu_icmp_lt e_127 hk_127 rfl (fun c20 => ?_) (fun c20 => ?_)
          · have h := xif_pos c20 h
            refine xOK_steps (fr' := (171, [some (.ref 27), some (.int x1), none, some (.int x3), some (.int x4), some (.int y0), none], [.int (0 : Int32), .int (x4 / (2 : Int32))])) (w' := (mk t s)) (ob := true) e_127 hk_127 1 rfl rfl ?_
            refine xOK_fg [5] ?_
            exact t_M_one_285 t q _ _ _ _ _ _ h
          · have h := xif_neg c20 h
            refine xOK_steps (fr' := (171, [some (.ref 27), some (.int x1), none, some (.int x3), some (.int x4), some (.int y0), none], [.int y0, .int (x4 / (2 : Int32))])) (w' := (mk t s)) (ob := true) e_127 hk_127 2 rfl rfl ?_
            refine xOK_fg [5] ?_
            exact t_M_one_285 t q _ _ _ _ _ _ h
        · have h := xif_pos c19 h
          refine xOK_steps (fr' := (161, [some (.ref 27), some (.int x1), none, some (.int x3), some (.int x4), some (.int y0), none], [.int (1 : Int32), .ref 27, .int (x4 / (2 : Int32))])) (w' := (mk t s)) (ob := true) e_127 hk_127 2 rfl rfl ?_
          obtain ⟨q21, e22, h⟩ := Option.bind_eq_some_iff.mp h
          refine xu_callv (q := 27) (r := (some q21.1)) (av := [.int (1 : Int32)]) (st := [.int (x4 / (2 : Int32))]) (w1 := (mk t q21.2)) e_127 hk_127 rfl (m_M_flag _ _ _ _ e22) rfl rfl rfl rfl rfl ?_
          refine xOK_steps (fr' := (171, [some (.ref 27), some (.int x1), none, some (.int x3), some (.int x4), some (.int y0), none], [.int (q21.1 * y0), .int (x4 / (2 : Int32))])) (w' := (mk t q21.2)) (ob := true) e_127 hk_127 3 rfl rfl ?_
          refine xOK_fg [5] ?_
          exact t_M_one_285 t q _ _ _ _ _ _ h
      · have h := xif_pos c18 h
        refine xOK_steps (fr' := (148, [some (.ref 27), some (.int x1), none, some (.int x3), some (.int x4), some (.int y0), none], [.int (256 : Int32), .int (xrem x4 (256 : Int32))])) (w' := (mk t s)) (ob := true) e_127 hk_127 4 rfl rfl ?_
        obtain ⟨q23, e24, h⟩ := Option.bind_eq_some_iff.mp h
        refine xu_calls (r := (some q23)) (av := [.int (xrem x4 (256 : Int32)), .int (256 : Int32)]) (st := []) (w1 := (mk t s)) e_127 hk_127 rfl rfl (m_M_signed _ _ _ _ _ e24) rfl rfl rfl rfl ?_
        refine xOK_steps (fr' := (172, [some (.ref 27), some (.int x1), none, some (.int x3), some (.int x4), some (.int y0), none], [.int (xrem (q23 + (65536 : Int32)) (65536 : Int32))])) (w' := (mk t s)) (ob := true) e_127 hk_127 5 rfl rfl ?_
        refine xOK_fg [5] ?_
        exact t_M_one_286 t q _ _ _ _ _ h
    · have h := xif_pos c17 h
      refine xOK_steps (fr' := (172, [some (.ref 27), some (.int x1), none, some (.int x3), some (.int x4), some (.int y0), none], [.int (((xrem x4 (256 : Int32)) * (256 : Int32)) + (x4 / (256 : Int32)))])) (w' := (mk t s)) (ob := true) e_127 hk_127 10 rfl rfl ?_
      refine xOK_fg [5] ?_
      exact t_M_one_286 t q _ _ _ _ _ h
  · have h := xif_neg c16 h
    refine xOK_steps (fr' := (111, [some (.ref 27), some (.int x1), none, some (.int x3), some (.int x4), some (.int y0), none], [.int (4 : Int32), .int x1, .int (((xsa s 0 1 (xrem (((s.2 0) 1) + (65534 : Int32)) (65536 : Int32))).2 0) 1), .ref 27])) (w' := (mk t (xsa s 0 1 (xrem (((s.2 0) 1) + (65534 : Int32)) (65536 : Int32))))) (ob := true) e_127 hk_127 19 rfl rfl ?_
    refine xu_icmp_ne e_127 hk_127 rfl (fun c25 => ?_) (fun c25 => ?_)
    · have h := xif_neg c25 h
      refine xOK_steps (fr' := (118, [some (.ref 27), some (.int x1), none, some (.int x3), some (.int x4), some (.int y0), none], [.int (((xsa s 0 1 (xrem (((s.2 0) 1) + (65534 : Int32)) (65536 : Int32))).2 0) 0), .int (((xsa s 0 1 (xrem (((s.2 0) 1) + (65534 : Int32)) (65536 : Int32))).2 0) 1), .ref 27])) (w' := (mk t (xsa s 0 1 (xrem (((s.2 0) 1) + (65534 : Int32)) (65536 : Int32))))) (ob := true) e_127 hk_127 4 rfl rfl ?_
      refine xOK_fg [5] ?_
      exact t_M_one_185 t q _ _ _ _ _ _ h
    · have h := xif_pos c25 h
      refine xOK_steps (fr' := (118, [some (.ref 27), some (.int x1), none, some (.int x3), some (.int x4), some (.int y0), none], [.int x4, .int (((xsa s 0 1 (xrem (((s.2 0) 1) + (65534 : Int32)) (65536 : Int32))).2 0) 1), .ref 27])) (w' := (mk t (xsa s 0 1 (xrem (((s.2 0) 1) + (65534 : Int32)) (65536 : Int32))))) (ob := true) e_127 hk_127 2 rfl rfl ?_
      refine xOK_fg [5] ?_
      exact t_M_one_185 t q _ _ _ _ _ _ h
set_option maxRecDepth 100000 in
set_option maxHeartbeats 4000000 in
theorem t_M_one_107 (t : xS) (q : xS) (x1 x2 y0 : Int32) (s : xS) (h : f_M_one_107 x1 x2 y0 s = some q) : xOK 127 none (xEnd 127 none (mk t q)) (70, [some (.ref 27), some (.int x1), some (.int x2), none, none, none, none], [.int y0]) (mk t s) 0 0 := by
  unfold f_M_one_107 at h
  refine xOK_steps (fr' := (81, [some (.ref 27), some (.int x1), some (.int x2), some (.int y0), none, none, none], [.int y0, .int (xrem (x2 / (16 : Int32)) (4 : Int32)), .int (xrem x2 (16 : Int32)), .ref 27])) (w' := (mk t s)) (ob := true) e_127 hk_127 11 rfl rfl ?_
  obtain ⟨q26, e27, h⟩ := Option.bind_eq_some_iff.mp h
  refine xu_callv (q := 27) (r := (some q26.1)) (av := [.int (xrem x2 (16 : Int32)), .int (xrem (x2 / (16 : Int32)) (4 : Int32)), .int y0]) (st := []) (w1 := (mk t q26.2)) e_127 hk_127 rfl (m_M_operand _ _ _ _ _ _ e27) rfl rfl rfl rfl rfl ?_
  refine xOK_steps (fr' := (84, [some (.ref 27), some (.int x1), some (.int x2), some (.int y0), some (.int q26.1), none, none], [.int y0])) (w' := (mk t q26.2)) (ob := true) e_127 hk_127 2 rfl rfl ?_
  refine xu_if_eq e_127 hk_127 rfl (fun c28 => ?_) (fun c28 => ?_)
  · have h := xif_pos c28 h
    refine xOK_steps (fr' := (88, [some (.ref 27), some (.int x1), some (.int x2), some (.int y0), some (.int q26.1), none, none], [.int (32768 : Int32)])) (w' := (mk t q26.2)) (ob := true) e_127 hk_127 1 rfl rfl ?_
    refine xOK_fg [2] ?_
    exact t_M_one_137 t q _ _ _ _ _ h
  · have h := xif_neg c28 h
    refine xOK_steps (fr' := (88, [some (.ref 27), some (.int x1), some (.int x2), some (.int y0), some (.int q26.1), none, none], [.int (128 : Int32)])) (w' := (mk t q26.2)) (ob := true) e_127 hk_127 2 rfl rfl ?_
    refine xOK_fg [2] ?_
    exact t_M_one_137 t q _ _ _ _ _ h
set_option maxRecDepth 100000 in
set_option maxHeartbeats 4000000 in
theorem t_M_one_106 (t : xS) (q : xS) (x1 x2 : Int32) (s : xS) (h : f_M_one_106 x1 x2 s = some q) : xOK 127 none (xEnd 127 none (mk t q)) (69, [some (.ref 27), some (.int x1), some (.int x2), none, none, none, none], []) (mk t s) 0 0 := by
  unfold f_M_one_106 at h
  refine xOK_steps (fr' := (70, [some (.ref 27), some (.int x1), some (.int x2), none, none, none, none], [.int (0 : Int32)])) (w' := (mk t s)) (ob := true) e_127 hk_127 1 rfl rfl ?_
  exact t_M_one_107 t q _ _ _ _ h
set_option maxRecDepth 100000 in
set_option maxHeartbeats 4000000 in
theorem m_M_one (x1 x2 : Int32) (s t : xS) (q : xS) (h : f_M_one x1 x2 s = some q) : xMet 127 [.ref 27, .int x1, .int x2] (mk t s) none (mk t q) := by
  refine xMet_of hk_127 rfl rfl rfl ?_
  refine xOK_eq (fr := (0, [some (.ref 27), some (.int x1), some (.int x2), none, none, none, none], [])) rfl ?_
  unfold f_M_one at h
  refine xOK_steps (fr' := (2, [some (.ref 27), some (.int x1), some (.int x2), none, none, none, none], [.int (7 : Int32), .int x1])) (w' := (mk t s)) (ob := true) e_127 hk_127 2 rfl rfl ?_
  refine xu_icmp_ne e_127 hk_127 rfl (fun c29 => ?_) (fun c29 => ?_)
  · have h := xif_neg c29 h
    refine xOK_steps (fr' := (6, [some (.ref 27), some (.int x1), some (.int x2), none, none, none, none], [.int (6 : Int32), .int x1])) (w' := (mk t s)) (ob := true) e_127 hk_127 2 rfl rfl ?_
    refine xu_icmp_ne e_127 hk_127 rfl (fun c30 => ?_) (fun c30 => ?_)
    · have h := xif_neg c30 h
      refine xOK_steps (fr' := (62, [some (.ref 27), some (.int x1), some (.int x2), none, none, none, none], [.int (1 : Int32), .int (xrem (x2 / (64 : Int32)) (2 : Int32))])) (w' := (mk t s)) (ob := true) e_127 hk_127 6 rfl rfl ?_
      refine xu_icmp_ne e_127 hk_127 rfl (fun c31 => ?_) (fun c31 => ?_)
      · have h := xif_neg c31 h
        exact t_M_one_106 t q _ _ _ h
      · have h := xif_pos c31 h
        refine xOK_steps (fr' := (66, [some (.ref 27), some (.int x1), some (.int x2), none, none, none, none], [.int (xrem x1 (2 : Int32))])) (w' := (mk t s)) (ob := true) e_127 hk_127 3 rfl rfl ?_
        refine xu_if_ne e_127 hk_127 rfl (fun c32 => ?_) (fun c32 => ?_)
        · have h := xif_neg c32 h
          exact t_M_one_106 t q _ _ _ h
        · have h := xif_pos c32 h
          refine xOK_steps (fr' := (70, [some (.ref 27), some (.int x1), some (.int x2), none, none, none, none], [.int (1 : Int32)])) (w' := (mk t s)) (ob := true) e_127 hk_127 2 rfl rfl ?_
          exact t_M_one_107 t q _ _ _ _ h
    · have h := xif_pos c30 h
      refine xOK_steps (fr' := (13, [some (.ref 27), some (.int x1), some (.int x2), none, none, none, none], [.int (0 : Int32), .int ((s.2 0) 1), .ref 27])) (w' := (mk t s)) (ob := true) e_127 hk_127 6 rfl rfl ?_
      obtain ⟨q33, e34, h⟩ := Option.bind_eq_some_iff.mp h
      refine xu_callv (q := 27) (r := (some q33.1)) (av := [.int ((s.2 0) 1), .int (0 : Int32)]) (st := []) (w1 := (mk t q33.2)) e_127 hk_127 rfl (m_M_loaded _ _ _ _ _ e34) rfl rfl rfl rfl rfl ?_
      refine xOK_steps (fr' := (18, [some (.ref 27), some (.int x1), some (.int x2), some (.int q33.1), none, none, none], [.int q33.1, .int (2 : Int32), .ref 27])) (w' := (mk t q33.2)) (ob := true) e_127 hk_127 4 rfl rfl ?_
      obtain ⟨q35, e36, h⟩ := Option.bind_eq_some_iff.mp h
      refine xu_callv (q := 27) (r := none) (av := [.int (2 : Int32), .int q33.1]) (st := []) (w1 := (mk t q35)) e_127 hk_127 rfl (m_M_put _ _ _ _ _ e36) rfl rfl rfl rfl rfl ?_
      refine xOK_steps (fr' := (37, [some (.ref 27), some (.int x1), some (.int x2), some (.int q33.1), none, none, none], [.int (0 : Int32), .int (((xsa q35 0 1 (xrem (((q35.2 0) 1) + (2 : Int32)) (65536 : Int32))).2 0) 1), .ref 27])) (w' := (mk t (xsa q35 0 1 (xrem (((q35.2 0) 1) + (2 : Int32)) (65536 : Int32))))) (ob := true) e_127 hk_127 18 rfl rfl ?_
      obtain ⟨q37, e38, h⟩ := Option.bind_eq_some_iff.mp h
      refine xu_callv (q := 27) (r := (some q37.1)) (av := [.int (((xsa q35 0 1 (xrem (((q35.2 0) 1) + (2 : Int32)) (65536 : Int32))).2 0) 1), .int (0 : Int32)]) (st := []) (w1 := (mk t q37.2)) e_127 hk_127 rfl (m_M_loaded _ _ _ _ _ e38) rfl rfl rfl rfl rfl ?_
      refine xOK_steps (fr' := (42, [some (.ref 27), some (.int x1), some (.int x2), some (.int q33.1), some (.int q37.1), none, none], [.int q37.1, .int (0 : Int32), .ref 27])) (w' := (mk t q37.2)) (ob := true) e_127 hk_127 4 rfl rfl ?_
      obtain ⟨q39, e40, h⟩ := Option.bind_eq_some_iff.mp h
      refine xu_callv (q := 27) (r := none) (av := [.int (0 : Int32), .int q37.1]) (st := []) (w1 := (mk t q39)) e_127 hk_127 rfl (m_M_put _ _ _ _ _ e40) rfl rfl rfl rfl rfl ?_
      refine xOK_steps (fr' := (55, [some (.ref 27), some (.int x1), some (.int x2), some (.int q33.1), some (.int q37.1), none, none], [])) (w' := (mk t (xsa q39 0 1 (xrem (((q39.2 0) 1) + (2 : Int32)) (65536 : Int32))))) (ob := true) e_127 hk_127 12 rfl rfl ?_
      cases h
      exact xu_vret e_127 hk_127 rfl rfl
  · have h := xif_pos c29 h
    cases h
    exact xu_vret e_127 hk_127 rfl rfl
set_option maxRecDepth 100000 in
set_option maxHeartbeats 4000000 in
theorem t_M_jump_223 (t : xS) (q : xS) (y1 y2 : Int32) (s : xS) (h : f_M_jump_223 y1 y2 s = some q) : xOK 121 none (xEnd 121 none (mk t q)) (119, [none, none, none, none, none, none, none], [.int y2, .int y1, .ref 28]) (mk t s) 0 0 := by
  unfold f_M_jump_223 at h
  by_cases o1 : xin y1 16 = true
  case neg => have h := xif_neg o1 h; cases h
  have h := xif_pos o1 h
  refine xOK_steps (fr' := (120, [none, none, none, none, none, none, none], [])) (w' := (mk t (xsa s 0 (y1).toNatClampNeg y2))) (ob := xin y1 16 && (true)) e_121 hk_121 1 rfl (xand o1 rfl) ?_
  cases h
  exact xu_vret e_121 hk_121 rfl rfl
set_option maxRecDepth 100000 in
set_option maxHeartbeats 4000000 in
theorem t_M_jump_172 (t : xS) (q : xS) (x1 y0 : Int32) (s : xS) (h : f_M_jump_172 x1 y0 s = some q) : xOK 121 none (xEnd 121 none (mk t q)) (90, [some (.ref 27), some (.int x1), none, none, none, none, none], [.int y0]) (mk t s) 0 0 := by
  unfold f_M_jump_172 at h
  refine xOK_steps (fr' := (95, [some (.ref 27), some (.int x1), none, none, none, some (.int y0), none], [.int (1024 : Int32), .int (xrem x1 (1024 : Int32))])) (w' := (mk t s)) (ob := true) e_121 hk_121 5 rfl rfl ?_
  obtain ⟨q2, e3, h⟩ := Option.bind_eq_some_iff.mp h
  refine xu_calls (r := (some q2)) (av := [.int (xrem x1 (1024 : Int32)), .int (1024 : Int32)]) (st := []) (w1 := (mk t s)) e_121 hk_121 rfl rfl (m_M_signed _ _ _ _ _ e3) rfl rfl rfl rfl ?_
  refine xOK_steps (fr' := (101, [some (.ref 27), some (.int x1), none, none, none, some (.int y0), some (.int q2)], [.int y0, .int (0 : Int32), .ref 28])) (w' := (mk t s)) (ob := true) e_121 hk_121 5 rfl rfl ?_
  refine xu_if_eq e_121 hk_121 rfl (fun c4 => ?_) (fun c4 => ?_)
  · have h := xif_pos c4 h
    refine xOK_steps (fr' := (119, [some (.ref 27), some (.int x1), none, none, none, some (.int y0), some (.int q2)], [.int ((s.2 0) 0), .int (0 : Int32), .ref 28])) (w' := (mk t s)) (ob := true) e_121 hk_121 4 rfl rfl ?_
    refine xOK_fg [0, 1, 5, 6] ?_
    exact t_M_jump_223 t q _ _ _ h
  · have h := xif_neg c4 h
    refine xOK_steps (fr' := (119, [some (.ref 27), some (.int x1), none, none, none, some (.int y0), some (.int q2)], [.int (xrem ((((s.2 0) 0) + ((2 : Int32) * q2)) + (65536 : Int32)) (65536 : Int32)), .int (0 : Int32), .ref 28])) (w' := (mk t s)) (ob := true) e_121 hk_121 13 rfl rfl ?_
    refine xOK_fg [0, 1, 5, 6] ?_
    exact t_M_jump_223 t q _ _ _ h
set_option maxRecDepth 100000 in
set_option maxHeartbeats 4000000 in
theorem m_M_jump (x1 : Int32) (s t : xS) (q : xS) (h : f_M_jump x1 s = some q) : xMet 121 [.ref 27, .int x1] (mk t s) none (mk t q) := by
  refine xMet_of hk_121 rfl rfl rfl ?_
  refine xOK_eq (fr := (0, [some (.ref 27), some (.int x1), none, none, none, none, none], [])) rfl ?_
  unfold f_M_jump at h
  refine xOK_steps (fr' := (2, [some (.ref 27), some (.int x1), none, none, none, none, none], [.int (4 : Int32), .ref 27])) (w' := (mk t s)) (ob := true) e_121 hk_121 2 rfl rfl ?_
  obtain ⟨q5, e6, h⟩ := Option.bind_eq_some_iff.mp h
  refine xu_callv (q := 27) (r := (some q5.1)) (av := [.int (4 : Int32)]) (st := []) (w1 := (mk t q5.2)) e_121 hk_121 rfl (m_M_flag _ _ _ _ e6) rfl rfl rfl rfl rfl ?_
  refine xOK_steps (fr' := (6, [some (.ref 27), some (.int x1), some (.int q5.1), none, none, none, none], [.int (256 : Int32), .ref 27])) (w' := (mk t q5.2)) (ob := true) e_121 hk_121 3 rfl rfl ?_
  obtain ⟨q7, e8, h⟩ := Option.bind_eq_some_iff.mp h
  refine xu_callv (q := 27) (r := (some q7.1)) (av := [.int (256 : Int32)]) (st := []) (w1 := (mk t q7.2)) e_121 hk_121 rfl (m_M_flag _ _ _ _ e8) rfl rfl rfl rfl rfl ?_
  refine xOK_steps (fr' := (15, [some (.ref 27), some (.int x1), some (.int q5.1), some (.int q7.1), some (.int (xrem (x1 / (1024 : Int32)) (8 : Int32))), none, none], [.int (xrem (x1 / (1024 : Int32)) (8 : Int32))])) (w' := (mk t q7.2)) (ob := true) e_121 hk_121 8 rfl rfl ?_
  refine xu_if_ne e_121 hk_121 rfl (fun c9 => ?_) (fun c9 => ?_)
  · have h := xif_neg c9 h
    refine xOK_steps (fr' := (26, [some (.ref 27), some (.int x1), some (.int q5.1), some (.int q7.1), some (.int (xrem (x1 / (1024 : Int32)) (8 : Int32))), none, none], [.int (1 : Int32), .int (xrem (x1 / (1024 : Int32)) (8 : Int32))])) (w' := (mk t q7.2)) (ob := true) e_121 hk_121 2 rfl rfl ?_
    refine xu_icmp_ne e_121 hk_121 rfl (fun c10 => ?_) (fun c10 => ?_)
    · have h := xif_neg c10 h
      refine xOK_steps (fr' := (38, [some (.ref 27), some (.int x1), some (.int q5.1), some (.int q7.1), some (.int (xrem (x1 / (1024 : Int32)) (8 : Int32))), none, none], [.int (2 : Int32), .int (xrem (x1 / (1024 : Int32)) (8 : Int32))])) (w' := (mk t q7.2)) (ob := true) e_121 hk_121 2 rfl rfl ?_
      refine xu_icmp_ne e_121 hk_121 rfl (fun c11 => ?_) (fun c11 => ?_)
      · have h := xif_neg c11 h
        refine xOK_steps (fr' := (49, [some (.ref 27), some (.int x1), some (.int q5.1), some (.int q7.1), some (.int (xrem (x1 / (1024 : Int32)) (8 : Int32))), none, none], [.int (3 : Int32), .int (xrem (x1 / (1024 : Int32)) (8 : Int32))])) (w' := (mk t q7.2)) (ob := true) e_121 hk_121 2 rfl rfl ?_
        refine xu_icmp_ne e_121 hk_121 rfl (fun c12 => ?_) (fun c12 => ?_)
        · have h := xif_neg c12 h
          refine xOK_steps (fr' := (61, [some (.ref 27), some (.int x1), some (.int q5.1), some (.int q7.1), some (.int (xrem (x1 / (1024 : Int32)) (8 : Int32))), none, none], [.int (4 : Int32), .int (xrem (x1 / (1024 : Int32)) (8 : Int32))])) (w' := (mk t q7.2)) (ob := true) e_121 hk_121 2 rfl rfl ?_
          refine xu_icmp_ne e_121 hk_121 rfl (fun c13 => ?_) (fun c13 => ?_)
          · have h := xif_neg c13 h
            refine xOK_steps (fr' := (71, [some (.ref 27), some (.int x1), some (.int q5.1), some (.int q7.1), some (.int (xrem (x1 / (1024 : Int32)) (8 : Int32))), none, none], [.int (5 : Int32), .int (xrem (x1 / (1024 : Int32)) (8 : Int32))])) (w' := (mk t q7.2)) (ob := true) e_121 hk_121 2 rfl rfl ?_
            refine xu_icmp_ne e_121 hk_121 rfl (fun c14 => ?_) (fun c14 => ?_)
            · have h := xif_neg c14 h
              refine xOK_steps (fr' := (81, [some (.ref 27), some (.int x1), some (.int q5.1), some (.int q7.1), some (.int (xrem (x1 / (1024 : Int32)) (8 : Int32))), none, none], [.int (6 : Int32), .int (xrem (x1 / (1024 : Int32)) (8 : Int32))])) (w' := (mk t q7.2)) (ob := true) e_121 hk_121 2 rfl rfl ?_
              refine xu_icmp_ne e_121 hk_121 rfl (fun c15 => ?_) (fun c15 => ?_)
              · have h := xif_neg c15 h
                refine xOK_steps (fr' := (90, [some (.ref 27), some (.int x1), some (.int q5.1), some (.int q7.1), some (.int (xrem (x1 / (1024 : Int32)) (8 : Int32))), none, none], [.int (1 : Int32)])) (w' := (mk t q7.2)) (ob := true) e_121 hk_121 1 rfl rfl ?_
                refine xOK_fg [2, 3, 4] ?_
                exact t_M_jump_172 t q _ _ _ h
              · have h := xif_pos c15 h
                refine xOK_steps (fr' := (84, [some (.ref 27), some (.int x1), some (.int q5.1), some (.int q7.1), some (.int (xrem (x1 / (1024 : Int32)) (8 : Int32))), none, none], [.int q7.1, .int q5.1])) (w' := (mk t q7.2)) (ob := true) e_121 hk_121 2 rfl rfl ?_
                refine xu_icmp_eq e_121 hk_121 rfl (fun c16 => ?_) (fun c16 => ?_)
                · have h := xif_pos c16 h
                  refine xOK_steps (fr' := (90, [some (.ref 27), some (.int x1), some (.int q5.1), some (.int q7.1), some (.int (xrem (x1 / (1024 : Int32)) (8 : Int32))), none, none], [.int (0 : Int32)])) (w' := (mk t q7.2)) (ob := true) e_121 hk_121 2 rfl rfl ?_
                  refine xOK_fg [2, 3, 4] ?_
                  exact t_M_jump_172 t q _ _ _ h
                · have h := xif_neg c16 h
                  refine xOK_steps (fr' := (90, [some (.ref 27), some (.int x1), some (.int q5.1), some (.int q7.1), some (.int (xrem (x1 / (1024 : Int32)) (8 : Int32))), none, none], [.int (1 : Int32)])) (w' := (mk t q7.2)) (ob := true) e_121 hk_121 2 rfl rfl ?_
                  refine xOK_fg [2, 3, 4] ?_
                  exact t_M_jump_172 t q _ _ _ h
            · have h := xif_pos c14 h
              refine xOK_steps (fr' := (74, [some (.ref 27), some (.int x1), some (.int q5.1), some (.int q7.1), some (.int (xrem (x1 / (1024 : Int32)) (8 : Int32))), none, none], [.int q7.1, .int q5.1])) (w' := (mk t q7.2)) (ob := true) e_121 hk_121 2 rfl rfl ?_
              refine xu_icmp_ne e_121 hk_121 rfl (fun c17 => ?_) (fun c17 => ?_)
              · have h := xif_neg c17 h
                refine xOK_steps (fr' := (90, [some (.ref 27), some (.int x1), some (.int q5.1), some (.int q7.1), some (.int (xrem (x1 / (1024 : Int32)) (8 : Int32))), none, none], [.int (0 : Int32)])) (w' := (mk t q7.2)) (ob := true) e_121 hk_121 2 rfl rfl ?_
                refine xOK_fg [2, 3, 4] ?_
                exact t_M_jump_172 t q _ _ _ h
              · have h := xif_pos c17 h
                refine xOK_steps (fr' := (90, [some (.ref 27), some (.int x1), some (.int q5.1), some (.int q7.1), some (.int (xrem (x1 / (1024 : Int32)) (8 : Int32))), none, none], [.int (1 : Int32)])) (w' := (mk t q7.2)) (ob := true) e_121 hk_121 2 rfl rfl ?_
                refine xOK_fg [2, 3, 4] ?_
                exact t_M_jump_172 t q _ _ _ h
          · have h := xif_pos c13 h
            refine xOK_steps (fr' := (64, [some (.ref 27), some (.int x1), some (.int q5.1), some (.int q7.1), some (.int (xrem (x1 / (1024 : Int32)) (8 : Int32))), none, none], [.int (1 : Int32), .int q5.1])) (w' := (mk t q7.2)) (ob := true) e_121 hk_121 2 rfl rfl ?_
            refine xu_icmp_ne e_121 hk_121 rfl (fun c18 => ?_) (fun c18 => ?_)
            · have h := xif_neg c18 h
              refine xOK_steps (fr' := (90, [some (.ref 27), some (.int x1), some (.int q5.1), some (.int q7.1), some (.int (xrem (x1 / (1024 : Int32)) (8 : Int32))), none, none], [.int (0 : Int32)])) (w' := (mk t q7.2)) (ob := true) e_121 hk_121 2 rfl rfl ?_
              refine xOK_fg [2, 3, 4] ?_
              exact t_M_jump_172 t q _ _ _ h
            · have h := xif_pos c18 h
              refine xOK_steps (fr' := (90, [some (.ref 27), some (.int x1), some (.int q5.1), some (.int q7.1), some (.int (xrem (x1 / (1024 : Int32)) (8 : Int32))), none, none], [.int (1 : Int32)])) (w' := (mk t q7.2)) (ob := true) e_121 hk_121 2 rfl rfl ?_
              refine xOK_fg [2, 3, 4] ?_
              exact t_M_jump_172 t q _ _ _ h
        · have h := xif_pos c12 h
          refine xOK_steps (fr' := (52, [some (.ref 27), some (.int x1), some (.int q5.1), some (.int q7.1), some (.int (xrem (x1 / (1024 : Int32)) (8 : Int32))), none, none], [.int (1 : Int32), .ref 27])) (w' := (mk t q7.2)) (ob := true) e_121 hk_121 2 rfl rfl ?_
          obtain ⟨q19, e20, h⟩ := Option.bind_eq_some_iff.mp h
          refine xu_callv (q := 27) (r := (some q19.1)) (av := [.int (1 : Int32)]) (st := []) (w1 := (mk t q19.2)) e_121 hk_121 rfl (m_M_flag _ _ _ _ e20) rfl rfl rfl rfl rfl ?_
          refine xOK_steps (fr' := (54, [some (.ref 27), some (.int x1), some (.int q5.1), some (.int q7.1), some (.int (xrem (x1 / (1024 : Int32)) (8 : Int32))), none, none], [.int (1 : Int32), .int q19.1])) (w' := (mk t q19.2)) (ob := true) e_121 hk_121 1 rfl rfl ?_
          refine xu_icmp_ne e_121 hk_121 rfl (fun c21 => ?_) (fun c21 => ?_)
          · have h := xif_neg c21 h
            refine xOK_steps (fr' := (90, [some (.ref 27), some (.int x1), some (.int q5.1), some (.int q7.1), some (.int (xrem (x1 / (1024 : Int32)) (8 : Int32))), none, none], [.int (0 : Int32)])) (w' := (mk t q19.2)) (ob := true) e_121 hk_121 2 rfl rfl ?_
            refine xOK_fg [2, 3, 4] ?_
            exact t_M_jump_172 t q _ _ _ h
          · have h := xif_pos c21 h
            refine xOK_steps (fr' := (90, [some (.ref 27), some (.int x1), some (.int q5.1), some (.int q7.1), some (.int (xrem (x1 / (1024 : Int32)) (8 : Int32))), none, none], [.int (1 : Int32)])) (w' := (mk t q19.2)) (ob := true) e_121 hk_121 2 rfl rfl ?_
            refine xOK_fg [2, 3, 4] ?_
            exact t_M_jump_172 t q _ _ _ h
      · have h := xif_pos c11 h
        refine xOK_steps (fr' := (41, [some (.ref 27), some (.int x1), some (.int q5.1), some (.int q7.1), some (.int (xrem (x1 / (1024 : Int32)) (8 : Int32))), none, none], [.int (1 : Int32), .ref 27])) (w' := (mk t q7.2)) (ob := true) e_121 hk_121 2 rfl rfl ?_
        obtain ⟨q22, e23, h⟩ := Option.bind_eq_some_iff.mp h
        refine xu_callv (q := 27) (r := (some q22.1)) (av := [.int (1 : Int32)]) (st := []) (w1 := (mk t q22.2)) e_121 hk_121 rfl (m_M_flag _ _ _ _ e23) rfl rfl rfl rfl rfl ?_
        refine xu_if_ne e_121 hk_121 rfl (fun c24 => ?_) (fun c24 => ?_)
        · have h := xif_neg c24 h
          refine xOK_steps (fr' := (90, [some (.ref 27), some (.int x1), some (.int q5.1), some (.int q7.1), some (.int (xrem (x1 / (1024 : Int32)) (8 : Int32))), none, none], [.int (0 : Int32)])) (w' := (mk t q22.2)) (ob := true) e_121 hk_121 2 rfl rfl ?_
          refine xOK_fg [2, 3, 4] ?_
          exact t_M_jump_172 t q _ _ _ h
        · have h := xif_pos c24 h
          refine xOK_steps (fr' := (90, [some (.ref 27), some (.int x1), some (.int q5.1), some (.int q7.1), some (.int (xrem (x1 / (1024 : Int32)) (8 : Int32))), none, none], [.int (1 : Int32)])) (w' := (mk t q22.2)) (ob := true) e_121 hk_121 2 rfl rfl ?_
          refine xOK_fg [2, 3, 4] ?_
          exact t_M_jump_172 t q _ _ _ h
    · have h := xif_pos c10 h
      refine xOK_steps (fr' := (29, [some (.ref 27), some (.int x1), some (.int q5.1), some (.int q7.1), some (.int (xrem (x1 / (1024 : Int32)) (8 : Int32))), none, none], [.int (2 : Int32), .ref 27])) (w' := (mk t q7.2)) (ob := true) e_121 hk_121 2 rfl rfl ?_
      obtain ⟨q25, e26, h⟩ := Option.bind_eq_some_iff.mp h
      refine xu_callv (q := 27) (r := (some q25.1)) (av := [.int (2 : Int32)]) (st := []) (w1 := (mk t q25.2)) e_121 hk_121 rfl (m_M_flag _ _ _ _ e26) rfl rfl rfl rfl rfl ?_
      refine xOK_steps (fr' := (31, [some (.ref 27), some (.int x1), some (.int q5.1), some (.int q7.1), some (.int (xrem (x1 / (1024 : Int32)) (8 : Int32))), none, none], [.int (1 : Int32), .int q25.1])) (w' := (mk t q25.2)) (ob := true) e_121 hk_121 1 rfl rfl ?_
      refine xu_icmp_ne e_121 hk_121 rfl (fun c27 => ?_) (fun c27 => ?_)
      · have h := xif_neg c27 h
        refine xOK_steps (fr' := (90, [some (.ref 27), some (.int x1), some (.int q5.1), some (.int q7.1), some (.int (xrem (x1 / (1024 : Int32)) (8 : Int32))), none, none], [.int (0 : Int32)])) (w' := (mk t q25.2)) (ob := true) e_121 hk_121 2 rfl rfl ?_
        refine xOK_fg [2, 3, 4] ?_
        exact t_M_jump_172 t q _ _ _ h
      · have h := xif_pos c27 h
        refine xOK_steps (fr' := (90, [some (.ref 27), some (.int x1), some (.int q5.1), some (.int q7.1), some (.int (xrem (x1 / (1024 : Int32)) (8 : Int32))), none, none], [.int (1 : Int32)])) (w' := (mk t q25.2)) (ob := true) e_121 hk_121 2 rfl rfl ?_
        refine xOK_fg [2, 3, 4] ?_
        exact t_M_jump_172 t q _ _ _ h
  · have h := xif_pos c9 h
    refine xOK_steps (fr' := (18, [some (.ref 27), some (.int x1), some (.int q5.1), some (.int q7.1), some (.int (xrem (x1 / (1024 : Int32)) (8 : Int32))), none, none], [.int (2 : Int32), .ref 27])) (w' := (mk t q7.2)) (ob := true) e_121 hk_121 2 rfl rfl ?_
    obtain ⟨q28, e29, h⟩ := Option.bind_eq_some_iff.mp h
    refine xu_callv (q := 27) (r := (some q28.1)) (av := [.int (2 : Int32)]) (st := []) (w1 := (mk t q28.2)) e_121 hk_121 rfl (m_M_flag _ _ _ _ e29) rfl rfl rfl rfl rfl ?_
    refine xu_if_ne e_121 hk_121 rfl (fun c30 => ?_) (fun c30 => ?_)
    · have h := xif_neg c30 h
      refine xOK_steps (fr' := (90, [some (.ref 27), some (.int x1), some (.int q5.1), some (.int q7.1), some (.int (xrem (x1 / (1024 : Int32)) (8 : Int32))), none, none], [.int (0 : Int32)])) (w' := (mk t q28.2)) (ob := true) e_121 hk_121 2 rfl rfl ?_
      refine xOK_fg [2, 3, 4] ?_
      exact t_M_jump_172 t q _ _ _ h
    · have h := xif_pos c30 h
      refine xOK_steps (fr' := (90, [some (.ref 27), some (.int x1), some (.int q5.1), some (.int q7.1), some (.int (xrem (x1 / (1024 : Int32)) (8 : Int32))), none, none], [.int (1 : Int32)])) (w' := (mk t q28.2)) (ob := true) e_121 hk_121 2 rfl rfl ?_
      refine xOK_fg [2, 3, 4] ?_
      exact t_M_jump_172 t q _ _ _ h
set_option maxRecDepth 100000 in
set_option maxHeartbeats 4000000 in
theorem t_M_bits_152 (t : xS) (q : (Int32 × xS)) (x6 : Int32) (s : xS) (h : f_M_bits_152 x6 s = some q) : xOK 126 none (xEnd 126 (some q.1) (mk t q.2)) (83, [none, none, none, none, none, none, some (.int x6), none, none], []) (mk t s) 0 0 := by
  unfold f_M_bits_152 at h
  refine xOK_steps (fr' := (84, [none, none, none, none, none, none, some (.int x6), none, none], [.int x6])) (w' := (mk t s)) (ob := true) e_126 hk_126 1 rfl rfl ?_
  cases h
  exact xu_iret e_126 hk_126 rfl rfl rfl
set_option maxRecDepth 100000 in
set_option maxHeartbeats 4000000 in
theorem t_M_bits_143 (t : xS) (q : (Int32 × xS)) (x4 x6 x8 y1 : Int32) (s : xS) (h : f_M_bits_143 x4 x6 x8 y1 s = some q) : xOK 126 none (xEnd 126 (some q.1) (mk t q.2)) (79, [none, none, none, none, some (.int x4), none, some (.int x6), none, some (.int x8)], [.int y1, .ref 27]) (mk t s) 0 0 := by
  unfold f_M_bits_143 at h
  refine xOK_steps (fr' := (82, [none, none, none, none, some (.int x4), none, some (.int x6), none, some (.int x8)], [.int x4, .int x6, .int x8, .int y1, .ref 27])) (w' := (mk t s)) (ob := true) e_126 hk_126 3 rfl rfl ?_
  obtain ⟨q1, e2, h⟩ := Option.bind_eq_some_iff.mp h
  refine xu_callv (q := 27) (r := none) (av := [.int y1, .int x8, .int x6, .int x4]) (st := []) (w1 := (mk t q1)) e_126 hk_126 rfl (m_M_flags _ _ _ _ _ _ _ e2) rfl rfl rfl rfl rfl ?_
  refine xOK_fg [4, 8] ?_
  exact t_M_bits_152 t q _ _ h
set_option maxRecDepth 100000 in
set_option maxHeartbeats 4000000 in
theorem t_M_bits_126 (t : xS) (q : (Int32 × xS)) (x4 x6 x8 y1 : Int32) (s : xS) (h : f_M_bits_126 x4 x6 x8 y1 s = some q) : xOK 126 none (xEnd 126 (some q.1) (mk t q.2)) (71, [some (.ref 27), none, none, none, some (.int x4), none, some (.int x6), none, some (.int x8)], [.int y1, .ref 27]) (mk t s) 0 0 := by
  unfold f_M_bits_126 at h
  obtain ⟨q3, e4, h⟩ := Option.bind_eq_some_iff.mp h
  refine xu_callv (q := 27) (r := (some q3.1)) (av := [.int y1]) (st := []) (w1 := (mk t q3.2)) e_126 hk_126 rfl (m_M_silent _ _ _ _ e4) rfl rfl rfl rfl rfl ?_
  refine xu_if_ne e_126 hk_126 rfl (fun c5 => ?_) (fun c5 => ?_)
  · have h := xif_neg c5 h
    refine xOK_fg [0, 4, 8] ?_
    exact t_M_bits_152 t q _ _ h
  · have h := xif_pos c5 h
    refine xOK_steps (fr' := (75, [some (.ref 27), none, none, none, some (.int x4), none, some (.int x6), none, some (.int x8)], [.int x6, .ref 27])) (w' := (mk t q3.2)) (ob := true) e_126 hk_126 2 rfl rfl ?_
    refine xu_if_eq e_126 hk_126 rfl (fun c6 => ?_) (fun c6 => ?_)
    · have h := xif_pos c6 h
      refine xOK_steps (fr' := (79, [some (.ref 27), none, none, none, some (.int x4), none, some (.int x6), none, some (.int x8)], [.int (0 : Int32), .ref 27])) (w' := (mk t q3.2)) (ob := true) e_126 hk_126 1 rfl rfl ?_
      refine xOK_fg [0] ?_
      exact t_M_bits_143 t q _ _ _ _ _ h
    · have h := xif_neg c6 h
      refine xOK_steps (fr' := (79, [some (.ref 27), none, none, none, some (.int x4), none, some (.int x6), none, some (.int x8)], [.int (1 : Int32), .ref 27])) (w' := (mk t q3.2)) (ob := true) e_126 hk_126 2 rfl rfl ?_
      refine xOK_fg [0] ?_
      exact t_M_bits_143 t q _ _ _ _ _ h
set_option maxRecDepth 100000 in
set_option maxHeartbeats 4000000 in
theorem t_M_bits_107 (t : xS) (q : (Int32 × xS)) (x1 x4 x6 x7 y0 : Int32) (s : xS) (h : f_M_bits_107 x1 x4 x6 x7 y0 s = some q) : xOK 126 none (xEnd 126 (some q.1) (mk t q.2)) (61, [some (.ref 27), some (.int x1), none, none, some (.int x4), none, some (.int x6), some (.int x7), none], [.int y0]) (mk t s) 0 0 := by
  unfold f_M_bits_107 at h
  refine xOK_steps (fr' := (63, [some (.ref 27), some (.int x1), none, none, some (.int x4), none, some (.int x6), some (.int x7), some (.int y0)], [.int x7])) (w' := (mk t s)) (ob := true) e_126 hk_126 2 rfl rfl ?_
  refine xu_if_eq e_126 hk_126 rfl (fun c7 => ?_) (fun c7 => ?_)
  · have h := xif_pos c7 h
    refine xOK_fg [0, 1, 4, 7, 8] ?_
    exact t_M_bits_152 t q _ _ h
  · have h := xif_neg c7 h
    refine xOK_steps (fr' := (67, [some (.ref 27), some (.int x1), none, none, some (.int x4), none, some (.int x6), some (.int x7), some (.int y0)], [.int (11 : Int32), .int x1, .ref 27])) (w' := (mk t s)) (ob := true) e_126 hk_126 3 rfl rfl ?_
    refine xu_icmp_eq e_126 hk_126 rfl (fun c8 => ?_) (fun c8 => ?_)
    · have h := xif_pos c8 h
      refine xOK_steps (fr' := (71, [some (.ref 27), some (.int x1), none, none, some (.int x4), none, some (.int x6), some (.int x7), some (.int y0)], [.int (0 : Int32), .ref 27])) (w' := (mk t s)) (ob := true) e_126 hk_126 1 rfl rfl ?_
      refine xOK_fg [1, 7] ?_
      exact t_M_bits_126 t q _ _ _ _ _ h
    · have h := xif_neg c8 h
      refine xOK_steps (fr' := (71, [some (.ref 27), some (.int x1), none, none, some (.int x4), none, some (.int x6), some (.int x7), some (.int y0)], [.int (1 : Int32), .ref 27])) (w' := (mk t s)) (ob := true) e_126 hk_126 2 rfl rfl ?_
      refine xOK_fg [1, 7] ?_
      exact t_M_bits_126 t q _ _ _ _ _ h
set_option maxRecDepth 100000 in
set_option maxHeartbeats 4000000 in
theorem t_M_bits_106 (t : xS) (q : (Int32 × xS)) (x1 x4 x6 x7 : Int32) (s : xS) (h : f_M_bits_106 x1 x4 x6 x7 s = some q) : xOK 126 none (xEnd 126 (some q.1) (mk t q.2)) (60, [some (.ref 27), some (.int x1), none, none, some (.int x4), none, some (.int x6), some (.int x7), none], []) (mk t s) 0 0 := by
  unfold f_M_bits_106 at h
  refine xOK_steps (fr' := (61, [some (.ref 27), some (.int x1), none, none, some (.int x4), none, some (.int x6), some (.int x7), none], [.int (0 : Int32)])) (w' := (mk t s)) (ob := true) e_126 hk_126 1 rfl rfl ?_
  exact t_M_bits_107 t q _ _ _ _ _ _ h
set_option maxRecDepth 100000 in
set_option maxHeartbeats 4000000 in
theorem t_M_bits_78 (t : xS) (q : (Int32 × xS)) (x1 x2 x3 x4 x5 x6 y0 : Int32) (s : xS) (h : f_M_bits_78 x1 x2 x3 x4 x5 x6 y0 s = some q) : xOK 126 none (xEnd 126 (some q.1) (mk t q.2)) (44, [some (.ref 27), some (.int x1), some (.int x2), some (.int x3), some (.int x4), some (.int x5), some (.int x6), none, none], [.int y0]) (mk t s) 0 0 := by
  unfold f_M_bits_78 at h
  refine xOK_steps (fr' := (47, [some (.ref 27), some (.int x1), some (.int x2), some (.int x3), some (.int x4), some (.int x5), some (.int x6), some (.int y0), none], [.int (14 : Int32), .int x1])) (w' := (mk t s)) (ob := true) e_126 hk_126 3 rfl rfl ?_
  refine xu_icmp_ne e_126 hk_126 rfl (fun c9 => ?_) (fun c9 => ?_)
  · have h := xif_neg c9 h
    refine xOK_fg [2, 3, 5] ?_
    exact t_M_bits_106 t q _ _ _ _ _ h
  · have h := xif_pos c9 h
    refine xOK_steps (fr' := (52, [some (.ref 27), some (.int x1), some (.int x2), some (.int x3), some (.int x4), some (.int x5), some (.int x6), some (.int y0), none], [.int (x5 / (2 : Int32)), .int x2])) (w' := (mk t s)) (ob := true) e_126 hk_126 4 rfl rfl ?_
    refine xu_icmp_lt e_126 hk_126 rfl (fun c10 => ?_) (fun c10 => ?_)
    · have h := xif_pos c10 h
      refine xOK_fg [2, 3, 5] ?_
      exact t_M_bits_106 t q _ _ _ _ _ h
    · have h := xif_neg c10 h
      refine xOK_steps (fr' := (57, [some (.ref 27), some (.int x1), some (.int x2), some (.int x3), some (.int x4), some (.int x5), some (.int x6), some (.int y0), none], [.int (x5 / (2 : Int32)), .int x3])) (w' := (mk t s)) (ob := true) e_126 hk_126 4 rfl rfl ?_
      refine xu_icmp_lt e_126 hk_126 rfl (fun c11 => ?_) (fun c11 => ?_)
      · have h := xif_pos c11 h
        refine xOK_fg [2, 3, 5] ?_
        exact t_M_bits_106 t q _ _ _ _ _ h
      · have h := xif_neg c11 h
        refine xOK_steps (fr' := (61, [some (.ref 27), some (.int x1), some (.int x2), some (.int x3), some (.int x4), some (.int x5), some (.int x6), some (.int y0), none], [.int (1 : Int32)])) (w' := (mk t s)) (ob := true) e_126 hk_126 2 rfl rfl ?_
        refine xOK_fg [2, 3, 5] ?_
        exact t_M_bits_107 t q _ _ _ _ _ _ h
set_option maxRecDepth 100000 in
set_option maxHeartbeats 4000000 in
theorem t_M_bits_77 (t : xS) (q : (Int32 × xS)) (x1 x2 x3 x4 x5 x6 : Int32) (s : xS) (h : f_M_bits_77 x1 x2 x3 x4 x5 x6 s = some q) : xOK 126 none (xEnd 126 (some q.1) (mk t q.2)) (43, [some (.ref 27), some (.int x1), some (.int x2), some (.int x3), some (.int x4), some (.int x5), some (.int x6), none, none], []) (mk t s) 0 0 := by
  unfold f_M_bits_77 at h
  refine xOK_steps (fr' := (44, [some (.ref 27), some (.int x1), some (.int x2), some (.int x3), some (.int x4), some (.int x5), some (.int x6), none, none], [.int (0 : Int32)])) (w' := (mk t s)) (ob := true) e_126 hk_126 1 rfl rfl ?_
  exact t_M_bits_78 t q _ _ _ _ _ _ _ _ h
set_option maxRecDepth 100000 in
set_option maxHeartbeats 4000000 in
theorem t_M_bits_59 (t : xS) (q : (Int32 × xS)) (x1 x2 x3 x4 x5 y0 : Int32) (s : xS) (h : f_M_bits_59 x1 x2 x3 x4 x5 y0 s = some q) : xOK 126 none (xEnd 126 (some q.1) (mk t q.2)) (34, [some (.ref 27), some (.int x1), some (.int x2), some (.int x3), some (.int x4), some (.int x5), none, none, none], [.int y0]) (mk t s) 0 0 := by
  unfold f_M_bits_59 at h
  refine xOK_steps (fr' := (37, [some (.ref 27), some (.int x1), some (.int x2), some (.int x3), some (.int x4), some (.int x5), some (.int y0), none, none], [.int (12 : Int32), .int x1])) (w' := (mk t s)) (ob := true) e_126 hk_126 3 rfl rfl ?_
  refine xu_icmp_eq e_126 hk_126 rfl (fun c12 => ?_) (fun c12 => ?_)
  · have h := xif_pos c12 h
    exact t_M_bits_77 t q _ _ _ _ _ _ _ h
  · have h := xif_neg c12 h
    refine xOK_steps (fr' := (40, [some (.ref 27), some (.int x1), some (.int x2), some (.int x3), some (.int x4), some (.int x5), some (.int y0), none, none], [.int (13 : Int32), .int x1])) (w' := (mk t s)) (ob := true) e_126 hk_126 2 rfl rfl ?_
    refine xu_icmp_eq e_126 hk_126 rfl (fun c13 => ?_) (fun c13 => ?_)
    · have h := xif_pos c13 h
      exact t_M_bits_77 t q _ _ _ _ _ _ _ h
    · have h := xif_neg c13 h
      refine xOK_steps (fr' := (44, [some (.ref 27), some (.int x1), some (.int x2), some (.int x3), some (.int x4), some (.int x5), some (.int y0), none, none], [.int (1 : Int32)])) (w' := (mk t s)) (ob := true) e_126 hk_126 2 rfl rfl ?_
      exact t_M_bits_78 t q _ _ _ _ _ _ _ _ h
set_option maxRecDepth 100000 in
set_option maxHeartbeats 4000000 in
theorem t_M_bits_13 (t : xS) (q : (Int32 × xS)) (x1 x2 x3 x4 y0 : Int32) (s : xS) (h : f_M_bits_13 x1 x2 x3 x4 y0 s = some q) : xOK 126 none (xEnd 126 (some q.1) (mk t q.2)) (5, [some (.ref 27), some (.int x1), some (.int x2), some (.int x3), some (.int x4), none, none, none, none], [.int y0]) (mk t s) 0 0 := by
  unfold f_M_bits_13 at h
  refine xOK_steps (fr' := (8, [some (.ref 27), some (.int x1), some (.int x2), some (.int x3), some (.int x4), some (.int y0), none, none, none], [.int (12 : Int32), .int x1])) (w' := (mk t s)) (ob := true) e_126 hk_126 3 rfl rfl ?_
  refine xu_icmp_ne e_126 hk_126 rfl (fun c14 => ?_) (fun c14 => ?_)
  · have h := xif_neg c14 h
    refine xOK_steps (fr' := (19, [some (.ref 27), some (.int x1), some (.int x2), some (.int x3), some (.int x4), some (.int y0), none, none, none], [.int (13 : Int32), .int x1])) (w' := (mk t s)) (ob := true) e_126 hk_126 2 rfl rfl ?_
    refine xu_icmp_ne e_126 hk_126 rfl (fun c15 => ?_) (fun c15 => ?_)
    · have h := xif_neg c15 h
      refine xOK_steps (fr' := (26, [some (.ref 27), some (.int x1), some (.int x2), some (.int x3), some (.int x4), some (.int y0), none, none, none], [.int (14 : Int32), .int x1])) (w' := (mk t s)) (ob := true) e_126 hk_126 2 rfl rfl ?_
      refine xu_icmp_ne e_126 hk_126 rfl (fun c16 => ?_) (fun c16 => ?_)
      · have h := xif_neg c16 h
        refine xOK_steps (fr' := (34, [some (.ref 27), some (.int x1), some (.int x2), some (.int x3), some (.int x4), some (.int y0), none, none, none], [.int (x3 &&& x2)])) (w' := (mk t s)) (ob := true) e_126 hk_126 3 rfl rfl ?_
        exact t_M_bits_59 t q _ _ _ _ _ _ _ h
      · have h := xif_pos c16 h
        refine xOK_steps (fr' := (34, [some (.ref 27), some (.int x1), some (.int x2), some (.int x3), some (.int x4), some (.int y0), none, none, none], [.int (x3 ^^^ x2)])) (w' := (mk t s)) (ob := true) e_126 hk_126 4 rfl rfl ?_
        exact t_M_bits_59 t q _ _ _ _ _ _ _ h
    · have h := xif_pos c15 h
      refine xOK_steps (fr' := (34, [some (.ref 27), some (.int x1), some (.int x2), some (.int x3), some (.int x4), some (.int y0), none, none, none], [.int (x3 ||| x2)])) (w' := (mk t s)) (ob := true) e_126 hk_126 4 rfl rfl ?_
      exact t_M_bits_59 t q _ _ _ _ _ _ _ h
  · have h := xif_pos c14 h
    refine xOK_steps (fr' := (34, [some (.ref 27), some (.int x1), some (.int x2), some (.int x3), some (.int x4), some (.int y0), none, none, none], [.int (x3 &&& ((y0 - (1 : Int32)) - x2))])) (w' := (mk t s)) (ob := true) e_126 hk_126 8 rfl rfl ?_
    exact t_M_bits_59 t q _ _ _ _ _ _ _ h
set_option maxRecDepth 100000 in
set_option maxHeartbeats 4000000 in
theorem m_M_bits (x1 x2 x3 x4 : Int32) (s t : xS) (q : (Int32 × xS)) (h : f_M_bits x1 x2 x3 x4 s = some q) : xMet 126 [.ref 27, .int x1, .int x2, .int x3, .int x4] (mk t s) (some q.1) (mk t q.2) := by
  refine xMet_of hk_126 rfl rfl rfl ?_
  refine xOK_eq (fr := (0, [some (.ref 27), some (.int x1), some (.int x2), some (.int x3), some (.int x4), none, none, none, none], [])) rfl ?_
  unfold f_M_bits at h
  refine xOK_steps (fr' := (1, [some (.ref 27), some (.int x1), some (.int x2), some (.int x3), some (.int x4), none, none, none, none], [.int x4])) (w' := (mk t s)) (ob := true) e_126 hk_126 1 rfl rfl ?_
  refine xu_if_eq e_126 hk_126 rfl (fun c17 => ?_) (fun c17 => ?_)
  · have h := xif_pos c17 h
    refine xOK_steps (fr' := (5, [some (.ref 27), some (.int x1), some (.int x2), some (.int x3), some (.int x4), none, none, none, none], [.int (65536 : Int32)])) (w' := (mk t s)) (ob := true) e_126 hk_126 1 rfl rfl ?_
    exact t_M_bits_13 t q _ _ _ _ _ _ h
  · have h := xif_neg c17 h
    refine xOK_steps (fr' := (5, [some (.ref 27), some (.int x1), some (.int x2), some (.int x3), some (.int x4), none, none, none, none], [.int (256 : Int32)])) (w' := (mk t s)) (ob := true) e_126 hk_126 2 rfl rfl ?_
    exact t_M_bits_13 t q _ _ _ _ _ _ h
set_option maxRecDepth 100000 in
set_option maxHeartbeats 4000000 in
theorem t_M_decimal_123 (t : xS) (q : (Int32 × xS)) (x5 : Int32) (s : xS) (h : f_M_decimal_123 x5 s = some q) : xOK 125 none (xEnd 125 (some q.1) (mk t q.2)) (69, [none, none, none, none, none, some (.int x5), none, none, none], []) (mk t s) 0 0 := by
  unfold f_M_decimal_123 at h
  refine xOK_steps (fr' := (70, [none, none, none, none, none, some (.int x5), none, none, none], [.int x5])) (w' := (mk t s)) (ob := true) e_125 hk_125 1 rfl rfl ?_
  cases h
  exact xu_iret e_125 hk_125 rfl rfl rfl
set_option maxRecDepth 100000 in
set_option maxHeartbeats 4000000 in
theorem t_M_decimal_86 (t : xS) (q : (Int32 × xS)) (lp : Int32 → Int32 → Int32 → Int32 → Int32 → Int32 → Int32 → xS → Option (Int32 × xS)) (hlp : ∀ (x1 x2 x3 x4 x5 x6 x7 : Int32) (s : xS), lp x1 x2 x3 x4 x5 x6 x7 s = some q → xOK 125 none (xEnd 125 (some q.1) (mk t q.2)) (10, [some (.ref 27), some (.int x1), some (.int x2), some (.int x3), some (.int x4), some (.int x5), some (.int x6), some (.int x7), none], []) (mk t s) 0 0) (x1 x2 x3 x4 x6 x7 y0 y1 : Int32) (s : xS) (h : f_M_decimal_86 lp x1 x2 x3 x4 x6 x7 y0 y1 s = some q) : xOK 125 none (xEnd 125 (some q.1) (mk t q.2)) (49, [some (.ref 27), some (.int x1), some (.int x2), some (.int x3), some (.int x4), none, some (.int x6), some (.int x7), none], [.int y1, .int y0]) (mk t s) 0 0 := by
  unfold f_M_decimal_86 at h
  refine xOK_steps (fr' := (10, [some (.ref 27), some (.int x1), some (.int x2), some (.int x3), some (.int x4), some (.int (y0 + (y1 * x6))), some (.int (x6 * (16 : Int32))), some (.int (x7 + (1 : Int32))), none], [])) (w' := (mk t s)) (ob := true) e_125 hk_125 10 rfl rfl ?_
  exact hlp _ _ _ _ _ _ _ _ h
set_option maxRecDepth 100000 in
set_option maxHeartbeats 4000000 in
theorem t_M_decimal_62 (t : xS) (q : (Int32 × xS)) (lp : Int32 → Int32 → Int32 → Int32 → Int32 → Int32 → Int32 → xS → Option (Int32 × xS)) (hlp : ∀ (x1 x2 x3 x4 x5 x6 x7 : Int32) (s : xS), lp x1 x2 x3 x4 x5 x6 x7 s = some q → xOK 125 none (xEnd 125 (some q.1) (mk t q.2)) (10, [some (.ref 27), some (.int x1), some (.int x2), some (.int x3), some (.int x4), some (.int x5), some (.int x6), some (.int x7), none], []) (mk t s) 0 0) (x1 x2 x3 x5 x6 x7 x8 y0 : Int32) (s : xS) (h : f_M_decimal_62 lp x1 x2 x3 x5 x6 x7 x8 y0 s = some q) : xOK 125 none (xEnd 125 (some q.1) (mk t q.2)) (37, [some (.ref 27), some (.int x1), some (.int x2), some (.int x3), none, some (.int x5), some (.int x6), some (.int x7), some (.int x8)], [.int y0]) (mk t s) 0 0 := by
  unfold f_M_decimal_62 at h
  refine xOK_steps (fr' := (41, [some (.ref 27), some (.int x1), some (.int x2), some (.int x3), some (.int y0), some (.int x5), some (.int x6), some (.int x7), some (.int x8)], [.int (9 : Int32), .int x8, .int x5])) (w' := (mk t s)) (ob := true) e_125 hk_125 4 rfl rfl ?_
  refine xu_icmp_le e_125 hk_125 rfl (fun c1 => ?_) (fun c1 => ?_)
  · have h := xif_pos c1 h
    refine xOK_steps (fr' := (49, [some (.ref 27), some (.int x1), some (.int x2), some (.int x3), some (.int y0), some (.int x5), some (.int x6), some (.int x7), some (.int x8)], [.int x8, .int x5])) (w' := (mk t s)) (ob := true) e_125 hk_125 1 rfl rfl ?_
    refine xOK_fg [5, 8] ?_
    exact t_M_decimal_86 t q _ hlp _ _ _ _ _ _ _ _ _ h
  · have h := xif_neg c1 h
    refine xOK_steps (fr' := (49, [some (.ref 27), some (.int x1), some (.int x2), some (.int x3), some (.int y0), some (.int x5), some (.int x6), some (.int x7), some (.int x8)], [.int (xrem (x8 + (6 : Int32)) (16 : Int32)), .int x5])) (w' := (mk t s)) (ob := true) e_125 hk_125 6 rfl rfl ?_
    refine xOK_fg [5, 8] ?_
    exact t_M_decimal_86 t q _ hlp _ _ _ _ _ _ _ _ _ h
set_option maxRecDepth 100000 in
set_option maxHeartbeats 4000000 in
theorem t_M_decimal_27 (t : xS) (q : (Int32 × xS)) (lp : Int32 → Int32 → Int32 → Int32 → Int32 → Int32 → Int32 → xS → Option (Int32 × xS)) (hlp : ∀ (x1 x2 x3 x4 x5 x6 x7 : Int32) (s : xS), lp x1 x2 x3 x4 x5 x6 x7 s = some q → xOK 125 none (xEnd 125 (some q.1) (mk t q.2)) (10, [some (.ref 27), some (.int x1), some (.int x2), some (.int x3), some (.int x4), some (.int x5), some (.int x6), some (.int x7), none], []) (mk t s) 0 0) (x1 x2 x3 x4 x5 x6 x7 y0 y1 : Int32) (s : xS) (h : f_M_decimal_27 lp x1 x2 x3 x4 x5 x6 x7 y0 y1 s = some q) : xOK 125 none (xEnd 125 (some q.1) (mk t q.2)) (16, [some (.ref 27), some (.int x1), some (.int x2), some (.int x3), some (.int x4), some (.int x5), some (.int x6), some (.int x7), none], [.int y1, .int y0]) (mk t s) 0 0 := by
  unfold f_M_decimal_27 at h
  refine xu_icmp_ge e_125 hk_125 rfl (fun c2 => ?_) (fun c2 => ?_)
  · have h := xif_pos c2 h
    refine xOK_steps (fr' := (61, [some (.ref 27), some (.int x1), some (.int x2), some (.int x3), some (.int x4), some (.int x5), some (.int x6), some (.int x7), none], [.int (1 : Int32), .ref 27])) (w' := (mk t s)) (ob := true) e_125 hk_125 2 rfl rfl ?_
    obtain ⟨q3, e4, h⟩ := Option.bind_eq_some_iff.mp h
    refine xu_callv (q := 27) (r := (some q3.1)) (av := [.int (1 : Int32)]) (st := []) (w1 := (mk t q3.2)) e_125 hk_125 rfl (m_M_silent _ _ _ _ e4) rfl rfl rfl rfl rfl ?_
    refine xu_if_ne e_125 hk_125 rfl (fun c5 => ?_) (fun c5 => ?_)
    · have h := xif_neg c5 h
      refine xOK_fg [0, 1, 2, 3, 4, 6, 7] ?_
      exact t_M_decimal_123 t q _ _ h
    · have h := xif_pos c5 h
      refine xOK_steps (fr' := (68, [some (.ref 27), some (.int x1), some (.int x2), some (.int x3), some (.int x4), some (.int x5), some (.int x6), some (.int x7), none], [.int x3, .int x5, .int (0 : Int32), .int x4, .ref 27])) (w' := (mk t q3.2)) (ob := true) e_125 hk_125 5 rfl rfl ?_
      obtain ⟨q6, e7, h⟩ := Option.bind_eq_some_iff.mp h
      refine xu_callv (q := 27) (r := none) (av := [.int x4, .int (0 : Int32), .int x5, .int x3]) (st := []) (w1 := (mk t q6)) e_125 hk_125 rfl (m_M_flags _ _ _ _ _ _ _ e7) rfl rfl rfl rfl rfl ?_
      refine xOK_fg [0, 1, 2, 3, 4, 6, 7] ?_
      exact t_M_decimal_123 t q _ _ h
  · have h := xif_neg c2 h
    by_cases o8 : (!(x6 == 0)) = true
    case neg => have h := xif_neg o8 h; cases h
    have h := xif_pos o8 h
    by_cases o9 : (!(x6 == 0)) = true
    case neg => have h := xif_neg o9 h; cases h
    have h := xif_pos o9 h
    refine xOK_steps (fr' := (33, [some (.ref 27), some (.int x1), some (.int x2), some (.int x3), some (.int x4), some (.int x5), some (.int x6), some (.int x7), some (.int (((xrem (x1 / x6) (16 : Int32)) + (xrem (x2 / x6) (16 : Int32))) + x4))], [.int (9 : Int32), .int (((xrem (x1 / x6) (16 : Int32)) + (xrem (x2 / x6) (16 : Int32))) + x4)])) (w' := (mk t s)) (ob := (!(x6 == 0)) && ((!(x6 == 0)) && (true))) e_125 hk_125 16 rfl (xand o8 (xand o9 rfl)) ?_
    refine xu_icmp_le e_125 hk_125 rfl (fun c10 => ?_) (fun c10 => ?_)
    · have h := xif_pos c10 h
      refine xOK_steps (fr' := (37, [some (.ref 27), some (.int x1), some (.int x2), some (.int x3), some (.int x4), some (.int x5), some (.int x6), some (.int x7), some (.int (((xrem (x1 / x6) (16 : Int32)) + (xrem (x2 / x6) (16 : Int32))) + x4))], [.int (0 : Int32)])) (w' := (mk t s)) (ob := true) e_125 hk_125 1 rfl rfl ?_
      refine xOK_fg [4] ?_
      exact t_M_decimal_62 t q _ hlp _ _ _ _ _ _ _ _ _ h
    · have h := xif_neg c10 h
      refine xOK_steps (fr' := (37, [some (.ref 27), some (.int x1), some (.int x2), some (.int x3), some (.int x4), some (.int x5), some (.int x6), some (.int x7), some (.int (((xrem (x1 / x6) (16 : Int32)) + (xrem (x2 / x6) (16 : Int32))) + x4))], [.int (1 : Int32)])) (w' := (mk t s)) (ob := true) e_125 hk_125 2 rfl rfl ?_
      refine xOK_fg [4] ?_
      exact t_M_decimal_62 t q _ hlp _ _ _ _ _ _ _ _ _ h
set_option maxRecDepth 100000 in
set_option maxHeartbeats 4000000 in
theorem t_M_decimal_16 (t : xS) (q : (Int32 × xS)) : ∀ (n : Nat), ∀ (x1 x2 x3 x4 x5 x6 x7 : Int32) (s : xS), f_M_decimal_16 n x1 x2 x3 x4 x5 x6 x7 s = some q → xOK 125 none (xEnd 125 (some q.1) (mk t q.2)) (10, [some (.ref 27), some (.int x1), some (.int x2), some (.int x3), some (.int x4), some (.int x5), some (.int x6), some (.int x7), none], []) (mk t s) 0 0 := by
  intro n
  induction n with
  | zero => intro x1 x2 x3 x4 x5 x6 x7 s h; cases h
  | succ n ih =>
    intro x1 x2 x3 x4 x5 x6 x7 s h
    unfold f_M_decimal_16 at h
    refine xOK_steps (fr' := (12, [some (.ref 27), some (.int x1), some (.int x2), some (.int x3), some (.int x4), some (.int x5), some (.int x6), some (.int x7), none], [.int x3, .int x7])) (w' := (mk t s)) (ob := true) e_125 hk_125 2 rfl rfl ?_
    refine xu_if_eq e_125 hk_125 rfl (fun c11 => ?_) (fun c11 => ?_)
    · have h := xif_pos c11 h
      refine xOK_steps (fr' := (16, [some (.ref 27), some (.int x1), some (.int x2), some (.int x3), some (.int x4), some (.int x5), some (.int x6), some (.int x7), none], [.int (4 : Int32), .int x7])) (w' := (mk t s)) (ob := true) e_125 hk_125 1 rfl rfl ?_
      exact t_M_decimal_27 t q _ ih _ _ _ _ _ _ _ _ _ _ h
    · have h := xif_neg c11 h
      refine xOK_steps (fr' := (16, [some (.ref 27), some (.int x1), some (.int x2), some (.int x3), some (.int x4), some (.int x5), some (.int x6), some (.int x7), none], [.int (2 : Int32), .int x7])) (w' := (mk t s)) (ob := true) e_125 hk_125 2 rfl rfl ?_
      exact t_M_decimal_27 t q _ ih _ _ _ _ _ _ _ _ _ _ h
set_option maxRecDepth 100000 in
set_option maxHeartbeats 4000000 in
theorem m_M_decimal (x1 x2 x3 : Int32) (s t : xS) (q : (Int32 × xS)) (h : f_M_decimal x1 x2 x3 s = some q) : xMet 125 [.ref 27, .int x1, .int x2, .int x3] (mk t s) (some q.1) (mk t q.2) := by
  refine xMet_of hk_125 rfl rfl rfl ?_
  refine xOK_eq (fr := (0, [some (.ref 27), some (.int x1), some (.int x2), some (.int x3), none, none, none, none, none], [])) rfl ?_
  unfold f_M_decimal at h
  refine xOK_steps (fr' := (2, [some (.ref 27), some (.int x1), some (.int x2), some (.int x3), none, none, none, none, none], [.int (1 : Int32), .ref 27])) (w' := (mk t s)) (ob := true) e_125 hk_125 2 rfl rfl ?_
  obtain ⟨q12, e13, h⟩ := Option.bind_eq_some_iff.mp h
  refine xu_callv (q := 27) (r := (some q12.1)) (av := [.int (1 : Int32)]) (st := []) (w1 := (mk t q12.2)) e_125 hk_125 rfl (m_M_flag _ _ _ _ e13) rfl rfl rfl rfl rfl ?_
  refine xOK_steps (fr' := (10, [some (.ref 27), some (.int x1), some (.int x2), some (.int x3), some (.int q12.1), some (.int (0 : Int32)), some (.int (1 : Int32)), some (.int (0 : Int32)), none], [])) (w' := (mk t q12.2)) (ob := true) e_125 hk_125 7 rfl rfl ?_
  exact t_M_decimal_16 t q _ _ _ _ _ _ _ _ _ h
set_option maxRecDepth 100000 in
set_option maxHeartbeats 4000000 in
theorem t_M_sum_155 (t : xS) (q : (Int32 × xS)) (x10 : Int32) (s : xS) (h : f_M_sum_155 x10 s = some q) : xOK 124 none (xEnd 124 (some q.1) (mk t q.2)) (81, [none, none, none, none, none, none, none, none, none, none, some (.int x10)], []) (mk t s) 0 0 := by
  unfold f_M_sum_155 at h
  refine xOK_steps (fr' := (82, [none, none, none, none, none, none, none, none, none, none, some (.int x10)], [.int x10])) (w' := (mk t s)) (ob := true) e_124 hk_124 1 rfl rfl ?_
  cases h
  exact xu_iret e_124 hk_124 rfl rfl rfl
set_option maxRecDepth 100000 in
set_option maxHeartbeats 4000000 in
theorem t_M_sum_148 (t : xS) (q : (Int32 × xS)) (x4 x10 y1 y2 : Int32) (s : xS) (h : f_M_sum_148 x4 x10 y1 y2 s = some q) : xOK 124 none (xEnd 124 (some q.1) (mk t q.2)) (78, [none, none, none, none, some (.int x4), none, none, none, none, none, some (.int x10)], [.int y2, .int y1, .ref 27]) (mk t s) 0 0 := by
  unfold f_M_sum_148 at h
  refine xOK_steps (fr' := (80, [none, none, none, none, some (.int x4), none, none, none, none, none, some (.int x10)], [.int x4, .int x10, .int y2, .int y1, .ref 27])) (w' := (mk t s)) (ob := true) e_124 hk_124 2 rfl rfl ?_
  obtain ⟨q1, e2, h⟩ := Option.bind_eq_some_iff.mp h
  refine xu_callv (q := 27) (r := none) (av := [.int y1, .int y2, .int x10, .int x4]) (st := []) (w1 := (mk t q1)) e_124 hk_124 rfl (m_M_flags _ _ _ _ _ _ _ e2) rfl rfl rfl rfl rfl ?_
  refine xOK_fg [4] ?_
  exact t_M_sum_155 t q _ _ h
set_option maxRecDepth 100000 in
set_option maxHeartbeats 4000000 in
theorem t_M_sum_131 (t : xS) (q : (Int32 × xS)) (x4 x5 x9 x10 y1 : Int32) (s : xS) (h : f_M_sum_131 x4 x5 x9 x10 y1 s = some q) : xOK 124 none (xEnd 124 (some q.1) (mk t q.2)) (70, [none, none, none, none, some (.int x4), some (.int x5), none, none, none, some (.int x9), some (.int x10)], [.int y1, .ref 27]) (mk t s) 0 0 := by
  unfold f_M_sum_131 at h
  refine xOK_steps (fr' := (73, [none, none, none, none, some (.int x4), some (.int x5), none, none, none, some (.int x9), some (.int x10)], [.int x5, .int x10, .int x9, .int y1, .ref 27])) (w' := (mk t s)) (ob := true) e_124 hk_124 3 rfl rfl ?_
  obtain ⟨q3, e4, h⟩ := Option.bind_eq_some_iff.mp h
  refine xu_calls (r := (some q3)) (av := [.int x10, .int x5]) (st := [.int x9, .int y1, .ref 27]) (w1 := (mk t s)) e_124 hk_124 rfl rfl (m_M_signed _ _ _ _ _ e4) rfl rfl rfl rfl ?_
  refine xu_icmp_eq e_124 hk_124 rfl (fun c5 => ?_) (fun c5 => ?_)
  · have h := xif_pos c5 h
    refine xOK_steps (fr' := (78, [none, none, none, none, some (.int x4), some (.int x5), none, none, none, some (.int x9), some (.int x10)], [.int (0 : Int32), .int y1, .ref 27])) (w' := (mk t s)) (ob := true) e_124 hk_124 1 rfl rfl ?_
    refine xOK_fg [5, 9] ?_
    exact t_M_sum_148 t q _ _ _ _ _ h
  · have h := xif_neg c5 h
    refine xOK_steps (fr' := (78, [none, none, none, none, some (.int x4), some (.int x5), none, none, none, some (.int x9), some (.int x10)], [.int (1 : Int32), .int y1, .ref 27])) (w' := (mk t s)) (ob := true) e_124 hk_124 2 rfl rfl ?_
    refine xOK_fg [5, 9] ?_
    exact t_M_sum_148 t q _ _ _ _ _ h
set_option maxRecDepth 100000 in
set_option maxHeartbeats 4000000 in
theorem t_M_sum_112 (t : xS) (q : (Int32 × xS)) (x4 x5 x8 x9 x10 y1 : Int32) (s : xS) (h : f_M_sum_112 x4 x5 x8 x9 x10 y1 s = some q) : xOK 124 none (xEnd 124 (some q.1) (mk t q.2)) (61, [some (.ref 27), none, none, none, some (.int x4), some (.int x5), none, none, some (.int x8), some (.int x9), some (.int x10)], [.int y1, .ref 27]) (mk t s) 0 0 := by
  unfold f_M_sum_112 at h
  obtain ⟨q6, e7, h⟩ := Option.bind_eq_some_iff.mp h
  refine xu_callv (q := 27) (r := (some q6.1)) (av := [.int y1]) (st := []) (w1 := (mk t q6.2)) e_124 hk_124 rfl (m_M_silent _ _ _ _ e7) rfl rfl rfl rfl rfl ?_
  refine xu_if_ne e_124 hk_124 rfl (fun c8 => ?_) (fun c8 => ?_)
  · have h := xif_neg c8 h
    refine xOK_fg [0, 4, 5, 8, 9] ?_
    exact t_M_sum_155 t q _ _ h
  · have h := xif_pos c8 h
    refine xOK_steps (fr' := (66, [some (.ref 27), none, none, none, some (.int x4), some (.int x5), none, none, some (.int x8), some (.int x9), some (.int x10)], [.int x5, .int x8, .ref 27])) (w' := (mk t q6.2)) (ob := true) e_124 hk_124 3 rfl rfl ?_
    refine xu_icmp_lt e_124 hk_124 rfl (fun c9 => ?_) (fun c9 => ?_)
    · have h := xif_pos c9 h
      refine xOK_steps (fr' := (70, [some (.ref 27), none, none, none, some (.int x4), some (.int x5), none, none, some (.int x8), some (.int x9), some (.int x10)], [.int (0 : Int32), .ref 27])) (w' := (mk t q6.2)) (ob := true) e_124 hk_124 1 rfl rfl ?_
      refine xOK_fg [0, 8] ?_
      exact t_M_sum_131 t q _ _ _ _ _ _ h
    · have h := xif_neg c9 h
      refine xOK_steps (fr' := (70, [some (.ref 27), none, none, none, some (.int x4), some (.int x5), none, none, some (.int x8), some (.int x9), some (.int x10)], [.int (1 : Int32), .ref 27])) (w' := (mk t q6.2)) (ob := true) e_124 hk_124 2 rfl rfl ?_
      refine xOK_fg [0, 8] ?_
      exact t_M_sum_131 t q _ _ _ _ _ _ h
set_option maxRecDepth 100000 in
set_option maxHeartbeats 4000000 in
theorem t_M_sum_63 (t : xS) (q : (Int32 × xS)) (x1 x3 x4 x5 x6 y0 : Int32) (s : xS) (h : f_M_sum_63 x1 x3 x4 x5 x6 y0 s = some q) : xOK 124 none (xEnd 124 (some q.1) (mk t q.2)) (33, [some (.ref 27), some (.int x1), none, some (.int x3), some (.int x4), some (.int x5), some (.int x6), none, none, none, none], [.int y0]) (mk t s) 0 0 := by
  unfold f_M_sum_63 at h
  refine xOK_steps (fr' := (42, [some (.ref 27), some (.int x1), none, some (.int x3), some (.int x4), some (.int x5), some (.int x6), some (.int y0), some (.int ((x3 + x6) + y0)), none, none], [.int x5, .int x3])) (w' := (mk t s)) (ob := true) e_124 hk_124 9 rfl rfl ?_
  obtain ⟨q10, e11, h⟩ := Option.bind_eq_some_iff.mp h
  refine xu_calls (r := (some q10)) (av := [.int x3, .int x5]) (st := []) (w1 := (mk t s)) e_124 hk_124 rfl rfl (m_M_signed _ _ _ _ _ e11) rfl rfl rfl rfl ?_
  refine xOK_steps (fr' := (45, [some (.ref 27), some (.int x1), none, some (.int x3), some (.int x4), some (.int x5), some (.int x6), some (.int y0), some (.int ((x3 + x6) + y0)), none, none], [.int x5, .int x6, .int q10])) (w' := (mk t s)) (ob := true) e_124 hk_124 2 rfl rfl ?_
  obtain ⟨q12, e13, h⟩ := Option.bind_eq_some_iff.mp h
  refine xu_calls (r := (some q12)) (av := [.int x6, .int x5]) (st := [.int q10]) (w1 := (mk t s)) e_124 hk_124 rfl rfl (m_M_signed _ _ _ _ _ e13) rfl rfl rfl rfl ?_
  by_cases o14 : (!(x5 == 0)) = true
  case neg => have h := xif_neg o14 h; cases h
  have h := xif_pos o14 h
  refine xOK_steps (fr' := (57, [some (.ref 27), some (.int x1), none, some (.int x3), some (.int x4), some (.int x5), some (.int x6), some (.int y0), some (.int ((x3 + x6) + y0)), some (.int ((q10 + q12) + y0)), some (.int (xrem ((x3 + x6) + y0) x5))], [.int (9 : Int32), .int x1, .ref 27])) (w' := (mk t s)) (ob := (!(x5 == 0)) && (true)) e_124 hk_124 11 rfl (xand o14 rfl) ?_
  refine xu_icmp_eq e_124 hk_124 rfl (fun c15 => ?_) (fun c15 => ?_)
  · have h := xif_pos c15 h
    refine xOK_steps (fr' := (61, [some (.ref 27), some (.int x1), none, some (.int x3), some (.int x4), some (.int x5), some (.int x6), some (.int y0), some (.int ((x3 + x6) + y0)), some (.int ((q10 + q12) + y0)), some (.int (xrem ((x3 + x6) + y0) x5))], [.int (0 : Int32), .ref 27])) (w' := (mk t s)) (ob := true) e_124 hk_124 1 rfl rfl ?_
    refine xOK_fg [1, 3, 6, 7] ?_
    exact t_M_sum_112 t q _ _ _ _ _ _ _ h
  · have h := xif_neg c15 h
    refine xOK_steps (fr' := (61, [some (.ref 27), some (.int x1), none, some (.int x3), some (.int x4), some (.int x5), some (.int x6), some (.int y0), some (.int ((x3 + x6) + y0)), some (.int ((q10 + q12) + y0)), some (.int (xrem ((x3 + x6) + y0) x5))], [.int (1 : Int32), .ref 27])) (w' := (mk t s)) (ob := true) e_124 hk_124 2 rfl rfl ?_
    refine xOK_fg [1, 3, 6, 7] ?_
    exact t_M_sum_112 t q _ _ _ _ _ _ _ h
set_option maxRecDepth 100000 in
set_option maxHeartbeats 4000000 in
theorem t_M_sum_45 (t : xS) (q : (Int32 × xS)) (x1 x3 x4 x5 x6 : Int32) (s : xS) (h : f_M_sum_45 x1 x3 x4 x5 x6 s = some q) : xOK 124 none (xEnd 124 (some q.1) (mk t q.2)) (23, [some (.ref 27), some (.int x1), none, some (.int x3), some (.int x4), some (.int x5), some (.int x6), none, none, none, none], []) (mk t s) 0 0 := by
  unfold f_M_sum_45 at h
  refine xOK_steps (fr' := (25, [some (.ref 27), some (.int x1), none, some (.int x3), some (.int x4), some (.int x5), some (.int x6), none, none, none, none], [.int (1 : Int32), .ref 27])) (w' := (mk t s)) (ob := true) e_124 hk_124 2 rfl rfl ?_
  obtain ⟨q16, e17, h⟩ := Option.bind_eq_some_iff.mp h
  refine xu_callv (q := 27) (r := (some q16.1)) (av := [.int (1 : Int32)]) (st := []) (w1 := (mk t q16.2)) e_124 hk_124 rfl (m_M_flag _ _ _ _ e17) rfl rfl rfl rfl rfl ?_
  refine xOK_steps (fr' := (33, [some (.ref 27), some (.int x1), none, some (.int x3), some (.int x4), some (.int x5), some (.int x6), none, none, none, none], [.int q16.1])) (w' := (mk t q16.2)) (ob := true) e_124 hk_124 1 rfl rfl ?_
  exact t_M_sum_63 t q _ _ _ _ _ _ _ h
set_option maxRecDepth 100000 in
set_option maxHeartbeats 4000000 in
theorem t_M_sum_31 (t : xS) (q : (Int32 × xS)) (x1 x3 x4 x5 y0 : Int32) (s : xS) (h : f_M_sum_31 x1 x3 x4 x5 y0 s = some q) : xOK 124 none (xEnd 124 (some q.1) (mk t q.2)) (16, [some (.ref 27), some (.int x1), none, some (.int x3), some (.int x4), some (.int x5), none, none, none, none, none], [.int y0]) (mk t s) 0 0 := by
  unfold f_M_sum_31 at h
  refine xOK_steps (fr' := (19, [some (.ref 27), some (.int x1), none, some (.int x3), some (.int x4), some (.int x5), some (.int y0), none, none, none, none], [.int (6 : Int32), .int x1])) (w' := (mk t s)) (ob := true) e_124 hk_124 3 rfl rfl ?_
  refine xu_icmp_eq e_124 hk_124 rfl (fun c18 => ?_) (fun c18 => ?_)
  · have h := xif_pos c18 h
    exact t_M_sum_45 t q _ _ _ _ _ _ h
  · have h := xif_neg c18 h
    refine xOK_steps (fr' := (22, [some (.ref 27), some (.int x1), none, some (.int x3), some (.int x4), some (.int x5), some (.int y0), none, none, none, none], [.int (7 : Int32), .int x1])) (w' := (mk t s)) (ob := true) e_124 hk_124 2 rfl rfl ?_
    refine xu_icmp_ne e_124 hk_124 rfl (fun c19 => ?_) (fun c19 => ?_)
    · have h := xif_neg c19 h
      refine xOK_steps (fr' := (29, [some (.ref 27), some (.int x1), none, some (.int x3), some (.int x4), some (.int x5), some (.int y0), none, none, none, none], [.int (5 : Int32), .int x1])) (w' := (mk t s)) (ob := true) e_124 hk_124 2 rfl rfl ?_
      refine xu_icmp_ne e_124 hk_124 rfl (fun c20 => ?_) (fun c20 => ?_)
      · have h := xif_neg c20 h
        refine xOK_steps (fr' := (33, [some (.ref 27), some (.int x1), none, some (.int x3), some (.int x4), some (.int x5), some (.int y0), none, none, none, none], [.int (1 : Int32)])) (w' := (mk t s)) (ob := true) e_124 hk_124 1 rfl rfl ?_
        exact t_M_sum_63 t q _ _ _ _ _ _ _ h
      · have h := xif_pos c20 h
        refine xOK_steps (fr' := (33, [some (.ref 27), some (.int x1), none, some (.int x3), some (.int x4), some (.int x5), some (.int y0), none, none, none, none], [.int (0 : Int32)])) (w' := (mk t s)) (ob := true) e_124 hk_124 2 rfl rfl ?_
        exact t_M_sum_63 t q _ _ _ _ _ _ _ h
    · have h := xif_pos c19 h
      exact t_M_sum_45 t q _ _ _ _ _ _ h
set_option maxRecDepth 100000 in
set_option maxHeartbeats 4000000 in
theorem t_M_sum_13 (t : xS) (q : (Int32 × xS)) (x1 x2 x3 x4 y0 : Int32) (s : xS) (h : f_M_sum_13 x1 x2 x3 x4 y0 s = some q) : xOK 124 none (xEnd 124 (some q.1) (mk t q.2)) (5, [some (.ref 27), some (.int x1), some (.int x2), some (.int x3), some (.int x4), none, none, none, none, none, none], [.int y0]) (mk t s) 0 0 := by
  unfold f_M_sum_13 at h
  refine xOK_steps (fr' := (8, [some (.ref 27), some (.int x1), some (.int x2), some (.int x3), some (.int x4), some (.int y0), none, none, none, none, none], [.int (7 : Int32), .int x1])) (w' := (mk t s)) (ob := true) e_124 hk_124 3 rfl rfl ?_
  refine xu_icmp_ge e_124 hk_124 rfl (fun c21 => ?_) (fun c21 => ?_)
  · have h := xif_pos c21 h
    refine xOK_steps (fr' := (16, [some (.ref 27), some (.int x1), some (.int x2), some (.int x3), some (.int x4), some (.int y0), none, none, none, none, none], [.int ((y0 - (1 : Int32)) - x2)])) (w' := (mk t s)) (ob := true) e_124 hk_124 5 rfl rfl ?_
    refine xOK_fg [2] ?_
    exact t_M_sum_31 t q _ _ _ _ _ _ h
  · have h := xif_neg c21 h
    refine xOK_steps (fr' := (16, [some (.ref 27), some (.int x1), some (.int x2), some (.int x3), some (.int x4), some (.int y0), none, none, none, none, none], [.int x2])) (w' := (mk t s)) (ob := true) e_124 hk_124 2 rfl rfl ?_
    refine xOK_fg [2] ?_
    exact t_M_sum_31 t q _ _ _ _ _ _ h
set_option maxRecDepth 100000 in
set_option maxHeartbeats 4000000 in
theorem m_M_sum (x1 x2 x3 x4 : Int32) (s t : xS) (q : (Int32 × xS)) (h : f_M_sum x1 x2 x3 x4 s = some q) : xMet 124 [.ref 27, .int x1, .int x2, .int x3, .int x4] (mk t s) (some q.1) (mk t q.2) := by
  refine xMet_of hk_124 rfl rfl rfl ?_
  refine xOK_eq (fr := (0, [some (.ref 27), some (.int x1), some (.int x2), some (.int x3), some (.int x4), none, none, none, none, none, none], [])) rfl ?_
  unfold f_M_sum at h
  refine xOK_steps (fr' := (1, [some (.ref 27), some (.int x1), some (.int x2), some (.int x3), some (.int x4), none, none, none, none, none, none], [.int x4])) (w' := (mk t s)) (ob := true) e_124 hk_124 1 rfl rfl ?_
  refine xu_if_eq e_124 hk_124 rfl (fun c22 => ?_) (fun c22 => ?_)
  · have h := xif_pos c22 h
    refine xOK_steps (fr' := (5, [some (.ref 27), some (.int x1), some (.int x2), some (.int x3), some (.int x4), none, none, none, none, none, none], [.int (65536 : Int32)])) (w' := (mk t s)) (ob := true) e_124 hk_124 1 rfl rfl ?_
    exact t_M_sum_13 t q _ _ _ _ _ _ h
  · have h := xif_neg c22 h
    refine xOK_steps (fr' := (5, [some (.ref 27), some (.int x1), some (.int x2), some (.int x3), some (.int x4), none, none, none, none, none, none], [.int (256 : Int32)])) (w' := (mk t s)) (ob := true) e_124 hk_124 2 rfl rfl ?_
    exact t_M_sum_13 t q _ _ _ _ _ _ h
set_option maxRecDepth 100000 in
set_option maxHeartbeats 4000000 in
theorem t_M_two_226 (t : xS) (q : xS) (s : xS) (h : f_M_two_226  s = some q) : xOK 122 none (xEnd 122 none (mk t q)) (125, [none, none, none, none, none, none, none, none, none, none], []) (mk t s) 0 0 := by
  unfold f_M_two_226 at h
  cases h
  exact xu_vret e_122 hk_122 rfl rfl
set_option maxRecDepth 100000 in
set_option maxHeartbeats 4000000 in
theorem t_M_two_205 (t : xS) (q : xS) (x1 x3 y0 : Int32) (s : xS) (h : f_M_two_205 x1 x3 y0 s = some q) : xOK 122 none (xEnd 122 none (mk t q)) (114, [some (.ref 27), some (.int x1), none, some (.int x3), none, none, none, none, none, none], [.int y0]) (mk t s) 0 0 := by
  unfold f_M_two_205 at h
  refine xOK_steps (fr' := (117, [some (.ref 27), some (.int x1), none, some (.int x3), none, none, none, none, none, some (.int y0)], [.int (9 : Int32), .int x1])) (w' := (mk t s)) (ob := true) e_122 hk_122 3 rfl rfl ?_
  refine xu_icmp_eq e_122 hk_122 rfl (fun c1 => ?_) (fun c1 => ?_)
  · have h := xif_pos c1 h
    refine xOK_fg [0, 1, 3, 9] ?_
    exact t_M_two_226 t q  _ h
  · have h := xif_neg c1 h
    refine xOK_steps (fr' := (120, [some (.ref 27), some (.int x1), none, some (.int x3), none, none, none, none, none, some (.int y0)], [.int (11 : Int32), .int x1])) (w' := (mk t s)) (ob := true) e_122 hk_122 2 rfl rfl ?_
    refine xu_icmp_eq e_122 hk_122 rfl (fun c2 => ?_) (fun c2 => ?_)
    · have h := xif_pos c2 h
      refine xOK_fg [0, 1, 3, 9] ?_
      exact t_M_two_226 t q  _ h
    · have h := xif_neg c2 h
      refine xOK_steps (fr' := (124, [some (.ref 27), some (.int x1), none, some (.int x3), none, none, none, none, none, some (.int y0)], [.int x3, .int y0, .ref 27])) (w' := (mk t s)) (ob := true) e_122 hk_122 3 rfl rfl ?_
      obtain ⟨q3, e4, h⟩ := Option.bind_eq_some_iff.mp h
      refine xu_callv (q := 27) (r := none) (av := [.int y0, .int x3]) (st := []) (w1 := (mk t q3)) e_122 hk_122 rfl (m_M_back _ _ _ _ _ e4) rfl rfl rfl rfl rfl ?_
      refine xOK_fg [0, 1, 3, 9] ?_
      exact t_M_two_226 t q  _ h
set_option maxRecDepth 100000 in
set_option maxHeartbeats 4000000 in
theorem t_M_two_148 (t : xS) (q : xS) (x1 x3 x5 x8 : Int32) (s : xS) (h : f_M_two_148 x1 x3 x5 x8 s = some q) : xOK 122 none (xEnd 122 none (mk t q)) (84, [some (.ref 27), some (.int x1), none, some (.int x3), none, some (.int x5), none, none, some (.int x8), none], []) (mk t s) 0 0 := by
  unfold f_M_two_148 at h
  refine xOK_steps (fr' := (86, [some (.ref 27), some (.int x1), none, some (.int x3), none, some (.int x5), none, none, some (.int x8), none], [.int (4 : Int32), .int x1])) (w' := (mk t s)) (ob := true) e_122 hk_122 2 rfl rfl ?_
  refine xu_icmp_ne e_122 hk_122 rfl (fun c5 => ?_) (fun c5 => ?_)
  · have h := xif_neg c5 h
    refine xOK_steps (fr' := (91, [some (.ref 27), some (.int x1), none, some (.int x3), none, some (.int x5), none, none, some (.int x8), none], [.int (10 : Int32), .int x1])) (w' := (mk t s)) (ob := true) e_122 hk_122 2 rfl rfl ?_
    refine xu_icmp_ge e_122 hk_122 rfl (fun c6 => ?_) (fun c6 => ?_)
    · have h := xif_pos c6 h
      refine xOK_steps (fr' := (101, [some (.ref 27), some (.int x1), none, some (.int x3), none, some (.int x5), none, none, some (.int x8), none], [.int (10 : Int32), .int x1])) (w' := (mk t s)) (ob := true) e_122 hk_122 2 rfl rfl ?_
      refine xu_icmp_ne e_122 hk_122 rfl (fun c7 => ?_) (fun c7 => ?_)
      · have h := xif_neg c7 h
        refine xOK_steps (fr' := (113, [some (.ref 27), some (.int x1), none, some (.int x3), none, some (.int x5), none, none, some (.int x8), none], [.int x3, .int x8, .int x5, .int x1, .ref 27])) (w' := (mk t s)) (ob := true) e_122 hk_122 5 rfl rfl ?_
        obtain ⟨q8, e9, h⟩ := Option.bind_eq_some_iff.mp h
        refine xu_callv (q := 27) (r := (some q8.1)) (av := [.int x1, .int x5, .int x8, .int x3]) (st := []) (w1 := (mk t q8.2)) e_122 hk_122 rfl (m_M_bits _ _ _ _ _ _ _ e9) rfl rfl rfl rfl rfl ?_
        refine xOK_fg [5, 8] ?_
        exact t_M_two_205 t q _ _ _ _ h
      · have h := xif_pos c7 h
        refine xOK_steps (fr' := (106, [some (.ref 27), some (.int x1), none, some (.int x3), none, some (.int x5), none, none, some (.int x8), none], [.int x3, .int x8, .int x5, .ref 27])) (w' := (mk t s)) (ob := true) e_122 hk_122 4 rfl rfl ?_
        obtain ⟨q10, e11, h⟩ := Option.bind_eq_some_iff.mp h
        refine xu_callv (q := 27) (r := (some q10.1)) (av := [.int x5, .int x8, .int x3]) (st := []) (w1 := (mk t q10.2)) e_122 hk_122 rfl (m_M_decimal _ _ _ _ _ _ e11) rfl rfl rfl rfl rfl ?_
        refine xOK_steps (fr' := (114, [some (.ref 27), some (.int x1), none, some (.int x3), none, some (.int x5), none, none, some (.int x8), none], [.int q10.1])) (w' := (mk t q10.2)) (ob := true) e_122 hk_122 1 rfl rfl ?_
        refine xOK_fg [5, 8] ?_
        exact t_M_two_205 t q _ _ _ _ h
    · have h := xif_neg c6 h
      refine xOK_steps (fr' := (97, [some (.ref 27), some (.int x1), none, some (.int x3), none, some (.int x5), none, none, some (.int x8), none], [.int x3, .int x8, .int x5, .int x1, .ref 27])) (w' := (mk t s)) (ob := true) e_122 hk_122 5 rfl rfl ?_
      obtain ⟨q12, e13, h⟩ := Option.bind_eq_some_iff.mp h
      refine xu_callv (q := 27) (r := (some q12.1)) (av := [.int x1, .int x5, .int x8, .int x3]) (st := []) (w1 := (mk t q12.2)) e_122 hk_122 rfl (m_M_sum _ _ _ _ _ _ _ e13) rfl rfl rfl rfl rfl ?_
      refine xOK_steps (fr' := (114, [some (.ref 27), some (.int x1), none, some (.int x3), none, some (.int x5), none, none, some (.int x8), none], [.int q12.1])) (w' := (mk t q12.2)) (ob := true) e_122 hk_122 1 rfl rfl ?_
      refine xOK_fg [5, 8] ?_
      exact t_M_two_205 t q _ _ _ _ h
  · have h := xif_pos c5 h
    refine xOK_steps (fr' := (114, [some (.ref 27), some (.int x1), none, some (.int x3), none, some (.int x5), none, none, some (.int x8), none], [.int x5])) (w' := (mk t s)) (ob := true) e_122 hk_122 2 rfl rfl ?_
    refine xOK_fg [5, 8] ?_
    exact t_M_two_205 t q _ _ _ _ h
set_option maxRecDepth 100000 in
set_option maxHeartbeats 4000000 in
theorem t_M_two_131 (t : xS) (q : xS) (x1 x3 x5 y0 : Int32) (s : xS) (h : f_M_two_131 x1 x3 x5 y0 s = some q) : xOK 122 none (xEnd 122 none (mk t q)) (75, [some (.ref 27), some (.int x1), none, some (.int x3), none, some (.int x5), none, none, none, none], [.int y0]) (mk t s) 0 0 := by
  unfold f_M_two_131 at h
  refine xOK_steps (fr' := (84, [some (.ref 27), some (.int x1), none, some (.int x3), none, some (.int x5), none, none, some (.int y0), none], [])) (w' := (mk t s)) (ob := true) e_122 hk_122 2 rfl rfl ?_
  exact t_M_two_148 t q _ _ _ _ _ h
set_option maxRecDepth 100000 in
set_option maxHeartbeats 4000000 in
theorem t_M_two_86 (t : xS) (q : xS) (x1 x3 x4 x5 x6 x7 y1 : Int32) (s : xS) (h : f_M_two_86 x1 x3 x4 x5 x6 x7 y1 s = some q) : xOK 122 none (xEnd 122 none (mk t q)) (52, [some (.ref 27), some (.int x1), none, some (.int x3), some (.int x4), some (.int x5), some (.int x6), some (.int x7), none, none], [.int y1, .ref 27]) (mk t s) 0 0 := by
  unfold f_M_two_86 at h
  refine xOK_steps (fr' := (59, [some (.ref 27), some (.int x1), none, some (.int x3), some (.int x4), some (.int x5), some (.int x6), some (.int x7), some (.int (0 : Int32)), none], [.int x6])) (w' := (mk t (xsc (xsc s 20 y1) 21 x4))) (ob := true) e_122 hk_122 7 rfl rfl ?_
  refine xu_if_eq e_122 hk_122 rfl (fun c14 => ?_) (fun c14 => ?_)
  · have h := xif_pos c14 h
    by_cases o15 : xin x4 16 = true
    case neg => have h := xif_neg o15 h; cases h
    have h := xif_pos o15 h
    by_cases o16 : (!(x7 == 0)) = true
    case neg => have h := xif_neg o16 h; cases h
    have h := xif_pos o16 h
    refine xOK_steps (fr' := (84, [some (.ref 27), some (.int x1), none, some (.int x3), some (.int x4), some (.int x5), some (.int x6), some (.int x7), some (.int (xrem ((s.2 0) (x4).toNatClampNeg) x7)), none], [])) (w' := (mk t (xsc (xsc s 20 y1) 21 x4))) (ob := xin x4 16 && ((!(x7 == 0)) && (true))) e_122 hk_122 7 rfl (xand o15 (xand o16 rfl)) ?_
    refine xOK_fg [4, 6, 7] ?_
    exact t_M_two_148 t q _ _ _ _ _ h
  · have h := xif_neg c14 h
    refine xOK_steps (fr' := (63, [some (.ref 27), some (.int x1), none, some (.int x3), some (.int x4), some (.int x5), some (.int x6), some (.int x7), some (.int (0 : Int32)), none], [.int x4, .ref 27, .ref 27])) (w' := (mk t (xsc (xsc s 20 y1) 21 x4))) (ob := true) e_122 hk_122 3 rfl rfl ?_
    obtain ⟨q17, e18, h⟩ := Option.bind_eq_some_iff.mp h
    refine xu_callv (q := 27) (r := (some q17.1)) (av := [.int x4]) (st := [.ref 27]) (w1 := (mk t q17.2)) e_122 hk_122 rfl (m_M_indexed _ _ _ _ e18) rfl rfl rfl rfl rfl ?_
    refine xOK_steps (fr' := (67, [some (.ref 27), some (.int x1), none, some (.int x3), some (.int x4), some (.int x5), some (.int x6), some (.int x7), some (.int (0 : Int32)), none], [.int (4 : Int32), .int x1])) (w' := (mk t (xsc q17.2 21 q17.1))) (ob := true) e_122 hk_122 3 rfl rfl ?_
    refine xu_icmp_ne e_122 hk_122 rfl (fun c19 => ?_) (fun c19 => ?_)
    · have h := xif_neg c19 h
      refine xOK_steps (fr' := (74, [some (.ref 27), some (.int x1), none, some (.int x3), some (.int x4), some (.int x5), some (.int x6), some (.int x7), some (.int (0 : Int32)), none], [.int x3, .int q17.1, .ref 27])) (w' := (mk t (xsc q17.2 21 q17.1))) (ob := true) e_122 hk_122 4 rfl rfl ?_
      obtain ⟨q20, e21, h⟩ := Option.bind_eq_some_iff.mp h
      refine xu_callv (q := 27) (r := (some q20.1)) (av := [.int q17.1, .int x3]) (st := []) (w1 := (mk t q20.2)) e_122 hk_122 rfl (m_M_loaded _ _ _ _ _ e21) rfl rfl rfl rfl rfl ?_
      refine xOK_fg [4, 6, 7, 8] ?_
      exact t_M_two_131 t q _ _ _ _ _ h
    · have h := xif_pos c19 h
      refine xOK_steps (fr' := (75, [some (.ref 27), some (.int x1), none, some (.int x3), some (.int x4), some (.int x5), some (.int x6), some (.int x7), some (.int (0 : Int32)), none], [.int (0 : Int32)])) (w' := (mk t (xsc q17.2 21 q17.1))) (ob := true) e_122 hk_122 2 rfl rfl ?_
      refine xOK_fg [4, 6, 7, 8] ?_
      exact t_M_two_131 t q _ _ _ _ _ h
set_option maxRecDepth 100000 in
set_option maxHeartbeats 4000000 in
theorem t_M_two_73 (t : xS) (q : xS) (x1 x3 x4 x5 x6 y0 : Int32) (s : xS) (h : f_M_two_73 x1 x3 x4 x5 x6 y0 s = some q) : xOK 122 none (xEnd 122 none (mk t q)) (45, [some (.ref 27), some (.int x1), none, some (.int x3), some (.int x4), some (.int x5), some (.int x6), none, none, none], [.int y0]) (mk t s) 0 0 := by
  unfold f_M_two_73 at h
  refine xOK_steps (fr' := (48, [some (.ref 27), some (.int x1), none, some (.int x3), some (.int x4), some (.int x5), some (.int x6), some (.int y0), none, none], [.int x6, .ref 27])) (w' := (mk t s)) (ob := true) e_122 hk_122 3 rfl rfl ?_
  refine xu_if_eq e_122 hk_122 rfl (fun c22 => ?_) (fun c22 => ?_)
  · have h := xif_pos c22 h
    refine xOK_steps (fr' := (52, [some (.ref 27), some (.int x1), none, some (.int x3), some (.int x4), some (.int x5), some (.int x6), some (.int y0), none, none], [.int (1 : Int32), .ref 27])) (w' := (mk t s)) (ob := true) e_122 hk_122 1 rfl rfl ?_
    exact t_M_two_86 t q _ _ _ _ _ _ _ _ h
  · have h := xif_neg c22 h
    refine xOK_steps (fr' := (52, [some (.ref 27), some (.int x1), none, some (.int x3), some (.int x4), some (.int x5), some (.int x6), some (.int y0), none, none], [.int (2 : Int32), .ref 27])) (w' := (mk t s)) (ob := true) e_122 hk_122 2 rfl rfl ?_
    exact t_M_two_86 t q _ _ _ _ _ _ _ _ h
set_option maxRecDepth 100000 in
set_option maxHeartbeats 4000000 in
theorem t_M_two_59 (t : xS) (q : xS) (x1 x3 x4 x5 y0 : Int32) (s : xS) (h : f_M_two_59 x1 x3 x4 x5 y0 s = some q) : xOK 122 none (xEnd 122 none (mk t q)) (39, [some (.ref 27), some (.int x1), none, some (.int x3), some (.int x4), some (.int x5), none, none, none, none], [.int y0]) (mk t s) 0 0 := by
  unfold f_M_two_59 at h
  refine xOK_steps (fr' := (41, [some (.ref 27), some (.int x1), none, some (.int x3), some (.int x4), some (.int x5), some (.int y0), none, none, none], [.int x3])) (w' := (mk t s)) (ob := true) e_122 hk_122 2 rfl rfl ?_
  refine xu_if_eq e_122 hk_122 rfl (fun c23 => ?_) (fun c23 => ?_)
  · have h := xif_pos c23 h
    refine xOK_steps (fr' := (45, [some (.ref 27), some (.int x1), none, some (.int x3), some (.int x4), some (.int x5), some (.int y0), none, none, none], [.int (65536 : Int32)])) (w' := (mk t s)) (ob := true) e_122 hk_122 1 rfl rfl ?_
    exact t_M_two_73 t q _ _ _ _ _ _ _ h
  · have h := xif_neg c23 h
    refine xOK_steps (fr' := (45, [some (.ref 27), some (.int x1), none, some (.int x3), some (.int x4), some (.int x5), some (.int y0), none, none, none], [.int (256 : Int32)])) (w' := (mk t s)) (ob := true) e_122 hk_122 2 rfl rfl ?_
    exact t_M_two_73 t q _ _ _ _ _ _ _ h
set_option maxRecDepth 100000 in
set_option maxHeartbeats 4000000 in
theorem t_M_two_15 (t : xS) (q : xS) (x1 x2 y0 : Int32) (s : xS) (h : f_M_two_15 x1 x2 y0 s = some q) : xOK 122 none (xEnd 122 none (mk t q)) (10, [some (.ref 27), some (.int x1), some (.int x2), none, none, none, none, none, none, none], [.int y0]) (mk t s) 0 0 := by
  unfold f_M_two_15 at h
  refine xOK_steps (fr' := (27, [some (.ref 27), some (.int x1), some (.int x2), some (.int y0), some (.int (xrem x2 (16 : Int32))), none, none, none, none, none], [.int y0, .int (xrem (x2 / (16 : Int32)) (4 : Int32)), .int (xrem (x2 / (256 : Int32)) (16 : Int32)), .ref 27])) (w' := (mk t s)) (ob := true) e_122 hk_122 17 rfl rfl ?_
  obtain ⟨q24, e25, h⟩ := Option.bind_eq_some_iff.mp h
  refine xu_callv (q := 27) (r := (some q24.1)) (av := [.int (xrem (x2 / (256 : Int32)) (16 : Int32)), .int (xrem (x2 / (16 : Int32)) (4 : Int32)), .int y0]) (st := []) (w1 := (mk t q24.2)) e_122 hk_122 rfl (m_M_operand _ _ _ _ _ _ e25) rfl rfl rfl rfl rfl ?_
  refine xOK_steps (fr' := (35, [some (.ref 27), some (.int x1), some (.int x2), some (.int y0), some (.int (xrem x2 (16 : Int32))), some (.int q24.1), none, none, none, none], [.int (1 : Int32), .int (xrem (x2 / (128 : Int32)) (2 : Int32))])) (w' := (mk t q24.2)) (ob := true) e_122 hk_122 7 rfl rfl ?_
  refine xu_icmp_ne e_122 hk_122 rfl (fun c26 => ?_) (fun c26 => ?_)
  · have h := xif_neg c26 h
    refine xOK_steps (fr' := (39, [some (.ref 27), some (.int x1), some (.int x2), some (.int y0), some (.int (xrem x2 (16 : Int32))), some (.int q24.1), none, none, none, none], [.int (0 : Int32)])) (w' := (mk t q24.2)) (ob := true) e_122 hk_122 1 rfl rfl ?_
    refine xOK_fg [2] ?_
    exact t_M_two_59 t q _ _ _ _ _ _ h
  · have h := xif_pos c26 h
    refine xOK_steps (fr' := (39, [some (.ref 27), some (.int x1), some (.int x2), some (.int y0), some (.int (xrem x2 (16 : Int32))), some (.int q24.1), none, none, none, none], [.int (1 : Int32)])) (w' := (mk t q24.2)) (ob := true) e_122 hk_122 2 rfl rfl ?_
    refine xOK_fg [2] ?_
    exact t_M_two_59 t q _ _ _ _ _ _ h
set_option maxRecDepth 100000 in
set_option maxHeartbeats 4000000 in
theorem m_M_two (x1 x2 : Int32) (s t : xS) (q : xS) (h : f_M_two x1 x2 s = some q) : xMet 122 [.ref 27, .int x1, .int x2] (mk t s) none (mk t q) := by
  refine xMet_of hk_122 rfl rfl rfl ?_
  refine xOK_eq (fr := (0, [some (.ref 27), some (.int x1), some (.int x2), none, none, none, none, none, none, none], [])) rfl ?_
  unfold f_M_two at h
  refine xOK_steps (fr' := (6, [some (.ref 27), some (.int x1), some (.int x2), none, none, none, none, none, none, none], [.int (1 : Int32), .int (xrem (x2 / (64 : Int32)) (2 : Int32))])) (w' := (mk t s)) (ob := true) e_122 hk_122 6 rfl rfl ?_
  refine xu_icmp_ne e_122 hk_122 rfl (fun c27 => ?_) (fun c27 => ?_)
  · have h := xif_neg c27 h
    refine xOK_steps (fr' := (10, [some (.ref 27), some (.int x1), some (.int x2), none, none, none, none, none, none, none], [.int (0 : Int32)])) (w' := (mk t s)) (ob := true) e_122 hk_122 1 rfl rfl ?_
    exact t_M_two_15 t q _ _ _ _ h
  · have h := xif_pos c27 h
    refine xOK_steps (fr' := (10, [some (.ref 27), some (.int x1), some (.int x2), none, none, none, none, none, none, none], [.int (1 : Int32)])) (w' := (mk t s)) (ob := true) e_122 hk_122 2 rfl rfl ?_
    exact t_M_two_15 t q _ _ _ _ h
set_option maxRecDepth 100000 in
set_option maxHeartbeats 4000000 in
theorem t_M_instruction_60 (t : xS) (q : xS) (s : xS) (h : f_M_instruction_60  s = some q) : xOK 120 none (xEnd 120 none (mk t q)) (35, [none, none, none], []) (mk t s) 0 0 := by
  unfold f_M_instruction_60 at h
  cases h
  exact xu_vret e_120 hk_120 rfl rfl
set_option maxRecDepth 100000 in
set_option maxHeartbeats 4000000 in
theorem m_M_instruction (s t : xS) (q : xS) (h : f_M_instruction  s = some q) : xMet 120 [.ref 27] (mk t s) none (mk t q) := by
  refine xMet_of hk_120 rfl rfl rfl ?_
  refine xOK_eq (fr := (0, [some (.ref 27), none, none], [])) rfl ?_
  unfold f_M_instruction at h
  refine xOK_steps (fr' := (1, [some (.ref 27), none, none], [.ref 27])) (w' := (mk t s)) (ob := true) e_120 hk_120 1 rfl rfl ?_
  obtain ⟨q1, e2, h⟩ := Option.bind_eq_some_iff.mp h
  refine xu_callv (q := 27) (r := (some q1.1)) (av := []) (st := []) (w1 := (mk t q1.2)) e_120 hk_120 rfl (m_M_fetch  _ _ _ e2) rfl rfl rfl rfl rfl ?_
  refine xOK_steps (fr' := (9, [some (.ref 27), some (.int q1.1), some (.int (q1.1 / (4096 : Int32)))], [.int (3 : Int32), .int (q1.1 / (4096 : Int32))])) (w' := (mk t q1.2)) (ob := true) e_120 hk_120 7 rfl rfl ?_
  refine xu_icmp_le e_120 hk_120 rfl (fun c3 => ?_) (fun c3 => ?_)
  · have h := xif_pos c3 h
    refine xOK_steps (fr' := (17, [some (.ref 27), some (.int q1.1), some (.int (q1.1 / (4096 : Int32)))], [.int (1 : Int32), .int (q1.1 / (4096 : Int32))])) (w' := (mk t q1.2)) (ob := true) e_120 hk_120 2 rfl rfl ?_
    refine xu_icmp_le e_120 hk_120 rfl (fun c4 => ?_) (fun c4 => ?_)
    · have h := xif_pos c4 h
      refine xOK_steps (fr' := (26, [some (.ref 27), some (.int q1.1), some (.int (q1.1 / (4096 : Int32)))], [.int (4 : Int32), .int (q1.1 / (1024 : Int32))])) (w' := (mk t q1.2)) (ob := true) e_120 hk_120 4 rfl rfl ?_
      refine xu_icmp_ne e_120 hk_120 rfl (fun c5 => ?_) (fun c5 => ?_)
      · have h := xif_neg c5 h
        refine xOK_fg [0, 1, 2] ?_
        exact t_M_instruction_60 t q  _ h
      · have h := xif_pos c5 h
        refine xOK_steps (fr' := (34, [some (.ref 27), some (.int q1.1), some (.int (q1.1 / (4096 : Int32)))], [.int q1.1, .int (xrem (q1.1 / (128 : Int32)) (8 : Int32)), .ref 27])) (w' := (mk t q1.2)) (ob := true) e_120 hk_120 7 rfl rfl ?_
        obtain ⟨q6, e7, h⟩ := Option.bind_eq_some_iff.mp h
        refine xu_callv (q := 27) (r := none) (av := [.int (xrem (q1.1 / (128 : Int32)) (8 : Int32)), .int q1.1]) (st := []) (w1 := (mk t q6)) e_120 hk_120 rfl (m_M_one _ _ _ _ _ e7) rfl rfl rfl rfl rfl ?_
        refine xOK_fg [0, 1, 2] ?_
        exact t_M_instruction_60 t q  _ h
    · have h := xif_neg c4 h
      refine xOK_steps (fr' := (20, [some (.ref 27), some (.int q1.1), some (.int (q1.1 / (4096 : Int32)))], [.int q1.1, .ref 27])) (w' := (mk t q1.2)) (ob := true) e_120 hk_120 2 rfl rfl ?_
      obtain ⟨q8, e9, h⟩ := Option.bind_eq_some_iff.mp h
      refine xu_callv (q := 27) (r := none) (av := [.int q1.1]) (st := []) (w1 := (mk t q8)) e_120 hk_120 rfl (m_M_jump _ _ _ _ e9) rfl rfl rfl rfl rfl ?_
      refine xOK_steps (fr' := (35, [some (.ref 27), some (.int q1.1), some (.int (q1.1 / (4096 : Int32)))], [])) (w' := (mk t q8)) (ob := true) e_120 hk_120 1 rfl rfl ?_
      refine xOK_fg [0, 1, 2] ?_
      exact t_M_instruction_60 t q  _ h
  · have h := xif_neg c3 h
    refine xOK_steps (fr' := (13, [some (.ref 27), some (.int q1.1), some (.int (q1.1 / (4096 : Int32)))], [.int q1.1, .int (q1.1 / (4096 : Int32)), .ref 27])) (w' := (mk t q1.2)) (ob := true) e_120 hk_120 3 rfl rfl ?_
    obtain ⟨q10, e11, h⟩ := Option.bind_eq_some_iff.mp h
    refine xu_callv (q := 27) (r := none) (av := [.int (q1.1 / (4096 : Int32)), .int q1.1]) (st := []) (w1 := (mk t q10)) e_120 hk_120 rfl (m_M_two _ _ _ _ _ e11) rfl rfl rfl rfl rfl ?_
    refine xOK_steps (fr' := (35, [some (.ref 27), some (.int q1.1), some (.int (q1.1 / (4096 : Int32)))], [])) (w' := (mk t q10)) (ob := true) e_120 hk_120 1 rfl rfl ?_
    refine xOK_fg [0, 1, 2] ?_
    exact t_M_instruction_60 t q  _ h
set_option maxRecDepth 100000 in
set_option maxHeartbeats 4000000 in
theorem t_M_finish_151 (t : xS) (q : xS) (y1 : Int32) (s : xS) (h : f_M_finish_151 y1 s = some q) : xOK 102 none (xEnd 102 none (mk t q)) (81, [none, none], [.int y1, .ref 27]) (mk t s) 0 0 := by
  unfold f_M_finish_151 at h
  refine xOK_steps (fr' := (82, [none, none], [])) (w' := (mk t (xsc s 14 y1))) (ob := true) e_102 hk_102 1 rfl rfl ?_
  cases h
  exact xu_vret e_102 hk_102 rfl rfl
set_option maxRecDepth 100000 in
set_option maxHeartbeats 4000000 in
theorem t_M_finish_66 (t : xS) (q : xS) (s : xS) (h : f_M_finish_66  s = some q) : xOK 102 none (xEnd 102 none (mk t q)) (34, [none, none], []) (mk t s) 0 0 := by
  unfold f_M_finish_66 at h
  cases h
  exact xu_vret e_102 hk_102 rfl rfl
set_option maxRecDepth 100000 in
set_option maxHeartbeats 4000000 in
theorem t_M_finish_41 (t : xS) (q : xS) : ∀ (n : Nat), ∀ (s : xS), f_M_finish_41 n  s = some q → xOK 102 none (xEnd 102 none (mk t q)) (23, [some (.ref 27), none], []) (mk t s) 0 0 := by
  intro n
  induction n with
  | zero => intro s h; cases h
  | succ n ih =>
    intro s h
    unfold f_M_finish_41 at h
    refine xOK_steps (fr' := (27, [some (.ref 27), none], [.int (s.1 6), .int (s.1 7)])) (w' := (mk t s)) (ob := true) e_102 hk_102 4 rfl rfl ?_
    refine xu_icmp_ge e_102 hk_102 rfl (fun c1 => ?_) (fun c1 => ?_)
    · have h := xif_pos c1 h
      refine xOK_steps (fr' := (59, [some (.ref 27), none], [.ref 27])) (w' := (mk t s)) (ob := true) e_102 hk_102 1 rfl rfl ?_
      obtain ⟨q2, e3, h⟩ := Option.bind_eq_some_iff.mp h
      refine xu_callv (q := 27) (r := (some q2.1)) (av := []) (st := []) (w1 := (mk t q2.2)) e_102 hk_102 rfl (m_M_write  _ _ _ e3) rfl rfl rfl rfl rfl ?_
      refine xu_if_ne e_102 hk_102 rfl (fun c4 => ?_) (fun c4 => ?_)
      · have h := xif_neg c4 h
        refine xOK_steps (fr' := (66, [some (.ref 27), none], [.ref 27])) (w' := (mk t (xsc q2.2 11 (0 : Int32)))) (ob := true) e_102 hk_102 4 rfl rfl ?_
        obtain ⟨q5, e6, h⟩ := Option.bind_eq_some_iff.mp h
        refine xu_callv (q := 27) (r := (some q5.1)) (av := []) (st := []) (w1 := (mk t q5.2)) e_102 hk_102 rfl (m_M_write  _ _ _ e6) rfl rfl rfl rfl rfl ?_
        refine xu_if_ne e_102 hk_102 rfl (fun c7 => ?_) (fun c7 => ?_)
        · have h := xif_neg c7 h
          refine xOK_steps (fr' := (73, [some (.ref 27), none], [.ref 27])) (w' := (mk t (xsc q5.2 9 (0 : Int32)))) (ob := true) e_102 hk_102 4 rfl rfl ?_
          obtain ⟨q8, e9, h⟩ := Option.bind_eq_some_iff.mp h
          refine xu_callv (q := 27) (r := none) (av := []) (st := []) (w1 := (mk t q8)) e_102 hk_102 rfl (m_M_fresh  _ _ _ e9) rfl rfl rfl rfl rfl ?_
          refine xOK_steps (fr' := (77, [some (.ref 27), none], [.int (q8.1 8), .ref 27])) (w' := (mk t q8)) (ob := true) e_102 hk_102 3 rfl rfl ?_
          refine xu_if_eq e_102 hk_102 rfl (fun c10 => ?_) (fun c10 => ?_)
          · have h := xif_pos c10 h
            refine xOK_steps (fr' := (81, [some (.ref 27), none], [.int (1 : Int32), .ref 27])) (w' := (mk t q8)) (ob := true) e_102 hk_102 1 rfl rfl ?_
            refine xOK_fg [0] ?_
            exact t_M_finish_151 t q _ _ h
          · have h := xif_neg c10 h
            refine xOK_steps (fr' := (81, [some (.ref 27), none], [.int (3 : Int32), .ref 27])) (w' := (mk t q8)) (ob := true) e_102 hk_102 2 rfl rfl ?_
            refine xOK_fg [0] ?_
            exact t_M_finish_151 t q _ _ h
        · have h := xif_pos c7 h
          cases h
          exact xu_vret e_102 hk_102 rfl rfl
      · have h := xif_pos c4 h
        cases h
        exact xu_vret e_102 hk_102 rfl rfl
    · have h := xif_neg c1 h
      refine xOK_steps (fr' := (29, [some (.ref 27), none], [.ref 27])) (w' := (mk t s)) (ob := true) e_102 hk_102 1 rfl rfl ?_
      obtain ⟨q11, e12, h⟩ := Option.bind_eq_some_iff.mp h
      refine xu_callv (q := 27) (r := (some q11.1)) (av := []) (st := []) (w1 := (mk t q11.2)) e_102 hk_102 rfl (m_M_write  _ _ _ e12) rfl rfl rfl rfl rfl ?_
      refine xu_if_eq e_102 hk_102 rfl (fun c13 => ?_) (fun c13 => ?_)
      · have h := xif_pos c13 h
        refine xOK_fg [0] ?_
        exact t_M_finish_66 t q  _ h
      · have h := xif_neg c13 h
        refine xOK_steps (fr' := (32, [some (.ref 27), none], [.ref 27])) (w' := (mk t q11.2)) (ob := true) e_102 hk_102 1 rfl rfl ?_
        obtain ⟨q14, e15, h⟩ := Option.bind_eq_some_iff.mp h
        refine xu_callv (q := 27) (r := (some q14.1)) (av := []) (st := []) (w1 := (mk t q14.2)) e_102 hk_102 rfl (m_M_write  _ _ _ e15) rfl rfl rfl rfl rfl ?_
        refine xu_if_ne e_102 hk_102 rfl (fun c16 => ?_) (fun c16 => ?_)
        · have h := xif_neg c16 h
          by_cases o17 : xin (q14.2.1 7) 8 = true
          case neg => have h := xif_neg o17 h; cases h
          have h := xif_pos o17 h
          by_cases o18 : xin (q14.2.1 13) 200 = true
          case neg => have h := xif_neg o18 h; cases h
          have h := xif_pos o18 h
          refine xOK_steps (fr' := (23, [some (.ref 27), none], [])) (w' := (mk t (xsc (xsc (xsa q14.2 14 (q14.2.1 13).toNatClampNeg ((q14.2.2 11) (q14.2.1 7).toNatClampNeg)) 13 ((q14.2.1 13) + (1 : Int32))) 7 ((q14.2.1 7) + (1 : Int32))))) (ob := xin (q14.2.1 7) 8 && (xin (q14.2.1 13) 200 && (true))) e_102 hk_102 23 rfl (xand o17 (xand o18 rfl)) ?_
          exact ih  _ h
        · have h := xif_pos c16 h
          refine xOK_fg [0] ?_
          exact t_M_finish_66 t q  _ h
set_option maxRecDepth 100000 in
set_option maxHeartbeats 4000000 in
theorem t_M_finish_2 (t : xS) (q : xS) : ∀ (n : Nat), ∀ (x1 : Int32) (s : xS), f_M_finish_2 n x1 s = some q → xOK 102 none (xEnd 102 none (mk t q)) (2, [some (.ref 27), some (.int x1)], []) (mk t s) 0 0 := by
  intro n
  induction n with
  | zero => intro x1 s h; cases h
  | succ n ih =>
    intro x1 s h
    unfold f_M_finish_2 at h
    refine xOK_steps (fr' := (5, [some (.ref 27), some (.int x1)], [.int (s.1 5), .int x1])) (w' := (mk t s)) (ob := true) e_102 hk_102 3 rfl rfl ?_
    refine xu_icmp_ge e_102 hk_102 rfl (fun c19 => ?_) (fun c19 => ?_)
    · have h := xif_pos c19 h
      refine xOK_fg [1] ?_
      exact t_M_finish_41 t q _  _ h
    · have h := xif_neg c19 h
      refine xOK_steps (fr' := (7, [some (.ref 27), some (.int x1)], [.ref 27])) (w' := (mk t s)) (ob := true) e_102 hk_102 1 rfl rfl ?_
      obtain ⟨q20, e21, h⟩ := Option.bind_eq_some_iff.mp h
      refine xu_callv (q := 27) (r := (some q20.1)) (av := []) (st := []) (w1 := (mk t q20.2)) e_102 hk_102 rfl (m_M_write  _ _ _ e21) rfl rfl rfl rfl rfl ?_
      refine xu_if_ne e_102 hk_102 rfl (fun c22 => ?_) (fun c22 => ?_)
      · have h := xif_neg c22 h
        by_cases o23 : xin x1 8 = true
        case neg => have h := xif_neg o23 h; cases h
        have h := xif_pos o23 h
        by_cases o24 : xin x1 8 = true
        case neg => have h := xif_neg o24 h; cases h
        have h := xif_pos o24 h
        by_cases o25 : xin ((q20.2.2 9) (x1).toNatClampNeg) 128 = true
        case neg => have h := xif_neg o25 h; cases h
        have h := xif_pos o25 h
        refine xOK_steps (fr' := (2, [some (.ref 27), some (.int (x1 + (1 : Int32)))], [])) (w' := (mk t (xsa q20.2 2 ((q20.2.2 9) (x1).toNatClampNeg).toNatClampNeg ((q20.2.2 10) (x1).toNatClampNeg)))) (ob := xin x1 8 && (xin x1 8 && (xin ((q20.2.2 9) (x1).toNatClampNeg) 128 && (true)))) e_102 hk_102 13 rfl (xand o23 (xand o24 (xand o25 rfl))) ?_
        exact ih _ _ h
      · have h := xif_pos c22 h
        cases h
        exact xu_vret e_102 hk_102 rfl rfl
set_option maxRecDepth 100000 in
set_option maxHeartbeats 4000000 in
theorem m_M_finish (s t : xS) (q : xS) (h : f_M_finish  s = some q) : xMet 102 [.ref 27] (mk t s) none (mk t q) := by
  refine xMet_of hk_102 rfl rfl rfl ?_
  refine xOK_eq (fr := (0, [some (.ref 27), none], [])) rfl ?_
  unfold f_M_finish at h
  refine xOK_steps (fr' := (2, [some (.ref 27), some (.int (0 : Int32))], [])) (w' := (mk t s)) (ob := true) e_102 hk_102 2 rfl rfl ?_
  exact t_M_finish_2 t q _ _ _ h
set_option maxRecDepth 100000 in
set_option maxHeartbeats 4000000 in
theorem t_M_checkpoint_177 (t : xS) (q : xS) : ∀ (n : Nat), ∀ (x2 : Int32) (s : xS), f_M_checkpoint_177 n x2 s = some q → xOK 101 none (xEnd 101 none (mk t q)) (105, [some (.ref 27), none, some (.int x2)], []) (mk t s) 0 0 := by
  intro n
  induction n with
  | zero => intro x2 s h; cases h
  | succ n ih =>
    intro x2 s h
    unfold f_M_checkpoint_177 at h
    refine xOK_steps (fr' := (108, [some (.ref 27), none, some (.int x2)], [.int (s.1 1), .int x2])) (w' := (mk t s)) (ob := true) e_101 hk_101 3 rfl rfl ?_
    refine xu_icmp_ge e_101 hk_101 rfl (fun c1 => ?_) (fun c1 => ?_)
    · have h := xif_pos c1 h
      by_cases o2 : xbl (s.1 4) = true
      case neg => have h := xif_neg o2 h; cases h
      have h := xif_pos o2 h
      refine xOK_steps (fr' := (130, [some (.ref 27), none, some (.int x2)], [.ref 27])) (w' := (mk t (xsc (xsc (xsc s 7 (0 : Int32)) 8 (s.1 4)) 9 (1 : Int32)))) (ob := xbl (s.1 4) && (true)) e_101 hk_101 11 rfl (xand o2 rfl) ?_
      obtain ⟨q3, e4, h⟩ := Option.bind_eq_some_iff.mp h
      refine xu_callv (q := 27) (r := none) (av := []) (st := []) (w1 := (mk t q3)) e_101 hk_101 rfl (m_M_finish  _ _ _ e4) rfl rfl rfl rfl rfl ?_
      cases h
      exact xu_vret e_101 hk_101 rfl rfl
    · have h := xif_neg c1 h
      by_cases o5 : xin x2 8 = true
      case neg => have h := xif_neg o5 h; cases h
      have h := xif_pos o5 h
      by_cases o6 : xin x2 8 = true
      case neg => have h := xif_neg o6 h; cases h
      have h := xif_pos o6 h
      refine xOK_steps (fr' := (105, [some (.ref 27), none, some (.int (x2 + (1 : Int32)))], [])) (w' := (mk t (xsa s 11 (x2).toNatClampNeg ((s.2 6) (x2).toNatClampNeg)))) (ob := xin x2 8 && (xin x2 8 && (true))) e_101 hk_101 10 rfl (xand o5 (xand o6 rfl)) ?_
      exact ih _ _ h
set_option maxRecDepth 100000 in
set_option maxHeartbeats 4000000 in
theorem t_M_checkpoint_161 (t : xS) (q : xS) (lp : Int32 → xS → Option xS) (hlp : ∀ (x2 : Int32) (s : xS), lp x2 s = some q → xOK 101 none (xEnd 101 none (mk t q)) (66, [some (.ref 27), none, some (.int x2)], []) (mk t s) 0 0) (x2 : Int32) (s : xS) (h : f_M_checkpoint_161 lp x2 s = some q) : xOK 101 none (xEnd 101 none (mk t q)) (97, [some (.ref 27), none, some (.int x2)], []) (mk t s) 0 0 := by
  unfold f_M_checkpoint_161 at h
  refine xOK_steps (fr' := (66, [some (.ref 27), none, some (.int (x2 + (1 : Int32)))], [])) (w' := (mk t s)) (ob := true) e_101 hk_101 2 rfl rfl ?_
  exact hlp _ _ h
set_option maxRecDepth 100000 in
set_option maxHeartbeats 4000000 in
theorem t_M_checkpoint_112 (t : xS) (q : xS) : ∀ (n : Nat), ∀ (x2 : Int32) (s : xS), f_M_checkpoint_112 n x2 s = some q → xOK 101 none (xEnd 101 none (mk t q)) (66, [some (.ref 27), none, some (.int x2)], []) (mk t s) 0 0 := by
  intro n
  induction n with
  | zero => intro x2 s h; cases h
  | succ n ih =>
    intro x2 s h
    unfold f_M_checkpoint_112 at h
    refine xOK_steps (fr' := (68, [some (.ref 27), none, some (.int x2)], [.int (128 : Int32), .int x2])) (w' := (mk t s)) (ob := true) e_101 hk_101 2 rfl rfl ?_
    refine xu_icmp_ge e_101 hk_101 rfl (fun c7 => ?_) (fun c7 => ?_)
    · have h := xif_pos c7 h
      refine xOK_steps (fr' := (105, [some (.ref 27), none, some (.int (0 : Int32))], [])) (w' := (mk t (xsc s 6 (s.1 1)))) (ob := true) e_101 hk_101 6 rfl rfl ?_
      exact t_M_checkpoint_177 t q _ _ _ h
    · have h := xif_neg c7 h
      by_cases o8 : xin x2 128 = true
      case neg => have h := xif_neg o8 h; cases h
      have h := xif_pos o8 h
      refine xOK_steps (fr' := (73, [some (.ref 27), none, some (.int x2)], [.int ((s.2 4) (x2).toNatClampNeg)])) (w' := (mk t s)) (ob := xin x2 128 && (true)) e_101 hk_101 4 rfl (xand o8 rfl) ?_
      refine xu_if_le e_101 hk_101 rfl (fun c9 => ?_) (fun c9 => ?_)
      · have h := xif_pos c9 h
        exact t_M_checkpoint_161 t q _ ih _ _ h
      · have h := xif_neg c9 h
        by_cases o10 : xin x2 128 = true
        case neg => have h := xif_neg o10 h; cases h
        have h := xif_pos o10 h
        by_cases o11 : xin (((s.2 4) (x2).toNatClampNeg) - (1 : Int32)) 8 = true
        case neg => have h := xif_neg o11 h; cases h
        have h := xif_pos o11 h
        by_cases o12 : xin x2 128 = true
        case neg => have h := xif_neg o12 h; cases h
        have h := xif_pos o12 h
        by_cases o13 : xin x2 128 = true
        case neg => have h := xif_neg o13 h; cases h
        have h := xif_pos o13 h
        by_cases o14 : xin (((s.2 4) (x2).toNatClampNeg) - (1 : Int32)) 8 = true
        case neg => have h := xif_neg o14 h; cases h
        have h := xif_pos o14 h
        refine xOK_steps (fr' := (97, [some (.ref 27), none, some (.int x2)], [])) (w' := (mk t (xsa (xsa s 9 (((s.2 4) (x2).toNatClampNeg) - (1 : Int32)).toNatClampNeg x2) 10 (((s.2 4) (x2).toNatClampNeg) - (1 : Int32)).toNatClampNeg ((s.2 5) (x2).toNatClampNeg)))) (ob := xin x2 128 && (xin (((s.2 4) (x2).toNatClampNeg) - (1 : Int32)) 8 && (xin x2 128 && (xin x2 128 && (xin (((s.2 4) (x2).toNatClampNeg) - (1 : Int32)) 8 && (true)))))) e_101 hk_101 23 rfl (xand o10 (xand o11 (xand o12 (xand o13 (xand o14 rfl))))) ?_
        exact t_M_checkpoint_161 t q _ ih _ _ h
set_option maxRecDepth 100000 in
set_option maxHeartbeats 4000000 in
theorem t_M_checkpoint_66 (t : xS) (q : xS) : ∀ (n : Nat), ∀ (x2 : Int32) (s : xS), f_M_checkpoint_66 n x2 s = some q → xOK 101 none (xEnd 101 none (mk t q)) (39, [some (.ref 27), none, some (.int x2)], []) (mk t s) 0 0 := by
  intro n
  induction n with
  | zero => intro x2 s h; cases h
  | succ n ih =>
    intro x2 s h
    unfold f_M_checkpoint_66 at h
    refine xOK_steps (fr' := (41, [some (.ref 27), none, some (.int x2)], [.int (16 : Int32), .int x2])) (w' := (mk t s)) (ob := true) e_101 hk_101 2 rfl rfl ?_
    refine xu_icmp_ge e_101 hk_101 rfl (fun c15 => ?_) (fun c15 => ?_)
    · have h := xif_pos c15 h
      refine xOK_steps (fr' := (66, [some (.ref 27), none, some (.int (0 : Int32))], [])) (w' := (mk t (xsc s 5 (s.1 0)))) (ob := true) e_101 hk_101 6 rfl rfl ?_
      exact t_M_checkpoint_112 t q _ _ _ h
    · have h := xif_neg c15 h
      by_cases o16 : xin x2 16 = true
      case neg => have h := xif_neg o16 h; cases h
      have h := xif_pos o16 h
      by_cases o17 : xin x2 16 = true
      case neg => have h := xif_neg o17 h; cases h
      have h := xif_pos o17 h
      by_cases o18 : xin x2 16 = true
      case neg => have h := xif_neg o18 h; cases h
      have h := xif_pos o18 h
      by_cases o19 : xin x2 16 = true
      case neg => have h := xif_neg o19 h; cases h
      have h := xif_pos o19 h
      refine xOK_steps (fr' := (39, [some (.ref 27), none, some (.int (x2 + (1 : Int32)))], [])) (w' := (mk t (xsa (xsa s 7 (x2).toNatClampNeg ((s.2 0) (x2).toNatClampNeg)) 8 (x2).toNatClampNeg ((s.2 1) (x2).toNatClampNeg)))) (ob := xin x2 16 && (xin x2 16 && (xin x2 16 && (xin x2 16 && (true))))) e_101 hk_101 18 rfl (xand o16 (xand o17 (xand o18 (xand o19 rfl)))) ?_
      exact ih _ _ h
set_option maxRecDepth 100000 in
set_option maxHeartbeats 4000000 in
theorem t_M_checkpoint_17 (t : xS) (q : xS) : ∀ (n : Nat), ∀ (x1 x2 : Int32) (s : xS), f_M_checkpoint_17 n x1 x2 s = some q → xOK 101 none (xEnd 101 none (mk t q)) (12, [some (.ref 27), some (.int x1), some (.int x2)], []) (mk t s) 0 0 := by
  intro n
  induction n with
  | zero => intro x1 x2 s h; cases h
  | succ n ih =>
    intro x1 x2 s h
    unfold f_M_checkpoint_17 at h
    refine xOK_steps (fr' := (14, [some (.ref 27), some (.int x1), some (.int x2)], [.int x1, .int x2])) (w' := (mk t s)) (ob := true) e_101 hk_101 2 rfl rfl ?_
    refine xu_icmp_ge e_101 hk_101 rfl (fun c20 => ?_) (fun c20 => ?_)
    · have h := xif_pos c20 h
      refine xOK_steps (fr' := (39, [some (.ref 27), some (.int x1), some (.int (0 : Int32))], [])) (w' := (mk t (xsc (xsc (xsc s 19 ((s.1 19) + (1 : Int32))) 10 ((s.1 10) + (s.1 3))) 3 (0 : Int32)))) (ob := true) e_101 hk_101 18 rfl rfl ?_
      refine xOK_fg [1] ?_
      exact t_M_checkpoint_66 t q _ _ _ h
    · have h := xif_neg c20 h
      refine xOK_steps (fr' := (16, [some (.ref 27), some (.int x1), some (.int x2)], [.ref 27])) (w' := (mk t s)) (ob := true) e_101 hk_101 1 rfl rfl ?_
      obtain ⟨q21, e22, h⟩ := Option.bind_eq_some_iff.mp h
      refine xu_callv (q := 27) (r := (some q21.1)) (av := []) (st := []) (w1 := (mk t q21.2)) e_101 hk_101 rfl (m_M_write  _ _ _ e22) rfl rfl rfl rfl rfl ?_
      refine xu_if_ne e_101 hk_101 rfl (fun c23 => ?_) (fun c23 => ?_)
      · have h := xif_neg c23 h
        refine xOK_steps (fr' := (12, [some (.ref 27), some (.int x1), some (.int (x2 + (1 : Int32)))], [])) (w' := (mk t q21.2)) (ob := true) e_101 hk_101 2 rfl rfl ?_
        exact ih _ _ _ h
      · have h := xif_pos c23 h
        cases h
        exact xu_vret e_101 hk_101 rfl rfl
set_option maxRecDepth 100000 in
set_option maxHeartbeats 4000000 in
theorem m_M_checkpoint (s t : xS) (q : xS) (h : f_M_checkpoint  s = some q) : xMet 101 [.ref 27] (mk t s) none (mk t q) := by
  refine xMet_of hk_101 rfl rfl rfl ?_
  refine xOK_eq (fr := (0, [some (.ref 27), none, none], [])) rfl ?_
  unfold f_M_checkpoint at h
  refine xOK_steps (fr' := (12, [some (.ref 27), some (.int (((37 : Int32) + ((2 : Int32) * (s.1 0))) + (s.1 1))), some (.int (0 : Int32))], [])) (w' := (mk t s)) (ob := true) e_101 hk_101 12 rfl rfl ?_
  exact t_M_checkpoint_17 t q _ _ _ _ h
set_option maxRecDepth 100000 in
set_option maxHeartbeats 4000000 in
theorem t_M_tracked_27 (t : xS) (q : (Int32 × xS)) (lp : Int32 → Int32 → xS → Option (Int32 × xS)) (hlp : ∀ (x1 x2 : Int32) (s : xS), lp x1 x2 s = some q → xOK 128 none (xEnd 128 (some q.1) (mk t q.2)) (4, [some (.ref 27), some (.int x1), some (.int x2)], []) (mk t s) 0 0) (x2 y0 : Int32) (s : xS) (h : f_M_tracked_27 lp x2 y0 s = some q) : xOK 128 none (xEnd 128 (some q.1) (mk t q.2)) (17, [some (.ref 27), none, some (.int x2)], [.int y0]) (mk t s) 0 0 := by
  unfold f_M_tracked_27 at h
  refine xOK_steps (fr' := (4, [some (.ref 27), some (.int y0), some (.int (x2 + (1 : Int32)))], [])) (w' := (mk t s)) (ob := true) e_128 hk_128 3 rfl rfl ?_
  exact hlp _ _ _ h
set_option maxRecDepth 100000 in
set_option maxHeartbeats 4000000 in
theorem t_M_tracked_4 (t : xS) (q : (Int32 × xS)) : ∀ (n : Nat), ∀ (x1 x2 : Int32) (s : xS), f_M_tracked_4 n x1 x2 s = some q → xOK 128 none (xEnd 128 (some q.1) (mk t q.2)) (4, [some (.ref 27), some (.int x1), some (.int x2)], []) (mk t s) 0 0 := by
  intro n
  induction n with
  | zero => intro x1 x2 s h; cases h
  | succ n ih =>
    intro x1 x2 s h
    unfold f_M_tracked_4 at h
    refine xOK_steps (fr' := (6, [some (.ref 27), some (.int x1), some (.int x2)], [.int (128 : Int32), .int x2])) (w' := (mk t s)) (ob := true) e_128 hk_128 2 rfl rfl ?_
    refine xu_icmp_ge e_128 hk_128 rfl (fun c1 => ?_) (fun c1 => ?_)
    · have h := xif_pos c1 h
      refine xOK_steps (fr' := (21, [some (.ref 27), some (.int x1), some (.int x2)], [.int x1])) (w' := (mk t s)) (ob := true) e_128 hk_128 1 rfl rfl ?_
      cases h
      exact xu_iret e_128 hk_128 rfl rfl rfl
    · have h := xif_neg c1 h
      by_cases o2 : xin x2 128 = true
      case neg => have h := xif_neg o2 h; cases h
      have h := xif_pos o2 h
      refine xOK_steps (fr' := (11, [some (.ref 27), some (.int x1), some (.int x2)], [.int ((s.2 3) (x2).toNatClampNeg)])) (w' := (mk t s)) (ob := xin x2 128 && (true)) e_128 hk_128 4 rfl (xand o2 rfl) ?_
      refine xu_if_le e_128 hk_128 rfl (fun c3 => ?_) (fun c3 => ?_)
      · have h := xif_pos c3 h
        refine xOK_steps (fr' := (17, [some (.ref 27), some (.int x1), some (.int x2)], [.int x1])) (w' := (mk t s)) (ob := true) e_128 hk_128 1 rfl rfl ?_
        refine xOK_fg [1] ?_
        exact t_M_tracked_27 t q _ ih _ _ _ h
      · have h := xif_neg c3 h
        refine xOK_steps (fr' := (17, [some (.ref 27), some (.int x1), some (.int x2)], [.int (x1 + (1 : Int32))])) (w' := (mk t s)) (ob := true) e_128 hk_128 4 rfl rfl ?_
        refine xOK_fg [1] ?_
        exact t_M_tracked_27 t q _ ih _ _ _ h
set_option maxRecDepth 100000 in
set_option maxHeartbeats 4000000 in
theorem m_M_tracked (s t : xS) (q : (Int32 × xS)) (h : f_M_tracked  s = some q) : xMet 128 [.ref 27] (mk t s) (some q.1) (mk t q.2) := by
  refine xMet_of hk_128 rfl rfl rfl ?_
  refine xOK_eq (fr := (0, [some (.ref 27), none, none], [])) rfl ?_
  unfold f_M_tracked at h
  refine xOK_steps (fr' := (4, [some (.ref 27), some (.int (0 : Int32)), some (.int (0 : Int32))], [])) (w' := (mk t s)) (ob := true) e_128 hk_128 4 rfl rfl ?_
  exact t_M_tracked_4 t q _ _ _ _ h
set_option maxRecDepth 100000 in
set_option maxHeartbeats 4000000 in
theorem t_M_step_115 (t : xS) (q : (Int32 × xS)) (s : xS) (h : f_M_step_115  s = some q) : xOK 129 none (xEnd 129 (some q.1) (mk t q.2)) (60, [some (.ref 27)], []) (mk t s) 0 0 := by
  unfold f_M_step_115 at h
  refine xOK_steps (fr' := (62, [some (.ref 27)], [.int (s.1 15)])) (w' := (mk t s)) (ob := true) e_129 hk_129 2 rfl rfl ?_
  by_cases o1 : xbl (s.1 15) = true
  case neg => have h := xif_neg o1 h; cases h
  have h := xif_pos o1 h
  cases h
  exact xu_iret e_129 hk_129 rfl o1 rfl
set_option maxRecDepth 100000 in
set_option maxHeartbeats 4000000 in
theorem t_M_step_72 (t : xS) (q : (Int32 × xS)) (s : xS) (h : f_M_step_72  s = some q) : xOK 129 none (xEnd 129 (some q.1) (mk t q.2)) (37, [some (.ref 27)], []) (mk t s) 0 0 := by
  unfold f_M_step_72 at h
  refine xOK_steps (fr' := (39, [some (.ref 27)], [.int (s.1 15)])) (w' := (mk t s)) (ob := true) e_129 hk_129 2 rfl rfl ?_
  refine xu_if_ne e_129 hk_129 rfl (fun c2 => ?_) (fun c2 => ?_)
  · have h := xif_neg c2 h
    refine xOK_steps (fr' := (43, [some (.ref 27)], [.ref 27])) (w' := (mk t s)) (ob := true) e_129 hk_129 1 rfl rfl ?_
    obtain ⟨q3, e4, h⟩ := Option.bind_eq_some_iff.mp h
    refine xu_callv (q := 27) (r := none) (av := []) (st := []) (w1 := (mk t q3)) e_129 hk_129 rfl (m_M_instruction  _ _ _ e4) rfl rfl rfl rfl rfl ?_
    refine xOK_steps (fr' := (46, [some (.ref 27)], [.int (q3.1 15)])) (w' := (mk t q3)) (ob := true) e_129 hk_129 2 rfl rfl ?_
    refine xu_if_ne e_129 hk_129 rfl (fun c5 => ?_) (fun c5 => ?_)
    · have h := xif_neg c5 h
      refine xOK_steps (fr' := (57, [some (.ref 27)], [.int (q3.1 4)])) (w' := (mk t (xsc q3 3 ((q3.1 3) + (1 : Int32))))) (ob := true) e_129 hk_129 8 rfl rfl ?_
      refine xu_if_eq e_129 hk_129 rfl (fun c6 => ?_) (fun c6 => ?_)
      · have h := xif_pos c6 h
        exact t_M_step_115 t q  _ h
      · have h := xif_neg c6 h
        refine xOK_steps (fr' := (59, [some (.ref 27)], [.ref 27])) (w' := (mk t (xsc q3 3 ((q3.1 3) + (1 : Int32))))) (ob := true) e_129 hk_129 1 rfl rfl ?_
        obtain ⟨q7, e8, h⟩ := Option.bind_eq_some_iff.mp h
        refine xu_callv (q := 27) (r := none) (av := []) (st := []) (w1 := (mk t q7)) e_129 hk_129 rfl (m_M_checkpoint  _ _ _ e8) rfl rfl rfl rfl rfl ?_
        exact t_M_step_115 t q  _ h
    · have h := xif_pos c5 h
      refine xOK_steps (fr' := (48, [some (.ref 27)], [.int (0 : Int32)])) (w' := (mk t q3)) (ob := true) e_129 hk_129 1 rfl rfl ?_
      cases h
      exact xu_iret e_129 hk_129 rfl rfl rfl
  · have h := xif_pos c2 h
    refine xOK_steps (fr' := (41, [some (.ref 27)], [.int (0 : Int32)])) (w' := (mk t s)) (ob := true) e_129 hk_129 1 rfl rfl ?_
    cases h
    exact xu_iret e_129 hk_129 rfl rfl rfl
set_option maxRecDepth 100000 in
set_option maxHeartbeats 4000000 in
theorem t_M_step_68 (t : xS) (q : (Int32 × xS)) (s : xS) (h : f_M_step_68  s = some q) : xOK 129 none (xEnd 129 (some q.1) (mk t q.2)) (35, [some (.ref 27)], []) (mk t s) 0 0 := by
  unfold f_M_step_68 at h
  refine xOK_steps (fr' := (36, [some (.ref 27)], [.ref 27])) (w' := (mk t s)) (ob := true) e_129 hk_129 1 rfl rfl ?_
  obtain ⟨q9, e10, h⟩ := Option.bind_eq_some_iff.mp h
  refine xu_callv (q := 27) (r := none) (av := []) (st := []) (w1 := (mk t q9)) e_129 hk_129 rfl (m_M_checkpoint  _ _ _ e10) rfl rfl rfl rfl rfl ?_
  exact t_M_step_72 t q  _ h
set_option maxRecDepth 100000 in
set_option maxHeartbeats 4000000 in
theorem t_M_step_32 (t : xS) (q : (Int32 × xS)) (y1 : Int32) (s : xS) (h : f_M_step_32 y1 s = some q) : xOK 129 none (xEnd 129 (some q.1) (mk t q.2)) (18, [some (.ref 27)], [.int y1, .ref 27]) (mk t s) 0 0 := by
  unfold f_M_step_32 at h
  refine xOK_steps (fr' := (20, [some (.ref 27)], [.ref 27])) (w' := (mk t (xsc s 17 y1))) (ob := true) e_129 hk_129 2 rfl rfl ?_
  obtain ⟨q11, e12, h⟩ := Option.bind_eq_some_iff.mp h
  refine xu_callv (q := 27) (r := (some q11.1)) (av := []) (st := []) (w1 := (mk t q11.2)) e_129 hk_129 rfl (m_M_tracked  _ _ _ e12) rfl rfl rfl rfl rfl ?_
  refine xOK_steps (fr' := (22, [some (.ref 27)], [.int (11 : Int32), .int q11.1])) (w' := (mk t q11.2)) (ob := true) e_129 hk_129 1 rfl rfl ?_
  refine xu_icmp_gt e_129 hk_129 rfl (fun c13 => ?_) (fun c13 => ?_)
  · have h := xif_pos c13 h
    exact t_M_step_68 t q  _ h
  · have h := xif_neg c13 h
    refine xOK_steps (fr' := (26, [some (.ref 27)], [.int (4 : Int32), .int (q11.2.1 0)])) (w' := (mk t q11.2)) (ob := true) e_129 hk_129 3 rfl rfl ?_
    refine xu_icmp_eq e_129 hk_129 rfl (fun c14 => ?_) (fun c14 => ?_)
    · have h := xif_pos c14 h
      exact t_M_step_68 t q  _ h
    · have h := xif_neg c14 h
      refine xOK_steps (fr' := (30, [some (.ref 27)], [.int (4 : Int32), .int (q11.2.1 1)])) (w' := (mk t q11.2)) (ob := true) e_129 hk_129 3 rfl rfl ?_
      refine xu_icmp_eq e_129 hk_129 rfl (fun c15 => ?_) (fun c15 => ?_)
      · have h := xif_pos c15 h
        exact t_M_step_68 t q  _ h
      · have h := xif_neg c15 h
        refine xOK_steps (fr' := (34, [some (.ref 27)], [.int (2 : Int32), .int (q11.2.1 2)])) (w' := (mk t q11.2)) (ob := true) e_129 hk_129 3 rfl rfl ?_
        refine xu_icmp_le e_129 hk_129 rfl (fun c16 => ?_) (fun c16 => ?_)
        · have h := xif_pos c16 h
          exact t_M_step_72 t q  _ h
        · have h := xif_neg c16 h
          exact t_M_step_68 t q  _ h
set_option maxRecDepth 100000 in
set_option maxHeartbeats 4000000 in
theorem m_M_step (s t : xS) (q : (Int32 × xS)) (h : f_M_step  s = some q) : xMet 129 [.ref 27] (mk t s) (some q.1) (mk t q.2) := by
  refine xMet_of hk_129 rfl rfl rfl ?_
  refine xOK_eq (fr := (0, [some (.ref 27)], [])) rfl ?_
  unfold f_M_step at h
  refine xOK_steps (fr' := (3, [some (.ref 27)], [.int (1 : Int32), .int (s.1 17)])) (w' := (mk t s)) (ob := true) e_129 hk_129 3 rfl rfl ?_
  refine xu_icmp_ne e_129 hk_129 rfl (fun c17 => ?_) (fun c17 => ?_)
  · have h := xif_neg c17 h
    refine xOK_steps (fr' := (11, [some (.ref 27)], [.int (s.1 17), .ref 27])) (w' := (mk t s)) (ob := true) e_129 hk_129 3 rfl rfl ?_
    refine xu_if_le e_129 hk_129 rfl (fun c18 => ?_) (fun c18 => ?_)
    · have h := xif_pos c18 h
      refine xOK_steps (fr' := (18, [some (.ref 27)], [.int (0 : Int32), .ref 27])) (w' := (mk t s)) (ob := true) e_129 hk_129 1 rfl rfl ?_
      exact t_M_step_32 t q _ _ h
    · have h := xif_neg c18 h
      refine xOK_steps (fr' := (18, [some (.ref 27)], [.int ((s.1 17) - (1 : Int32)), .ref 27])) (w' := (mk t s)) (ob := true) e_129 hk_129 5 rfl rfl ?_
      exact t_M_step_32 t q _ _ h
  · have h := xif_pos c17 h
    refine xOK_steps (fr' := (5, [some (.ref 27)], [.ref 27])) (w' := (mk t s)) (ob := true) e_129 hk_129 1 rfl rfl ?_
    obtain ⟨q19, e20, h⟩ := Option.bind_eq_some_iff.mp h
    refine xu_callv (q := 27) (r := none) (av := []) (st := []) (w1 := (mk t q19)) e_129 hk_129 rfl (m_M_off  _ _ _ e20) rfl rfl rfl rfl rfl ?_
    refine xOK_steps (fr' := (7, [some (.ref 27)], [.int (0 : Int32)])) (w' := (mk t q19)) (ob := true) e_129 hk_129 1 rfl rfl ?_
    cases h
    exact xu_iret e_129 hk_129 rfl rfl rfl
set_option maxRecDepth 100000 in
set_option maxHeartbeats 4000000 in
theorem t_M_run_54 (t : xS) (q : (Int32 × xS)) (x2 : Int32) (s : xS) (h : f_M_run_54 x2 s = some q) : xOK 130 none (xEnd 130 (some q.1) (mk t q.2)) (28, [none, none, some (.int x2), none], []) (mk t s) 0 0 := by
  unfold f_M_run_54 at h
  refine xOK_steps (fr' := (29, [none, none, some (.int x2), none], [.int x2])) (w' := (mk t s)) (ob := true) e_130 hk_130 1 rfl rfl ?_
  cases h
  exact xu_iret e_130 hk_130 rfl rfl rfl
set_option maxRecDepth 100000 in
set_option maxHeartbeats 4000000 in
theorem t_M_run_48 (t : xS) (q : (Int32 × xS)) (lp : Int32 → Int32 → Int32 → xS → Option (Int32 × xS)) (hlp : ∀ (x1 x2 x3 : Int32) (s : xS), lp x1 x2 x3 s = some q → xOK 130 none (xEnd 130 (some q.1) (mk t q.2)) (15, [some (.ref 27), some (.int x1), some (.int x2), some (.int x3)], []) (mk t s) 0 0) (x1 x2 x3 : Int32) (s : xS) (h : f_M_run_48 lp x1 x2 x3 s = some q) : xOK 130 none (xEnd 130 (some q.1) (mk t q.2)) (26, [some (.ref 27), some (.int x1), some (.int x2), some (.int x3)], []) (mk t s) 0 0 := by
  unfold f_M_run_48 at h
  refine xOK_steps (fr' := (15, [some (.ref 27), some (.int x1), some (.int x2), some (.int (x3 + (1 : Int32)))], [])) (w' := (mk t s)) (ob := true) e_130 hk_130 2 rfl rfl ?_
  exact hlp _ _ _ _ h
set_option maxRecDepth 100000 in
set_option maxHeartbeats 4000000 in
theorem t_M_run_25 (t : xS) (q : (Int32 × xS)) : ∀ (n : Nat), ∀ (x1 x2 x3 : Int32) (s : xS), f_M_run_25 n x1 x2 x3 s = some q → xOK 130 none (xEnd 130 (some q.1) (mk t q.2)) (15, [some (.ref 27), some (.int x1), some (.int x2), some (.int x3)], []) (mk t s) 0 0 := by
  intro n
  induction n with
  | zero => intro x1 x2 x3 s h; cases h
  | succ n ih =>
    intro x1 x2 x3 s h
    unfold f_M_run_25 at h
    refine xOK_steps (fr' := (17, [some (.ref 27), some (.int x1), some (.int x2), some (.int x3)], [.int x1, .int x3])) (w' := (mk t s)) (ob := true) e_130 hk_130 2 rfl rfl ?_
    refine xu_icmp_ge e_130 hk_130 rfl (fun c1 => ?_) (fun c1 => ?_)
    · have h := xif_pos c1 h
      refine xOK_fg [0, 1, 3] ?_
      exact t_M_run_54 t q _ _ h
    · have h := xif_neg c1 h
      refine xOK_steps (fr' := (21, [some (.ref 27), some (.int x1), some (.int x2), some (.int x3)], [.int (1 : Int32), .int (s.1 14)])) (w' := (mk t s)) (ob := true) e_130 hk_130 3 rfl rfl ?_
      refine xu_icmp_ne e_130 hk_130 rfl (fun c2 => ?_) (fun c2 => ?_)
      · have h := xif_neg c2 h
        refine xOK_fg [0, 1, 3] ?_
        exact t_M_run_54 t q _ _ h
      · have h := xif_pos c2 h
        refine xOK_steps (fr' := (23, [some (.ref 27), some (.int x1), some (.int x2), some (.int x3)], [.ref 27])) (w' := (mk t s)) (ob := true) e_130 hk_130 1 rfl rfl ?_
        obtain ⟨q3, e4, h⟩ := Option.bind_eq_some_iff.mp h
        refine xu_callv (q := 27) (r := (some q3.1)) (av := []) (st := []) (w1 := (mk t q3.2)) e_130 hk_130 rfl (m_M_step  _ _ _ e4) rfl rfl rfl rfl rfl ?_
        refine xu_if_eq e_130 hk_130 rfl (fun c5 => ?_) (fun c5 => ?_)
        · have h := xif_pos c5 h
          exact t_M_run_48 t q _ ih _ _ _ _ h
        · have h := xif_neg c5 h
          refine xOK_steps (fr' := (26, [some (.ref 27), some (.int x1), some (.int (x2 + (1 : Int32))), some (.int x3)], [])) (w' := (mk t q3.2)) (ob := true) e_130 hk_130 1 rfl rfl ?_
          exact t_M_run_48 t q _ ih _ _ _ _ h
set_option maxRecDepth 100000 in
set_option maxHeartbeats 4000000 in
theorem t_M_run_19 (t : xS) (q : (Int32 × xS)) (s : xS) (h : f_M_run_19  s = some q) : xOK 130 none (xEnd 130 (some q.1) (mk t q.2)) (9, [none, none, none, none], []) (mk t s) 0 0 := by
  unfold f_M_run_19 at h
  refine xOK_steps (fr' := (10, [none, none, none, none], [.int (-1 : Int32)])) (w' := (mk t s)) (ob := true) e_130 hk_130 1 rfl rfl ?_
  cases h
  exact xu_iret e_130 hk_130 rfl rfl rfl
set_option maxRecDepth 100000 in
set_option maxHeartbeats 4000000 in
theorem m_M_run (x1 : Int32) (s t : xS) (q : (Int32 × xS)) (h : f_M_run x1 s = some q) : xMet 130 [.ref 27, .int x1] (mk t s) (some q.1) (mk t q.2) := by
  refine xMet_of hk_130 rfl rfl rfl ?_
  refine xOK_eq (fr := (0, [some (.ref 27), some (.int x1), none, none], [])) rfl ?_
  unfold f_M_run at h
  refine xOK_steps (fr' := (3, [some (.ref 27), some (.int x1), none, none], [.int (1 : Int32), .int (s.1 14)])) (w' := (mk t s)) (ob := true) e_130 hk_130 3 rfl rfl ?_
  refine xu_icmp_ne e_130 hk_130 rfl (fun c6 => ?_) (fun c6 => ?_)
  · have h := xif_neg c6 h
    refine xOK_fg [0, 1] ?_
    exact t_M_run_19 t q  _ h
  · have h := xif_pos c6 h
    refine xOK_steps (fr' := (5, [some (.ref 27), some (.int x1), none, none], [.int x1])) (w' := (mk t s)) (ob := true) e_130 hk_130 1 rfl rfl ?_
    refine xu_if_lt e_130 hk_130 rfl (fun c7 => ?_) (fun c7 => ?_)
    · have h := xif_pos c7 h
      refine xOK_fg [0, 1] ?_
      exact t_M_run_19 t q  _ h
    · have h := xif_neg c7 h
      refine xOK_steps (fr' := (8, [some (.ref 27), some (.int x1), none, none], [.int (200 : Int32), .int x1])) (w' := (mk t s)) (ob := true) e_130 hk_130 2 rfl rfl ?_
      refine xu_icmp_le e_130 hk_130 rfl (fun c8 => ?_) (fun c8 => ?_)
      · have h := xif_pos c8 h
        refine xOK_steps (fr' := (15, [some (.ref 27), some (.int x1), some (.int (0 : Int32)), some (.int (0 : Int32))], [])) (w' := (mk t s)) (ob := true) e_130 hk_130 4 rfl rfl ?_
        exact t_M_run_25 t q _ _ _ _ _ h
      · have h := xif_neg c8 h
        refine xOK_fg [0, 1] ?_
        exact t_M_run_19 t q  _ h
set_option maxRecDepth 100000 in
set_option maxHeartbeats 4000000 in
theorem t_M_boot_58 (t : xS) (q : (Int32 × xS)) : ∀ (n : Nat), ∀ (x1 : Int32) (s : xS), f_M_boot_58 n x1 s = some q → xOK 131 none (xEnd 131 (some q.1) (mk t q.2)) (32, [some (.ref 27), some (.int x1)], []) (mk t s) 0 0 := by
  intro n
  induction n with
  | zero => intro x1 s h; cases h
  | succ n ih =>
    intro x1 s h
    unfold f_M_boot_58 at h
    refine xOK_steps (fr' := (34, [some (.ref 27), some (.int x1)], [.int (16 : Int32), .int x1])) (w' := (mk t s)) (ob := true) e_131 hk_131 2 rfl rfl ?_
    refine xu_icmp_ge e_131 hk_131 rfl (fun c1 => ?_) (fun c1 => ?_)
    · have h := xif_pos c1 h
      refine xOK_steps (fr' := (54, [some (.ref 27), some (.int x1)], [.ref 27])) (w' := (mk t s)) (ob := true) e_131 hk_131 1 rfl rfl ?_
      obtain ⟨q2, e3, h⟩ := Option.bind_eq_some_iff.mp h
      refine xu_callv (q := 27) (r := none) (av := []) (st := []) (w1 := (mk t q2)) e_131 hk_131 rfl (m_M_fresh  _ _ _ e3) rfl rfl rfl rfl rfl ?_
      refine xOK_steps (fr' := (56, [some (.ref 27), some (.int x1)], [.int (1 : Int32)])) (w' := (mk t q2)) (ob := true) e_131 hk_131 1 rfl rfl ?_
      cases h
      exact xu_iret e_131 hk_131 rfl rfl rfl
    · have h := xif_neg c1 h
      by_cases o4 : xin x1 16 = true
      case neg => have h := xif_neg o4 h; cases h
      have h := xif_pos o4 h
      by_cases o5 : xin x1 16 = true
      case neg => have h := xif_neg o5 h; cases h
      have h := xif_pos o5 h
      by_cases o6 : xin x1 16 = true
      case neg => have h := xif_neg o6 h; cases h
      have h := xif_pos o6 h
      by_cases o7 : xin x1 16 = true
      case neg => have h := xif_neg o7 h; cases h
      have h := xif_pos o7 h
      refine xOK_steps (fr' := (32, [some (.ref 27), some (.int (x1 + (1 : Int32)))], [])) (w' := (mk t (xsa (xsa s 0 (x1).toNatClampNeg ((s.2 7) (x1).toNatClampNeg)) 1 (x1).toNatClampNeg ((s.2 8) (x1).toNatClampNeg)))) (ob := xin x1 16 && (xin x1 16 && (xin x1 16 && (xin x1 16 && (true))))) e_131 hk_131 18 rfl (xand o4 (xand o5 (xand o6 (xand o7 rfl)))) ?_
      exact ih _ _ h
set_option maxRecDepth 100000 in
set_option maxHeartbeats 4000000 in
theorem t_M_boot_53 (t : xS) (q : (Int32 × xS)) (y1 : Int32) (s : xS) (h : f_M_boot_53 y1 s = some q) : xOK 131 none (xEnd 131 (some q.1) (mk t q.2)) (29, [some (.ref 27), none], [.int y1, .ref 27]) (mk t s) 0 0 := by
  unfold f_M_boot_53 at h
  refine xOK_steps (fr' := (32, [some (.ref 27), some (.int (0 : Int32))], [])) (w' := (mk t (xsc s 14 y1))) (ob := true) e_131 hk_131 3 rfl rfl ?_
  exact t_M_boot_58 t q _ _ _ h
set_option maxRecDepth 100000 in
set_option maxHeartbeats 4000000 in
theorem t_M_boot_31 (t : xS) (q : (Int32 × xS)) (s : xS) (h : f_M_boot_31  s = some q) : xOK 131 none (xEnd 131 (some q.1) (mk t q.2)) (17, [some (.ref 27), none], []) (mk t s) 0 0 := by
  unfold f_M_boot_31 at h
  refine xOK_steps (fr' := (19, [some (.ref 27), none], [.int (s.1 15)])) (w' := (mk t s)) (ob := true) e_131 hk_131 2 rfl rfl ?_
  refine xu_if_ne e_131 hk_131 rfl (fun c8 => ?_) (fun c8 => ?_)
  · have h := xif_neg c8 h
    refine xOK_steps (fr' := (25, [some (.ref 27), none], [.int (s.1 8), .ref 27])) (w' := (mk t s)) (ob := true) e_131 hk_131 3 rfl rfl ?_
    refine xu_if_eq e_131 hk_131 rfl (fun c9 => ?_) (fun c9 => ?_)
    · have h := xif_pos c9 h
      refine xOK_steps (fr' := (29, [some (.ref 27), none], [.int (1 : Int32), .ref 27])) (w' := (mk t s)) (ob := true) e_131 hk_131 1 rfl rfl ?_
      exact t_M_boot_53 t q _ _ h
    · have h := xif_neg c9 h
      refine xOK_steps (fr' := (29, [some (.ref 27), none], [.int (3 : Int32), .ref 27])) (w' := (mk t s)) (ob := true) e_131 hk_131 2 rfl rfl ?_
      exact t_M_boot_53 t q _ _ h
  · have h := xif_pos c8 h
    refine xOK_steps (fr' := (21, [some (.ref 27), none], [.int (0 : Int32)])) (w' := (mk t s)) (ob := true) e_131 hk_131 1 rfl rfl ?_
    cases h
    exact xu_iret e_131 hk_131 rfl rfl rfl
set_option maxRecDepth 100000 in
set_option maxHeartbeats 4000000 in
theorem m_M_boot (s t : xS) (q : (Int32 × xS)) (h : f_M_boot  s = some q) : xMet 131 [.ref 27] (mk t s) (some q.1) (mk t q.2) := by
  refine xMet_of hk_131 rfl rfl rfl ?_
  refine xOK_eq (fr := (0, [some (.ref 27), none], [])) rfl ?_
  unfold f_M_boot at h
  refine xOK_steps (fr' := (3, [some (.ref 27), none], [.int (2 : Int32), .int (s.1 14)])) (w' := (mk t s)) (ob := true) e_131 hk_131 3 rfl rfl ?_
  refine xu_icmp_eq e_131 hk_131 rfl (fun c10 => ?_) (fun c10 => ?_)
  · have h := xif_pos c10 h
    refine xOK_steps (fr' := (14, [some (.ref 27), none], [.int (s.1 9)])) (w' := (mk t (xsc (xsc s 15 (1 : Int32)) 14 (1 : Int32)))) (ob := true) e_131 hk_131 8 rfl rfl ?_
    refine xu_if_eq e_131 hk_131 rfl (fun c11 => ?_) (fun c11 => ?_)
    · have h := xif_pos c11 h
      exact t_M_boot_31 t q  _ h
    · have h := xif_neg c11 h
      refine xOK_steps (fr' := (16, [some (.ref 27), none], [.ref 27])) (w' := (mk t (xsc (xsc s 15 (1 : Int32)) 14 (1 : Int32)))) (ob := true) e_131 hk_131 1 rfl rfl ?_
      obtain ⟨q12, e13, h⟩ := Option.bind_eq_some_iff.mp h
      refine xu_callv (q := 27) (r := none) (av := []) (st := []) (w1 := (mk t q12)) e_131 hk_131 rfl (m_M_finish  _ _ _ e13) rfl rfl rfl rfl rfl ?_
      exact t_M_boot_31 t q  _ h
  · have h := xif_neg c10 h
    refine xOK_steps (fr' := (5, [some (.ref 27), none], [.int (0 : Int32)])) (w' := (mk t s)) (ob := true) e_131 hk_131 1 rfl rfl ?_
    cases h
    exact xu_iret e_131 hk_131 rfl rfl rfl
set_option maxRecDepth 100000 in
set_option maxHeartbeats 4000000 in
theorem t_M_load_17 (t : xS) (q : (Int32 × xS)) (s : xS) (h : f_M_load_17  s = some q) : xOK 132 none (xEnd 132 (some q.1) (mk t q.2)) (8, [none, none, none], []) (mk t s) 0 0 := by
  unfold f_M_load_17 at h
  refine xOK_steps (fr' := (9, [none, none, none], [.int (0 : Int32)])) (w' := (mk t s)) (ob := true) e_132 hk_132 1 rfl rfl ?_
  cases h
  exact xu_iret e_132 hk_132 rfl rfl rfl
set_option maxRecDepth 100000 in
set_option maxHeartbeats 4000000 in
theorem m_M_load (x1 x2 : Int32) (s t : xS) (q : (Int32 × xS)) (h : f_M_load x1 x2 s = some q) : xMet 132 [.ref 27, .int x1, .int x2] (mk t s) (some q.1) (mk t q.2) := by
  refine xMet_of hk_132 rfl rfl rfl ?_
  refine xOK_eq (fr := (0, [some (.ref 27), some (.int x1), some (.int x2)], [])) rfl ?_
  unfold f_M_load at h
  refine xOK_steps (fr' := (1, [some (.ref 27), some (.int x1), some (.int x2)], [.int x1])) (w' := (mk t s)) (ob := true) e_132 hk_132 1 rfl rfl ?_
  refine xu_if_lt e_132 hk_132 rfl (fun c1 => ?_) (fun c1 => ?_)
  · have h := xif_pos c1 h
    refine xOK_fg [0, 1, 2] ?_
    exact t_M_load_17 t q  _ h
  · have h := xif_neg c1 h
    refine xOK_steps (fr' := (4, [some (.ref 27), some (.int x1), some (.int x2)], [.int (127 : Int32), .int x1])) (w' := (mk t s)) (ob := true) e_132 hk_132 2 rfl rfl ?_
    refine xu_icmp_gt e_132 hk_132 rfl (fun c2 => ?_) (fun c2 => ?_)
    · have h := xif_pos c2 h
      refine xOK_fg [0, 1, 2] ?_
      exact t_M_load_17 t q  _ h
    · have h := xif_neg c2 h
      refine xOK_steps (fr' := (7, [some (.ref 27), some (.int x1), some (.int x2)], [.int (s.1 14)])) (w' := (mk t s)) (ob := true) e_132 hk_132 2 rfl rfl ?_
      refine xu_if_eq e_132 hk_132 rfl (fun c3 => ?_) (fun c3 => ?_)
      · have h := xif_pos c3 h
        by_cases o4 : xin x1 128 = true
        case neg => have h := xif_neg o4 h; cases h
        have h := xif_pos o4 h
        refine xOK_steps (fr' := (18, [some (.ref 27), some (.int x1), some (.int x2)], [.int (1 : Int32)])) (w' := (mk t (xsa s 2 (x1).toNatClampNeg (x2 &&& (65535 : Int32))))) (ob := xin x1 128 && (true)) e_132 hk_132 8 rfl (xand o4 rfl) ?_
        cases h
        exact xu_iret e_132 hk_132 rfl rfl rfl
      · have h := xif_neg c3 h
        refine xOK_fg [0, 1, 2] ?_
        exact t_M_load_17 t q  _ h
set_option maxRecDepth 100000 in
set_option maxHeartbeats 4000000 in
theorem m_M_start (x1 : Int32) (s t : xS) (q : (Int32 × xS)) (h : f_M_start x1 s = some q) : xMet 133 [.ref 27, .int x1] (mk t s) (some q.1) (mk t q.2) := by
  refine xMet_of hk_133 rfl rfl rfl ?_
  refine xOK_eq (fr := (0, [some (.ref 27), some (.int x1)], [])) rfl ?_
  unfold f_M_start at h
  refine xOK_steps (fr' := (2, [some (.ref 27), some (.int x1)], [.int (s.1 14)])) (w' := (mk t s)) (ob := true) e_133 hk_133 2 rfl rfl ?_
  refine xu_if_eq e_133 hk_133 rfl (fun c1 => ?_) (fun c1 => ?_)
  · have h := xif_pos c1 h
    refine xOK_steps (fr' := (27, [some (.ref 27), some (.int x1)], [.int (1 : Int32)])) (w' := (mk t (xsc (xsc (xsa (xsa s 0 0 (x1 &&& (65534 : Int32))) 7 0 (((xsa s 0 0 (x1 &&& (65534 : Int32))).2 0) 0)) 15 (1 : Int32)) 14 (1 : Int32)))) (ob := true) e_133 hk_133 22 rfl rfl ?_
    cases h
    exact xu_iret e_133 hk_133 rfl rfl rfl
  · have h := xif_neg c1 h
    refine xOK_steps (fr' := (4, [some (.ref 27), some (.int x1)], [.int (0 : Int32)])) (w' := (mk t s)) (ob := true) e_133 hk_133 1 rfl rfl ?_
    cases h
    exact xu_iret e_133 hk_133 rfl rfl rfl
set_option maxRecDepth 100000 in
set_option maxHeartbeats 4000000 in
theorem m_M_sample (x1 : Int32) (s t : xS) (q : (Int32 × xS)) (h : f_M_sample x1 s = some q) : xMet 134 [.ref 27, .int x1] (mk t s) (some q.1) (mk t q.2) := by
  refine xMet_of hk_134 rfl rfl rfl ?_
  refine xOK_eq (fr := (0, [some (.ref 27), some (.int x1)], [])) rfl ?_
  unfold f_M_sample at h
  refine xOK_steps (fr' := (3, [some (.ref 27), some (.int x1)], [.int (16 : Int32), .int (s.1 12)])) (w' := (mk t s)) (ob := true) e_134 hk_134 3 rfl rfl ?_
  refine xu_icmp_ne e_134 hk_134 rfl (fun c1 => ?_) (fun c1 => ?_)
  · have h := xif_neg c1 h
    by_cases o2 : xin (s.1 12) 16 = true
    case neg => have h := xif_neg o2 h; cases h
    have h := xif_pos o2 h
    refine xOK_steps (fr' := (21, [some (.ref 27), some (.int x1)], [.int (1 : Int32)])) (w' := (mk t (xsc (xsa s 13 (s.1 12).toNatClampNeg (x1 &&& (65535 : Int32))) 12 ((s.1 12) + (1 : Int32))))) (ob := xin (s.1 12) 16 && (true)) e_134 hk_134 15 rfl (xand o2 rfl) ?_
    cases h
    exact xu_iret e_134 hk_134 rfl rfl rfl
  · have h := xif_pos c1 h
    refine xOK_steps (fr' := (5, [some (.ref 27), some (.int x1)], [.int (0 : Int32)])) (w' := (mk t s)) (ob := true) e_134 hk_134 1 rfl rfl ?_
    cases h
    exact xu_iret e_134 hk_134 rfl rfl rfl
set_option maxRecDepth 100000 in
set_option maxHeartbeats 4000000 in
theorem t_M_failWrite_11 (t : xS) (q : (Int32 × xS)) (s : xS) (h : f_M_failWrite_11  s = some q) : xOK 135 none (xEnd 135 (some q.1) (mk t q.2)) (5, [none, none], []) (mk t s) 0 0 := by
  unfold f_M_failWrite_11 at h
  refine xOK_steps (fr' := (6, [none, none], [.int (0 : Int32)])) (w' := (mk t s)) (ob := true) e_135 hk_135 1 rfl rfl ?_
  cases h
  exact xu_iret e_135 hk_135 rfl rfl rfl
set_option maxRecDepth 100000 in
set_option maxHeartbeats 4000000 in
theorem m_M_failWrite (x1 : Int32) (s t : xS) (q : (Int32 × xS)) (h : f_M_failWrite x1 s = some q) : xMet 135 [.ref 27, .int x1] (mk t s) (some q.1) (mk t q.2) := by
  refine xMet_of hk_135 rfl rfl rfl ?_
  refine xOK_eq (fr := (0, [some (.ref 27), some (.int x1)], [])) rfl ?_
  unfold f_M_failWrite at h
  refine xOK_steps (fr' := (1, [some (.ref 27), some (.int x1)], [.int x1])) (w' := (mk t s)) (ob := true) e_135 hk_135 1 rfl rfl ?_
  refine xu_if_lt e_135 hk_135 rfl (fun c1 => ?_) (fun c1 => ?_)
  · have h := xif_pos c1 h
    refine xOK_fg [0, 1] ?_
    exact t_M_failWrite_11 t q  _ h
  · have h := xif_neg c1 h
    refine xOK_steps (fr' := (4, [some (.ref 27), some (.int x1)], [.int (1000 : Int32), .int x1])) (w' := (mk t s)) (ob := true) e_135 hk_135 2 rfl rfl ?_
    refine xu_icmp_le e_135 hk_135 rfl (fun c2 => ?_) (fun c2 => ?_)
    · have h := xif_pos c2 h
      refine xOK_steps (fr' := (11, [some (.ref 27), some (.int x1)], [.int (1 : Int32)])) (w' := (mk t (xsc s 16 x1))) (ob := true) e_135 hk_135 4 rfl rfl ?_
      cases h
      exact xu_iret e_135 hk_135 rfl rfl rfl
    · have h := xif_neg c2 h
      refine xOK_fg [0, 1] ?_
      exact t_M_failWrite_11 t q  _ h
set_option maxRecDepth 100000 in
set_option maxHeartbeats 4000000 in
theorem t_M_failStep_11 (t : xS) (q : (Int32 × xS)) (s : xS) (h : f_M_failStep_11  s = some q) : xOK 136 none (xEnd 136 (some q.1) (mk t q.2)) (5, [none, none], []) (mk t s) 0 0 := by
  unfold f_M_failStep_11 at h
  refine xOK_steps (fr' := (6, [none, none], [.int (0 : Int32)])) (w' := (mk t s)) (ob := true) e_136 hk_136 1 rfl rfl ?_
  cases h
  exact xu_iret e_136 hk_136 rfl rfl rfl
set_option maxRecDepth 100000 in
set_option maxHeartbeats 4000000 in
theorem m_M_failStep (x1 : Int32) (s t : xS) (q : (Int32 × xS)) (h : f_M_failStep x1 s = some q) : xMet 136 [.ref 27, .int x1] (mk t s) (some q.1) (mk t q.2) := by
  refine xMet_of hk_136 rfl rfl rfl ?_
  refine xOK_eq (fr := (0, [some (.ref 27), some (.int x1)], [])) rfl ?_
  unfold f_M_failStep at h
  refine xOK_steps (fr' := (1, [some (.ref 27), some (.int x1)], [.int x1])) (w' := (mk t s)) (ob := true) e_136 hk_136 1 rfl rfl ?_
  refine xu_if_lt e_136 hk_136 rfl (fun c1 => ?_) (fun c1 => ?_)
  · have h := xif_pos c1 h
    refine xOK_fg [0, 1] ?_
    exact t_M_failStep_11 t q  _ h
  · have h := xif_neg c1 h
    refine xOK_steps (fr' := (4, [some (.ref 27), some (.int x1)], [.int (1000 : Int32), .int x1])) (w' := (mk t s)) (ob := true) e_136 hk_136 2 rfl rfl ?_
    refine xu_icmp_le e_136 hk_136 rfl (fun c2 => ?_) (fun c2 => ?_)
    · have h := xif_pos c2 h
      refine xOK_steps (fr' := (11, [some (.ref 27), some (.int x1)], [.int (1 : Int32)])) (w' := (mk t (xsc s 17 x1))) (ob := true) e_136 hk_136 4 rfl rfl ?_
      cases h
      exact xu_iret e_136 hk_136 rfl rfl rfl
    · have h := xif_neg c2 h
      refine xOK_fg [0, 1] ?_
      exact t_M_failStep_11 t q  _ h
set_option maxRecDepth 100000 in
set_option maxHeartbeats 4000000 in
theorem m_M_state (s t : xS) (q : (Int32 × xS)) (h : f_M_state  s = some q) : xMet 137 [.ref 27] (mk t s) (some q.1) (mk t q.2) := by
  refine xMet_of hk_137 rfl rfl rfl ?_
  refine xOK_eq (fr := (0, [some (.ref 27)], [])) rfl ?_
  unfold f_M_state at h
  refine xOK_steps (fr' := (2, [some (.ref 27)], [.int (s.1 14)])) (w' := (mk t s)) (ob := true) e_137 hk_137 2 rfl rfl ?_
  cases h
  exact xu_iret e_137 hk_137 rfl rfl rfl
set_option maxRecDepth 100000 in
set_option maxHeartbeats 4000000 in
theorem t_M_register_28 (t : xS) (q : (Int32 × xS)) (y0 : Int32) (s : xS) (h : f_M_register_28 y0 s = some q) : xOK 138 none (xEnd 138 (some q.1) (mk t q.2)) (15, [none, none], [.int y0]) (mk t s) 0 0 := by
  unfold f_M_register_28 at h
  cases h
  exact xu_iret e_138 hk_138 rfl rfl rfl
set_option maxRecDepth 100000 in
set_option maxHeartbeats 4000000 in
theorem t_M_register_18 (t : xS) (q : (Int32 × xS)) (s : xS) (h : f_M_register_18  s = some q) : xOK 138 none (xEnd 138 (some q.1) (mk t q.2)) (9, [none, none], []) (mk t s) 0 0 := by
  unfold f_M_register_18 at h
  refine xOK_steps (fr' := (15, [none, none], [.int (0 : Int32)])) (w' := (mk t s)) (ob := true) e_138 hk_138 2 rfl rfl ?_
  exact t_M_register_28 t q _ _ h
set_option maxRecDepth 100000 in
set_option maxHeartbeats 4000000 in
theorem m_M_register (x1 : Int32) (s t : xS) (q : (Int32 × xS)) (h : f_M_register x1 s = some q) : xMet 138 [.ref 27, .int x1] (mk t s) (some q.1) (mk t q.2) := by
  refine xMet_of hk_138 rfl rfl rfl ?_
  refine xOK_eq (fr := (0, [some (.ref 27), some (.int x1)], [])) rfl ?_
  unfold f_M_register at h
  refine xOK_steps (fr' := (1, [some (.ref 27), some (.int x1)], [.int x1])) (w' := (mk t s)) (ob := true) e_138 hk_138 1 rfl rfl ?_
  refine xu_if_lt e_138 hk_138 rfl (fun c1 => ?_) (fun c1 => ?_)
  · have h := xif_pos c1 h
    refine xOK_fg [0, 1] ?_
    exact t_M_register_18 t q  _ h
  · have h := xif_neg c1 h
    refine xOK_steps (fr' := (4, [some (.ref 27), some (.int x1)], [.int (15 : Int32), .int x1])) (w' := (mk t s)) (ob := true) e_138 hk_138 2 rfl rfl ?_
    refine xu_icmp_gt e_138 hk_138 rfl (fun c2 => ?_) (fun c2 => ?_)
    · have h := xif_pos c2 h
      refine xOK_fg [0, 1] ?_
      exact t_M_register_18 t q  _ h
    · have h := xif_neg c2 h
      refine xOK_steps (fr' := (8, [some (.ref 27), some (.int x1)], [.int (2 : Int32), .int (s.1 14)])) (w' := (mk t s)) (ob := true) e_138 hk_138 3 rfl rfl ?_
      refine xu_icmp_ne e_138 hk_138 rfl (fun c3 => ?_) (fun c3 => ?_)
      · have h := xif_neg c3 h
        by_cases o4 : xin x1 16 = true
        case neg => have h := xif_neg o4 h; cases h
        have h := xif_pos o4 h
        refine xOK_steps (fr' := (15, [some (.ref 27), some (.int x1)], [.int ((s.2 0) (x1).toNatClampNeg)])) (w' := (mk t s)) (ob := xin x1 16 && (true)) e_138 hk_138 4 rfl (xand o4 rfl) ?_
        refine xOK_fg [0, 1] ?_
        exact t_M_register_28 t q _ _ h
      · have h := xif_pos c3 h
        refine xOK_fg [0, 1] ?_
        exact t_M_register_18 t q  _ h
set_option maxRecDepth 100000 in
set_option maxHeartbeats 4000000 in
theorem t_M_memory_50 (t : xS) (q : (Int32 × xS)) (y0 : Int32) (s : xS) (h : f_M_memory_50 y0 s = some q) : xOK 139 none (xEnd 139 (some q.1) (mk t q.2)) (28, [none, none], [.int y0]) (mk t s) 0 0 := by
  unfold f_M_memory_50 at h
  cases h
  exact xu_iret e_139 hk_139 rfl rfl rfl
set_option maxRecDepth 100000 in
set_option maxHeartbeats 4000000 in
theorem t_M_memory_49 (t : xS) (q : (Int32 × xS)) (s : xS) (h : f_M_memory_49  s = some q) : xOK 139 none (xEnd 139 (some q.1) (mk t q.2)) (27, [none, none], []) (mk t s) 0 0 := by
  unfold f_M_memory_49 at h
  refine xOK_steps (fr' := (28, [none, none], [.int (0 : Int32)])) (w' := (mk t s)) (ob := true) e_139 hk_139 1 rfl rfl ?_
  exact t_M_memory_50 t q _ _ h
set_option maxRecDepth 100000 in
set_option maxHeartbeats 4000000 in
theorem m_M_memory (x1 : Int32) (s t : xS) (q : (Int32 × xS)) (h : f_M_memory x1 s = some q) : xMet 139 [.ref 27, .int x1] (mk t s) (some q.1) (mk t q.2) := by
  refine xMet_of hk_139 rfl rfl rfl ?_
  refine xOK_eq (fr := (0, [some (.ref 27), some (.int x1)], [])) rfl ?_
  unfold f_M_memory at h
  refine xOK_steps (fr' := (1, [some (.ref 27), some (.int x1)], [.int x1])) (w' := (mk t s)) (ob := true) e_139 hk_139 1 rfl rfl ?_
  obtain ⟨q1, e2, h⟩ := Option.bind_eq_some_iff.mp h
  refine xu_calls (r := (some q1)) (av := [.int x1]) (st := []) (w1 := (mk t s)) e_139 hk_139 rfl rfl (m_M_inFram _ _ _ _ e2) rfl rfl rfl rfl ?_
  refine xu_if_eq e_139 hk_139 rfl (fun c3 => ?_) (fun c3 => ?_)
  · have h := xif_pos c3 h
    refine xOK_steps (fr' := (12, [some (.ref 27), some (.int x1)], [.int x1])) (w' := (mk t s)) (ob := true) e_139 hk_139 1 rfl rfl ?_
    obtain ⟨q4, e5, h⟩ := Option.bind_eq_some_iff.mp h
    refine xu_calls (r := (some q4)) (av := [.int x1]) (st := []) (w1 := (mk t s)) e_139 hk_139 rfl rfl (m_M_inSram _ _ _ _ e5) rfl rfl rfl rfl ?_
    refine xu_if_eq e_139 hk_139 rfl (fun c6 => ?_) (fun c6 => ?_)
    · have h := xif_pos c6 h
      refine xOK_fg [0, 1] ?_
      exact t_M_memory_49 t q  _ h
    · have h := xif_neg c6 h
      refine xOK_steps (fr' := (17, [some (.ref 27), some (.int x1)], [.int (2 : Int32), .int (s.1 14)])) (w' := (mk t s)) (ob := true) e_139 hk_139 3 rfl rfl ?_
      refine xu_icmp_eq e_139 hk_139 rfl (fun c7 => ?_) (fun c7 => ?_)
      · have h := xif_pos c7 h
        refine xOK_fg [0, 1] ?_
        exact t_M_memory_49 t q  _ h
      · have h := xif_neg c7 h
        by_cases o8 : xin ((x1 - (512 : Int32)) / (2 : Int32)) 16 = true
        case neg => have h := xif_neg o8 h; cases h
        have h := xif_pos o8 h
        refine xOK_steps (fr' := (28, [some (.ref 27), some (.int x1)], [.int ((s.2 1) ((x1 - (512 : Int32)) / (2 : Int32)).toNatClampNeg)])) (w' := (mk t s)) (ob := xin ((x1 - (512 : Int32)) / (2 : Int32)) 16 && (true)) e_139 hk_139 9 rfl (xand o8 rfl) ?_
        refine xOK_fg [0, 1] ?_
        exact t_M_memory_50 t q _ _ h
  · have h := xif_neg c3 h
    refine xOK_steps (fr' := (9, [some (.ref 27), some (.int x1)], [.int ((x1 - (1024 : Int32)) / (2 : Int32)), .ref 27])) (w' := (mk t s)) (ob := true) e_139 hk_139 6 rfl rfl ?_
    obtain ⟨q9, e10, h⟩ := Option.bind_eq_some_iff.mp h
    refine xu_callv (q := 27) (r := (some q9.1)) (av := [.int ((x1 - (1024 : Int32)) / (2 : Int32))]) (st := []) (w1 := (mk t q9.2)) e_139 hk_139 rfl (m_M_framNow _ _ _ _ e10) rfl rfl rfl rfl rfl ?_
    cases h
    exact xu_iret e_139 hk_139 rfl rfl rfl
set_option maxRecDepth 100000 in
set_option maxHeartbeats 4000000 in
theorem t_M_fram_20 (t : xS) (q : (Int32 × xS)) (y0 : Int32) (s : xS) (h : f_M_fram_20 y0 s = some q) : xOK 140 none (xEnd 140 (some q.1) (mk t q.2)) (11, [none, none], [.int y0]) (mk t s) 0 0 := by
  unfold f_M_fram_20 at h
  cases h
  exact xu_iret e_140 hk_140 rfl rfl rfl
set_option maxRecDepth 100000 in
set_option maxHeartbeats 4000000 in
theorem t_M_fram_10 (t : xS) (q : (Int32 × xS)) (s : xS) (h : f_M_fram_10  s = some q) : xOK 140 none (xEnd 140 (some q.1) (mk t q.2)) (5, [none, none], []) (mk t s) 0 0 := by
  unfold f_M_fram_10 at h
  refine xOK_steps (fr' := (11, [none, none], [.int (0 : Int32)])) (w' := (mk t s)) (ob := true) e_140 hk_140 2 rfl rfl ?_
  exact t_M_fram_20 t q _ _ h
set_option maxRecDepth 100000 in
set_option maxHeartbeats 4000000 in
theorem m_M_fram (x1 : Int32) (s t : xS) (q : (Int32 × xS)) (h : f_M_fram x1 s = some q) : xMet 140 [.ref 27, .int x1] (mk t s) (some q.1) (mk t q.2) := by
  refine xMet_of hk_140 rfl rfl rfl ?_
  refine xOK_eq (fr := (0, [some (.ref 27), some (.int x1)], [])) rfl ?_
  unfold f_M_fram at h
  refine xOK_steps (fr' := (1, [some (.ref 27), some (.int x1)], [.int x1])) (w' := (mk t s)) (ob := true) e_140 hk_140 1 rfl rfl ?_
  refine xu_if_lt e_140 hk_140 rfl (fun c1 => ?_) (fun c1 => ?_)
  · have h := xif_pos c1 h
    refine xOK_fg [0, 1] ?_
    exact t_M_fram_10 t q  _ h
  · have h := xif_neg c1 h
    refine xOK_steps (fr' := (4, [some (.ref 27), some (.int x1)], [.int (127 : Int32), .int x1])) (w' := (mk t s)) (ob := true) e_140 hk_140 2 rfl rfl ?_
    refine xu_icmp_le e_140 hk_140 rfl (fun c2 => ?_) (fun c2 => ?_)
    · have h := xif_pos c2 h
      by_cases o3 : xin x1 128 = true
      case neg => have h := xif_neg o3 h; cases h
      have h := xif_pos o3 h
      refine xOK_steps (fr' := (11, [some (.ref 27), some (.int x1)], [.int ((s.2 2) (x1).toNatClampNeg)])) (w' := (mk t s)) (ob := xin x1 128 && (true)) e_140 hk_140 4 rfl (xand o3 rfl) ?_
      refine xOK_fg [0, 1] ?_
      exact t_M_fram_20 t q _ _ h
    · have h := xif_neg c2 h
      refine xOK_fg [0, 1] ?_
      exact t_M_fram_10 t q  _ h
set_option maxRecDepth 100000 in
set_option maxHeartbeats 4000000 in
theorem t_M_radio_34 (t : xS) (q : (Int32 × xS)) (y0 : Int32) (s : xS) (h : f_M_radio_34 y0 s = some q) : xOK 141 none (xEnd 141 (some q.1) (mk t q.2)) (18, [none, none], [.int y0]) (mk t s) 0 0 := by
  unfold f_M_radio_34 at h
  cases h
  exact xu_iret e_141 hk_141 rfl rfl rfl
set_option maxRecDepth 100000 in
set_option maxHeartbeats 4000000 in
theorem t_M_radio_24 (t : xS) (q : (Int32 × xS)) (s : xS) (h : f_M_radio_24  s = some q) : xOK 141 none (xEnd 141 (some q.1) (mk t q.2)) (12, [none, none], []) (mk t s) 0 0 := by
  unfold f_M_radio_24 at h
  refine xOK_steps (fr' := (18, [none, none], [.int (0 : Int32)])) (w' := (mk t s)) (ob := true) e_141 hk_141 2 rfl rfl ?_
  exact t_M_radio_34 t q _ _ h
set_option maxRecDepth 100000 in
set_option maxHeartbeats 4000000 in
theorem m_M_radio (x1 : Int32) (s t : xS) (q : (Int32 × xS)) (h : f_M_radio x1 s = some q) : xMet 141 [.ref 27, .int x1] (mk t s) (some q.1) (mk t q.2) := by
  refine xMet_of hk_141 rfl rfl rfl ?_
  refine xOK_eq (fr := (0, [some (.ref 27), some (.int x1)], [])) rfl ?_
  unfold f_M_radio at h
  refine xOK_steps (fr' := (2, [some (.ref 27), some (.int x1)], [.int (-1 : Int32), .int x1])) (w' := (mk t s)) (ob := true) e_141 hk_141 2 rfl rfl ?_
  refine xu_icmp_ne e_141 hk_141 rfl (fun c1 => ?_) (fun c1 => ?_)
  · have h := xif_neg c1 h
    refine xOK_steps (fr' := (7, [some (.ref 27), some (.int x1)], [.int x1])) (w' := (mk t s)) (ob := true) e_141 hk_141 1 rfl rfl ?_
    refine xu_if_lt e_141 hk_141 rfl (fun c2 => ?_) (fun c2 => ?_)
    · have h := xif_pos c2 h
      refine xOK_fg [0, 1] ?_
      exact t_M_radio_24 t q  _ h
    · have h := xif_neg c2 h
      refine xOK_steps (fr' := (11, [some (.ref 27), some (.int x1)], [.int (s.1 13), .int x1])) (w' := (mk t s)) (ob := true) e_141 hk_141 3 rfl rfl ?_
      refine xu_icmp_lt e_141 hk_141 rfl (fun c3 => ?_) (fun c3 => ?_)
      · have h := xif_pos c3 h
        by_cases o4 : xin x1 200 = true
        case neg => have h := xif_neg o4 h; cases h
        have h := xif_pos o4 h
        refine xOK_steps (fr' := (18, [some (.ref 27), some (.int x1)], [.int ((s.2 14) (x1).toNatClampNeg)])) (w' := (mk t s)) (ob := xin x1 200 && (true)) e_141 hk_141 4 rfl (xand o4 rfl) ?_
        refine xOK_fg [0, 1] ?_
        exact t_M_radio_34 t q _ _ h
      · have h := xif_neg c3 h
        refine xOK_fg [0, 1] ?_
        exact t_M_radio_24 t q  _ h
  · have h := xif_pos c1 h
    refine xOK_steps (fr' := (18, [some (.ref 27), some (.int x1)], [.int (s.1 13)])) (w' := (mk t s)) (ob := true) e_141 hk_141 3 rfl rfl ?_
    refine xOK_fg [0, 1] ?_
    exact t_M_radio_34 t q _ _ h
set_option maxRecDepth 100000 in
set_option maxHeartbeats 4000000 in
theorem m_M_waiting (s t : xS) (q : (Int32 × xS)) (h : f_M_waiting  s = some q) : xMet 142 [.ref 27] (mk t s) (some q.1) (mk t q.2) := by
  refine xMet_of hk_142 rfl rfl rfl ?_
  refine xOK_eq (fr := (0, [some (.ref 27)], [])) rfl ?_
  unfold f_M_waiting at h
  refine xOK_steps (fr' := (2, [some (.ref 27)], [.int (s.1 12)])) (w' := (mk t s)) (ob := true) e_142 hk_142 2 rfl rfl ?_
  cases h
  exact xu_iret e_142 hk_142 rfl rfl rfl
set_option maxRecDepth 100000 in
set_option maxHeartbeats 4000000 in
theorem m_M_writes (s t : xS) (q : (Int32 × xS)) (h : f_M_writes  s = some q) : xMet 143 [.ref 27] (mk t s) (some q.1) (mk t q.2) := by
  refine xMet_of hk_143 rfl rfl rfl ?_
  refine xOK_eq (fr := (0, [some (.ref 27)], [])) rfl ?_
  unfold f_M_writes at h
  refine xOK_steps (fr' := (2, [some (.ref 27)], [.int (s.1 18)])) (w' := (mk t s)) (ob := true) e_143 hk_143 2 rfl rfl ?_
  cases h
  exact xu_iret e_143 hk_143 rfl rfl rfl
set_option maxRecDepth 100000 in
set_option maxHeartbeats 4000000 in
theorem m_M_flips (s t : xS) (q : (Int32 × xS)) (h : f_M_flips  s = some q) : xMet 144 [.ref 27] (mk t s) (some q.1) (mk t q.2) := by
  refine xMet_of hk_144 rfl rfl rfl ?_
  refine xOK_eq (fr := (0, [some (.ref 27)], [])) rfl ?_
  unfold f_M_flips at h
  refine xOK_steps (fr' := (2, [some (.ref 27)], [.int (s.1 19)])) (w' := (mk t s)) (ob := true) e_144 hk_144 2 rfl rfl ?_
  cases h
  exact xu_iret e_144 hk_144 rfl rfl rfl
set_option maxRecDepth 100000 in
set_option maxHeartbeats 4000000 in
theorem m_M_retired (s t : xS) (q : (Int32 × xS)) (h : f_M_retired  s = some q) : xMet 145 [.ref 27] (mk t s) (some q.1) (mk t q.2) := by
  refine xMet_of hk_145 rfl rfl rfl ?_
  refine xOK_eq (fr := (0, [some (.ref 27)], [])) rfl ?_
  unfold f_M_retired at h
  refine xOK_steps (fr' := (5, [some (.ref 27)], [.int ((s.1 10) + (s.1 3))])) (w' := (mk t s)) (ob := true) e_145 hk_145 5 rfl rfl ?_
  cases h
  exact xu_iret e_145 hk_145 rfl rfl rfl
set_option maxRecDepth 100000 in
set_option maxHeartbeats 4000000 in
theorem m_M_section (s t : xS) (q : (Int32 × xS)) (h : f_M_section  s = some q) : xMet 146 [.ref 27] (mk t s) (some q.1) (mk t q.2) := by
  refine xMet_of hk_146 rfl rfl rfl ?_
  refine xOK_eq (fr := (0, [some (.ref 27)], [])) rfl ?_
  unfold f_M_section at h
  refine xOK_steps (fr' := (1, [some (.ref 27)], [.ref 27])) (w' := (mk t s)) (ob := true) e_146 hk_146 1 rfl rfl ?_
  obtain ⟨q1, e2, h⟩ := Option.bind_eq_some_iff.mp h
  refine xu_callv (q := 27) (r := (some q1.1)) (av := []) (st := []) (w1 := (mk t q1.2)) e_146 hk_146 rfl (m_M_tracked  _ _ _ e2) rfl rfl rfl rfl rfl ?_
  refine xOK_steps (fr' := (17, [some (.ref 27)], [.int (((q1.1 + ((32 : Int32) * (q1.2.1 0))) + ((256 : Int32) * (q1.2.1 1))) + ((2048 : Int32) * (q1.2.1 11)))])) (w' := (mk t q1.2)) (ob := true) e_146 hk_146 15 rfl rfl ?_
  cases h
  exact xu_iret e_146 hk_146 rfl rfl rfl
end
