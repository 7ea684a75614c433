/-! names, printed by wip/gen/names.py: the classes whose objects the ghost heap holds, their fields, the methods, the good words -/
def T_Ba : u_T := fun k => match k with
  | 0 => ("SnowmeltStreams$Barrier", "at", "[I", true)
  | 1 => ("SnowmeltStreams$Barrier", "isTaken", "[Z", true)
  | _ => ("SnowmeltStreams$Barrier", "isUnderWay", "Z", false)
def T_Ev : u_T := fun k => match k with
  | 0 => ("SnowmeltStreams$Event", "source", "I", true)
  | 1 => ("SnowmeltStreams$Event", "time", "I", true)
  | 2 => ("SnowmeltStreams$Event", "key", "I", true)
  | 3 => ("SnowmeltStreams$Event", "value", "I", true)
  | _ => ("SnowmeltStreams$Event", "watermark", "I", false)
def T_Hi : u_T := fun k => match k with
  | 0 => ("SnowmeltStreams$History", "events", "Ljava/util/ArrayList;", true)
  | 1 => ("SnowmeltStreams$History", "committedLength", "I", false)
  | 2 => ("SnowmeltStreams$History", "committedWatermark", "I", false)
  | _ => ("SnowmeltStreams$History", "gathered", "LSnowmeltStreams$Window;", true)
def T_Jo : u_T := fun k => match k with
  | 0 => ("SnowmeltStreams$Job", "kind", "I", false)
  | 1 => ("SnowmeltStreams$Job", "size", "I", false)
  | 2 => ("SnowmeltStreams$Job", "step", "I", false)
  | 3 => ("SnowmeltStreams$Job", "grace", "I", false)
  | 4 => ("SnowmeltStreams$Job", "reach", "I", false)
  | _ => ("SnowmeltStreams$Job", "aligns", "Z", false)
def T_Pr : u_T := fun k => match k with
  | 0 => ("SnowmeltStreams$Progress", "offset", "[I", true)
  | 1 => ("SnowmeltStreams$Progress", "taken", "[I", true)
  | 2 => ("SnowmeltStreams$Progress", "greatest", "[I", true)
  | 3 => ("SnowmeltStreams$Progress", "watermark", "I", false)
  | 4 => ("SnowmeltStreams$Progress", "historyLength", "I", false)
  | 5 => ("SnowmeltStreams$Progress", "dropped", "I", false)
  | 6 => ("SnowmeltStreams$Progress", "pairs", "I", false)
  | _ => ("SnowmeltStreams$Progress", "windows", "LSnowmeltStreams$Windows;", true)
def T_Si : u_T := fun k => match k with
  | 0 => ("SnowmeltStreams$Sink", "rows", "Ljava/util/ArrayList;", true)
  | 1 => ("SnowmeltStreams$Sink", "committed", "I", false)
  | 2 => ("SnowmeltStreams$Sink", "prepared", "I", false)
  | _ => ("SnowmeltStreams$Sink", "written", "I", false)
def T_So : u_T := fun k => match k with
  | 0 => ("SnowmeltStreams$Source", "events", "Ljava/util/ArrayList;", true)
  | 1 => ("SnowmeltStreams$Source", "slack", "I", false)
  | _ => ("SnowmeltStreams$Source", "isIdle", "Z", false)
def T_Wi : u_T := fun k => match k with
  | 0 => ("SnowmeltStreams$Window", "key", "I", false)
  | 1 => ("SnowmeltStreams$Window", "start", "I", false)
  | 2 => ("SnowmeltStreams$Window", "end", "I", false)
  | 3 => ("SnowmeltStreams$Window", "count", "I", false)
  | 4 => ("SnowmeltStreams$Window", "sum", "I", false)
  | _ => ("SnowmeltStreams$Window", "isEmitted", "Z", false)
def T_Ws : u_T := fun k => match k with
  | 0 => ("SnowmeltStreams$Windows", "rows", "Ljava/util/ArrayList;", true)
  | _ => ("SnowmeltStreams$Windows", "spare", "Ljava/util/ArrayList;", true)
def T_St : u_T := fun k => match k with
  | 0 => ("SnowmeltStreams", "job", "LSnowmeltStreams$Job;", true)
  | 1 => ("SnowmeltStreams", "sources", "[LSnowmeltStreams$Source;", true)
  | 2 => ("SnowmeltStreams", "now", "LSnowmeltStreams$Progress;", true)
  | 3 => ("SnowmeltStreams", "snapshot", "LSnowmeltStreams$Progress;", true)
  | 4 => ("SnowmeltStreams", "history", "LSnowmeltStreams$History;", true)
  | 5 => ("SnowmeltStreams", "sink", "LSnowmeltStreams$Sink;", true)
  | 6 => ("SnowmeltStreams", "barrier", "LSnowmeltStreams$Barrier;", true)
  | 7 => ("SnowmeltStreams", "hasBegun", "Z", false)
  | 8 => ("SnowmeltStreams", "snapshotsTaken", "I", false)
  | 9 => ("SnowmeltStreams", "isSnapshotUnconfirmed", "Z", false)
  | _ => ("SnowmeltStreams", "workerCount", "I", false)
def T_Mo : u_T := fun k => match k with
  | 0 => ("SnowmeltStreams$Window", "key", "I", false)
  | 1 => ("SnowmeltStreams$Window", "start", "I", false)
  | 2 => ("SnowmeltStreams$Window", "end", "I", false)
  | 3 => ("SnowmeltStreams$Window", "count", "I", false)
  | 4 => ("SnowmeltStreams$Window", "sum", "I", false)
  | _ => ("SnowmeltStreams$Window", "isEmitted", "Z", false)
def T_AL : u_T := fun k => match k with
  | 0 => ("java/util/AbstractList", "modCount", "I", false)
  | 1 => ("java/util/ArrayList", "elementData", "[Ljava/lang/Object;", false)
  | _ => ("java/util/ArrayList", "size", "I", false)
abbrev kcl : List vw_C := [("SnowmeltStreams$Barrier", T_Ba, 3), ("SnowmeltStreams$Event", T_Ev, 5), ("SnowmeltStreams$History", T_Hi, 4), ("SnowmeltStreams$Job", T_Jo, 6), ("SnowmeltStreams$Progress", T_Pr, 8), ("SnowmeltStreams$Sink", T_Si, 4), ("SnowmeltStreams$Source", T_So, 3), ("SnowmeltStreams$Window", T_Wi, 6), ("SnowmeltStreams$Windows", T_Ws, 2), ("SnowmeltStreams", T_St, 11), ("SnowmeltStreams$Window", T_Mo, 6), ("java/util/ArrayList", T_AL, 3)]
def nFt : List Nat := [3, 5, 4, 6, 8, 4, 3, 6, 2, 11, 6, 3]
def tyFs : List (List FieldType) := [[(.array .int), (.array .boolean), .boolean], [.int, .int, .int, .int, .int], [(.object "java/util/ArrayList"), .int, .int, (.object "SnowmeltStreams$Window")], [.int, .int, .int, .int, .int, .boolean], [(.array .int), (.array .int), (.array .int), .int, .int, .int, .int, (.object "SnowmeltStreams$Windows")], [(.object "java/util/ArrayList"), .int, .int, .int], [(.object "java/util/ArrayList"), .int, .boolean], [.int, .int, .int, .int, .int, .boolean], [(.object "java/util/ArrayList"), (.object "java/util/ArrayList")], [(.object "SnowmeltStreams$Job"), (.array (.object "SnowmeltStreams$Source")), (.object "SnowmeltStreams$Progress"), (.object "SnowmeltStreams$Progress"), (.object "SnowmeltStreams$History"), (.object "SnowmeltStreams$Sink"), (.object "SnowmeltStreams$Barrier"), .boolean, .int, .boolean, .int], [.int, .int, .int, .int, .int, .boolean], [.int, (.array (.object "java/lang/Object")), .int]]
def nF (ci : Nat) : Nat := nFt.getD ci 0
def tyF (ci k : Nat) : FieldType := (tyFs.getD ci []).getD k .int
def isRt (t : FieldType) : Bool := match t with | .object _ => true | .array _ => true | _ => false
def isR (ci k : Nat) : Bool := isRt (tyF ci k)
abbrev MI : Type := MethodName × ByteArray × Nat × Option FieldType × List (Nat × Nat × Nat × Nat)
abbrev m_Ba_init : MI := (⟨"SnowmeltStreams$Barrier", "<init>", "()V"⟩, prog_2_method_1_code, 1, (Option.none : Option Jvm.ClassFile.FieldType), [])
abbrev m_Ba_put : MI := (⟨"SnowmeltStreams$Barrier", "put", "([IZ)V"⟩, prog_2_method_2_code, 4, (Option.none : Option Jvm.ClassFile.FieldType), [])
abbrev m_Ba_holds : MI := (⟨"SnowmeltStreams$Barrier", "holds", "(I)Z"⟩, prog_2_method_3_code, 2, (Option.some Jvm.ClassFile.FieldType.boolean), [])
abbrev m_Ba_isAtFront : MI := (⟨"SnowmeltStreams$Barrier", "isAtFront", "(II)Z"⟩, prog_2_method_4_code, 3, (Option.some Jvm.ClassFile.FieldType.boolean), [])
abbrev m_Ba_takeOf : MI := (⟨"SnowmeltStreams$Barrier", "takeOf", "(I)V"⟩, prog_2_method_5_code, 2, (Option.none : Option Jvm.ClassFile.FieldType), [])
abbrev m_Ba_isTakenOfAll : MI := (⟨"SnowmeltStreams$Barrier", "isTakenOfAll", "()Z"⟩, prog_2_method_6_code, 2, (Option.some Jvm.ClassFile.FieldType.boolean), [])
abbrev m_Ev_init : MI := (⟨"SnowmeltStreams$Event", "<init>", "(IIII)V"⟩, prog_3_method_1_code, 5, (Option.none : Option Jvm.ClassFile.FieldType), [])
abbrev m_Ev_isLate : MI := (⟨"SnowmeltStreams$Event", "isLate", "()Z"⟩, prog_3_method_2_code, 1, (Option.some Jvm.ClassFile.FieldType.boolean), [])
abbrev m_Ev_isPairWith : MI := (⟨"SnowmeltStreams$Event", "isPairWith", "(LSnowmeltStreams$Event;I)Z"⟩, prog_3_method_3_code, 5, (Option.some Jvm.ClassFile.FieldType.boolean), [])
abbrev m_Hi_init : MI := (⟨"SnowmeltStreams$History", "<init>", "()V"⟩, prog_4_method_1_code, 1, (Option.none : Option Jvm.ClassFile.FieldType), [])
abbrev m_Hi_cutTo : MI := (⟨"SnowmeltStreams$History", "cutTo", "(I)V"⟩, prog_4_method_2_code, 3, (Option.none : Option Jvm.ClassFile.FieldType), [])
abbrev m_Hi_countPairsOf : MI := (⟨"SnowmeltStreams$History", "countPairsOf", "(LSnowmeltStreams$Event;I)I"⟩, prog_4_method_3_code, 5, (Option.some Jvm.ClassFile.FieldType.int), [])
abbrev m_Hi_countPairs : MI := (⟨"SnowmeltStreams$History", "countPairs", "(I)I"⟩, prog_4_method_4_code, 5, (Option.some Jvm.ClassFile.FieldType.int), [])
abbrev m_Hi_admittedAt : MI := (⟨"SnowmeltStreams$History", "admittedAt", "(ILSnowmeltStreams$Job;II)LSnowmeltStreams$Event;"⟩, prog_4_method_5_code, 6, (Option.some (Jvm.ClassFile.FieldType.object "SnowmeltStreams$Event")), [])
abbrev m_Hi_endByGap : MI := (⟨"SnowmeltStreams$History", "endByGap", "(LSnowmeltStreams$Job;II)I"⟩, prog_4_method_6_code, 8, (Option.some Jvm.ClassFile.FieldType.int), [])
abbrev m_Hi_furthestEnd : MI := (⟨"SnowmeltStreams$History", "furthestEnd", "(LSnowmeltStreams$Job;III)I"⟩, prog_4_method_7_code, 8, (Option.some Jvm.ClassFile.FieldType.int), [])
abbrev m_Hi_gather : MI := (⟨"SnowmeltStreams$History", "gather", "(LSnowmeltStreams$Job;III)LSnowmeltStreams$Window;"⟩, prog_4_method_8_code, 7, (Option.some (Jvm.ClassFile.FieldType.object "SnowmeltStreams$Window")), [])
abbrev m_Jo_init : MI := (⟨"SnowmeltStreams$Job", "<init>", "()V"⟩, prog_5_method_1_code, 1, (Option.none : Option Jvm.ClassFile.FieldType), [])
abbrev m_Jo_admits : MI := (⟨"SnowmeltStreams$Job", "admits", "(II)Z"⟩, prog_5_method_2_code, 3, (Option.some Jvm.ClassFile.FieldType.boolean), [])
abbrev m_Jo_keepsOpen : MI := (⟨"SnowmeltStreams$Job", "keepsOpen", "(II)Z"⟩, prog_5_method_3_code, 3, (Option.some Jvm.ClassFile.FieldType.boolean), [])
abbrev m_Jo_lastStart : MI := (⟨"SnowmeltStreams$Job", "lastStart", "(I)I"⟩, prog_5_method_4_code, 2, (Option.some Jvm.ClassFile.FieldType.int), [])
abbrev m_Jo_endBySteps : MI := (⟨"SnowmeltStreams$Job", "endBySteps", "(I)I"⟩, prog_5_method_5_code, 2, (Option.some Jvm.ClassFile.FieldType.int), [])
abbrev m_Jo_admitted : MI := (⟨"SnowmeltStreams$Job", "admitted", "(LSnowmeltStreams$Event;I)Z"⟩, prog_5_method_6_code, 3, (Option.some Jvm.ClassFile.FieldType.boolean), [])
abbrev m_Pr_init : MI := (⟨"SnowmeltStreams$Progress", "<init>", "()V"⟩, prog_6_method_1_code, 1, (Option.none : Option Jvm.ClassFile.FieldType), [])
abbrev m_Pr_inChannelOf : MI := (⟨"SnowmeltStreams$Progress", "inChannelOf", "(I)I"⟩, prog_6_method_2_code, 2, (Option.some Jvm.ClassFile.FieldType.int), [])
abbrev m_Pr_copyFrom : MI := (⟨"SnowmeltStreams$Progress", "copyFrom", "(LSnowmeltStreams$Progress;)V"⟩, prog_6_method_3_code, 3, (Option.none : Option Jvm.ClassFile.FieldType), [])
abbrev m_Si_init : MI := (⟨"SnowmeltStreams$Sink", "<init>", "()V"⟩, prog_7_method_1_code, 1, (Option.none : Option Jvm.ClassFile.FieldType), [])
abbrev m_Si_write : MI := (⟨"SnowmeltStreams$Sink", "write", "(LSnowmeltStreams$Window;Z)V"⟩, prog_7_method_2_code, 3, (Option.none : Option Jvm.ClassFile.FieldType), [])
abbrev m_Si_lastCommitted : MI := (⟨"SnowmeltStreams$Sink", "lastCommitted", "(II)LSnowmeltStreams$Window;"⟩, prog_7_method_3_code, 6, (Option.some (Jvm.ClassFile.FieldType.object "SnowmeltStreams$Window")), [])
abbrev m_So_init : MI := (⟨"SnowmeltStreams$Source", "<init>", "()V"⟩, prog_8_method_1_code, 1, (Option.none : Option Jvm.ClassFile.FieldType), [])
abbrev m_Wi_init : MI := (⟨"SnowmeltStreams$Window", "<init>", "()V"⟩, prog_9_method_1_code, 1, (Option.none : Option Jvm.ClassFile.FieldType), [])
abbrev m_Wi_begin : MI := (⟨"SnowmeltStreams$Window", "begin", "(III)V"⟩, prog_9_method_2_code, 4, (Option.none : Option Jvm.ClassFile.FieldType), [])
abbrev m_Wi_copyFrom : MI := (⟨"SnowmeltStreams$Window", "copyFrom", "(LSnowmeltStreams$Window;)V"⟩, prog_9_method_3_code, 2, (Option.none : Option Jvm.ClassFile.FieldType), [])
abbrev m_Wi_addValue : MI := (⟨"SnowmeltStreams$Window", "addValue", "(I)V"⟩, prog_9_method_4_code, 2, (Option.none : Option Jvm.ClassFile.FieldType), [])
abbrev m_Wi_absorb : MI := (⟨"SnowmeltStreams$Window", "absorb", "(LSnowmeltStreams$Window;)V"⟩, prog_9_method_5_code, 2, (Option.none : Option Jvm.ClassFile.FieldType), [])
abbrev m_Wi_number : MI := (⟨"SnowmeltStreams$Window", "number", "(I)I"⟩, prog_9_method_6_code, 2, (Option.some Jvm.ClassFile.FieldType.int), [])
abbrev m_Wi_hasMoment : MI := (⟨"SnowmeltStreams$Window", "hasMoment", "(I)Z"⟩, prog_9_method_7_code, 2, (Option.some Jvm.ClassFile.FieldType.boolean), [])
abbrev m_Wi_meets : MI := (⟨"SnowmeltStreams$Window", "meets", "(LSnowmeltStreams$Window;)Z"⟩, prog_9_method_8_code, 2, (Option.some Jvm.ClassFile.FieldType.boolean), [])
abbrev m_Wi_isAheadOf : MI := (⟨"SnowmeltStreams$Window", "isAheadOf", "(LSnowmeltStreams$Window;)Z"⟩, prog_9_method_9_code, 2, (Option.some Jvm.ClassFile.FieldType.boolean), [])
abbrev m_Ws_init : MI := (⟨"SnowmeltStreams$Windows", "<init>", "()V"⟩, prog_10_method_1_code, 1, (Option.none : Option Jvm.ClassFile.FieldType), [])
abbrev m_Ws_unusedRow : MI := (⟨"SnowmeltStreams$Windows", "unusedRow", "()LSnowmeltStreams$Window;"⟩, prog_10_method_2_code, 2, (Option.some (Jvm.ClassFile.FieldType.object "SnowmeltStreams$Window")), [])
abbrev m_Ws_copyFrom : MI := (⟨"SnowmeltStreams$Windows", "copyFrom", "(LSnowmeltStreams$Windows;)V"⟩, prog_10_method_3_code, 3, (Option.none : Option Jvm.ClassFile.FieldType), [])
abbrev m_Ws_insert : MI := (⟨"SnowmeltStreams$Windows", "insert", "(LSnowmeltStreams$Window;)V"⟩, prog_10_method_4_code, 3, (Option.none : Option Jvm.ClassFile.FieldType), [])
abbrev m_Ws_find : MI := (⟨"SnowmeltStreams$Windows", "find", "(II)LSnowmeltStreams$Window;"⟩, prog_10_method_5_code, 5, (Option.some (Jvm.ClassFile.FieldType.object "SnowmeltStreams$Window")), [])
abbrev m_Ws_admitBySteps : MI := (⟨"SnowmeltStreams$Windows", "admitBySteps", "(LSnowmeltStreams$Event;LSnowmeltStreams$Job;LSnowmeltStreams$Sink;)Z"⟩, prog_10_method_6_code, 9, (Option.some Jvm.ClassFile.FieldType.boolean), [])
abbrev m_Ws_addToWindow : MI := (⟨"SnowmeltStreams$Windows", "addToWindow", "(LSnowmeltStreams$Event;IILSnowmeltStreams$Sink;)V"⟩, prog_10_method_7_code, 7, (Option.none : Option Jvm.ClassFile.FieldType), [])
abbrev m_Ws_admitByGap : MI := (⟨"SnowmeltStreams$Windows", "admitByGap", "(LSnowmeltStreams$Event;LSnowmeltStreams$Job;LSnowmeltStreams$Sink;)Z"⟩, prog_10_method_8_code, 7, (Option.some Jvm.ClassFile.FieldType.boolean), [])
abbrev m_Ws_absorbMet : MI := (⟨"SnowmeltStreams$Windows", "absorbMet", "(LSnowmeltStreams$Window;LSnowmeltStreams$Sink;)Z"⟩, prog_10_method_9_code, 7, (Option.some Jvm.ClassFile.FieldType.boolean), [])
abbrev m_Ws_emitIfDue : MI := (⟨"SnowmeltStreams$Windows", "emitIfDue", "(LSnowmeltStreams$Window;ILSnowmeltStreams$Sink;)V"⟩, prog_10_method_10_code, 4, (Option.none : Option Jvm.ClassFile.FieldType), [])
abbrev m_Ws_emitDue : MI := (⟨"SnowmeltStreams$Windows", "emitDue", "(ILSnowmeltStreams$Sink;)V"⟩, prog_10_method_11_code, 5, (Option.none : Option Jvm.ClassFile.FieldType), [])
abbrev m_St_init : MI := (⟨"SnowmeltStreams", "<init>", "()V"⟩, prog_1_method_1_code, 1, (Option.none : Option Jvm.ClassFile.FieldType), [])
abbrev m_St_job : MI := (⟨"SnowmeltStreams", "job", "(IIIIIZ)V"⟩, prog_1_method_2_code, 7, (Option.none : Option Jvm.ClassFile.FieldType), [])
abbrev m_St_append : MI := (⟨"SnowmeltStreams", "append", "(IIII)I"⟩, prog_1_method_4_code, 6, (Option.some Jvm.ClassFile.FieldType.int), [])
abbrev m_St_read : MI := (⟨"SnowmeltStreams", "read", "(I)I"⟩, prog_1_method_5_code, 2, (Option.some Jvm.ClassFile.FieldType.int), [])
abbrev m_St_idle : MI := (⟨"SnowmeltStreams", "idle", "(IZ)Z"⟩, prog_1_method_6_code, 4, (Option.some Jvm.ClassFile.FieldType.boolean), [])
abbrev m_St_take : MI := (⟨"SnowmeltStreams", "take", "(I)I"⟩, prog_1_method_7_code, 3, (Option.some Jvm.ClassFile.FieldType.int), [])
abbrev m_St_barrier : MI := (⟨"SnowmeltStreams", "barrier", "()I"⟩, prog_1_method_8_code, 1, (Option.some Jvm.ClassFile.FieldType.int), [])
abbrev m_St_confirm : MI := (⟨"SnowmeltStreams", "confirm", "()I"⟩, prog_1_method_9_code, 1, (Option.some Jvm.ClassFile.FieldType.int), [])
abbrev m_St_fail : MI := (⟨"SnowmeltStreams", "fail", "()I"⟩, prog_1_method_10_code, 1, (Option.some Jvm.ClassFile.FieldType.int), [])
abbrev m_St_workers : MI := (⟨"SnowmeltStreams", "workers", "(I)I"⟩, prog_1_method_11_code, 4, (Option.some Jvm.ClassFile.FieldType.int), [])
abbrev m_St_watermark : MI := (⟨"SnowmeltStreams", "watermark", "()I"⟩, prog_1_method_12_code, 1, (Option.some Jvm.ClassFile.FieldType.int), [])
abbrev m_St_sourceWatermark : MI := (⟨"SnowmeltStreams", "sourceWatermark", "(I)I"⟩, prog_1_method_13_code, 2, (Option.some Jvm.ClassFile.FieldType.int), [])
abbrev m_St_offset : MI := (⟨"SnowmeltStreams", "offset", "(I)I"⟩, prog_1_method_14_code, 2, (Option.some Jvm.ClassFile.FieldType.int), [])
abbrev m_St_inChannel : MI := (⟨"SnowmeltStreams", "inChannel", "(I)I"⟩, prog_1_method_15_code, 2, (Option.some Jvm.ClassFile.FieldType.int), [])
abbrev m_St_open : MI := (⟨"SnowmeltStreams", "open", "(I)I"⟩, prog_1_method_16_code, 5, (Option.some Jvm.ClassFile.FieldType.int), [])
abbrev m_St_dropped : MI := (⟨"SnowmeltStreams", "dropped", "()I"⟩, prog_1_method_18_code, 1, (Option.some Jvm.ClassFile.FieldType.int), [])
abbrev m_St_pairs : MI := (⟨"SnowmeltStreams", "pairs", "()I"⟩, prog_1_method_19_code, 1, (Option.some Jvm.ClassFile.FieldType.int), [])
abbrev m_St_pairsAnew : MI := (⟨"SnowmeltStreams", "pairsAnew", "()I"⟩, prog_1_method_20_code, 1, (Option.some Jvm.ClassFile.FieldType.int), [])
abbrev m_St_uncommitted : MI := (⟨"SnowmeltStreams", "uncommitted", "()I"⟩, prog_1_method_21_code, 1, (Option.some Jvm.ClassFile.FieldType.int), [])
abbrev m_St_result : MI := (⟨"SnowmeltStreams", "result", "(III)I"⟩, prog_1_method_22_code, 5, (Option.some Jvm.ClassFile.FieldType.int), [])
abbrev m_St_resultAnew : MI := (⟨"SnowmeltStreams", "resultAnew", "(III)I"⟩, prog_1_method_23_code, 6, (Option.some Jvm.ClassFile.FieldType.int), [])
abbrev m_St_needSource : MI := (⟨"SnowmeltStreams", "needSource", "(I)V"⟩, prog_1_method_24_code, 1, (Option.none : Option Jvm.ClassFile.FieldType), [])
abbrev m_St_needKey : MI := (⟨"SnowmeltStreams", "needKey", "(I)V"⟩, prog_1_method_25_code, 1, (Option.none : Option Jvm.ClassFile.FieldType), [])
abbrev m_St_needResultOf : MI := (⟨"SnowmeltStreams", "needResultOf", "(III)V"⟩, prog_1_method_26_code, 3, (Option.none : Option Jvm.ClassFile.FieldType), [])
abbrev m_St_needNotBegun : MI := (⟨"SnowmeltStreams", "needNotBegun", "()V"⟩, prog_1_method_27_code, 1, (Option.none : Option Jvm.ClassFile.FieldType), [])
abbrev m_St_isKey : MI := (⟨"SnowmeltStreams", "isKey", "(I)Z"⟩, prog_1_method_28_code, 1, (Option.some Jvm.ClassFile.FieldType.boolean), [])
abbrev m_St_isSpan : MI := (⟨"SnowmeltStreams", "isSpan", "(I)Z"⟩, prog_1_method_29_code, 1, (Option.some Jvm.ClassFile.FieldType.boolean), [])
abbrev m_St_isSlide : MI := (⟨"SnowmeltStreams", "isSlide", "(II)Z"⟩, prog_1_method_30_code, 2, (Option.some Jvm.ClassFile.FieldType.boolean), [])
abbrev m_St_workerOf : MI := (⟨"SnowmeltStreams", "workerOf", "(II)I"⟩, prog_1_method_31_code, 2, (Option.some Jvm.ClassFile.FieldType.int), [])
abbrev m_St_markOf : MI := (⟨"SnowmeltStreams", "markOf", "(I)I"⟩, prog_1_method_32_code, 2, (Option.some Jvm.ClassFile.FieldType.int), [])
abbrev m_St_frontOf : MI := (⟨"SnowmeltStreams", "frontOf", "(I)LSnowmeltStreams$Event;"⟩, prog_1_method_33_code, 4, (Option.some (Jvm.ClassFile.FieldType.object "SnowmeltStreams$Event")), [])
abbrev m_St_takeBarrier : MI := (⟨"SnowmeltStreams", "takeBarrier", "(I)I"⟩, prog_1_method_34_code, 2, (Option.some Jvm.ClassFile.FieldType.int), [])
abbrev m_St_takeEvent : MI := (⟨"SnowmeltStreams", "takeEvent", "(ILSnowmeltStreams$Event;)I"⟩, prog_1_method_35_code, 4, (Option.some Jvm.ClassFile.FieldType.int), [])
abbrev m_St_lookAtWatermark : MI := (⟨"SnowmeltStreams", "lookAtWatermark", "()V"⟩, prog_1_method_36_code, 5, (Option.none : Option Jvm.ClassFile.FieldType), [])
abbrev m_St_takeSnapshot : MI := (⟨"SnowmeltStreams", "takeSnapshot", "()V"⟩, prog_1_method_37_code, 2, (Option.none : Option Jvm.ClassFile.FieldType), [])
abbrev m_St_commitSnapshot : MI := (⟨"SnowmeltStreams", "commitSnapshot", "()V"⟩, prog_1_method_38_code, 1, (Option.none : Option Jvm.ClassFile.FieldType), [])
abbrev m_St_fallBack : MI := (⟨"SnowmeltStreams", "fallBack", "()V"⟩, prog_1_method_39_code, 1, (Option.none : Option Jvm.ClassFile.FieldType), [])
abbrev m_AbC_init : MI := (⟨"java/util/AbstractCollection", "<init>", "()V"⟩, prog_36_method_1_code, 1, (Option.none : Option Jvm.ClassFile.FieldType), [])
abbrev m_AbL_init : MI := (⟨"java/util/AbstractList", "<init>", "()V"⟩, prog_37_method_1_code, 1, (Option.none : Option Jvm.ClassFile.FieldType), [])
abbrev m_AL_init : MI := (⟨"java/util/ArrayList", "<init>", "()V"⟩, prog_38_method_2_code, 1, (Option.none : Option Jvm.ClassFile.FieldType), [])
abbrev m_AL_grow1 : MI := (⟨"java/util/ArrayList", "grow", "(I)[Ljava/lang/Object;"⟩, prog_38_method_6_code, 4, (Option.some (Jvm.ClassFile.FieldType.array (Jvm.ClassFile.FieldType.object "java/lang/Object"))), [])
abbrev m_AL_grow : MI := (⟨"java/util/ArrayList", "grow", "()[Ljava/lang/Object;"⟩, prog_38_method_7_code, 1, (Option.some (Jvm.ClassFile.FieldType.array (Jvm.ClassFile.FieldType.object "java/lang/Object"))), [])
abbrev m_AL_size : MI := (⟨"java/util/ArrayList", "size", "()I"⟩, prog_38_method_8_code, 1, (Option.some Jvm.ClassFile.FieldType.int), [])
abbrev m_AL_elementData : MI := (⟨"java/util/ArrayList", "elementData", "(I)Ljava/lang/Object;"⟩, prog_38_method_18_code, 2, (Option.some (Jvm.ClassFile.FieldType.object "java/lang/Object")), [])
abbrev m_AL_get : MI := (⟨"java/util/ArrayList", "get", "(I)Ljava/lang/Object;"⟩, prog_38_method_20_code, 2, (Option.some (Jvm.ClassFile.FieldType.object "java/lang/Object")), [])
abbrev m_AL_add3 : MI := (⟨"java/util/ArrayList", "add", "(Ljava/lang/Object;[Ljava/lang/Object;I)V"⟩, prog_38_method_24_code, 4, (Option.none : Option Jvm.ClassFile.FieldType), [])
abbrev m_AL_add : MI := (⟨"java/util/ArrayList", "add", "(Ljava/lang/Object;)Z"⟩, prog_38_method_25_code, 2, (Option.some Jvm.ClassFile.FieldType.boolean), [])
abbrev m_AL_addAt : MI := (⟨"java/util/ArrayList", "add", "(ILjava/lang/Object;)V"⟩, prog_38_method_26_code, 5, (Option.none : Option Jvm.ClassFile.FieldType), [])
abbrev m_AL_remove : MI := (⟨"java/util/ArrayList", "remove", "(I)Ljava/lang/Object;"⟩, prog_38_method_29_code, 4, (Option.some (Jvm.ClassFile.FieldType.object "java/lang/Object")), [])
abbrev m_AL_fastRemove : MI := (⟨"java/util/ArrayList", "fastRemove", "([Ljava/lang/Object;I)V"⟩, prog_38_method_39_code, 4, (Option.none : Option Jvm.ClassFile.FieldType), [])
abbrev m_AL_rangeCheckForAdd : MI := (⟨"java/util/ArrayList", "rangeCheckForAdd", "(I)V"⟩, prog_38_method_45_code, 2, (Option.none : Option Jvm.ClassFile.FieldType), [])
abbrev m_Ar_copyOf : MI := (⟨"java/util/Arrays", "copyOf", "([Ljava/lang/Object;I)[Ljava/lang/Object;"⟩, prog_39_method_119_code, 2, (Option.some (Jvm.ClassFile.FieldType.array (Jvm.ClassFile.FieldType.object "java/lang/Object"))), [])
abbrev m_Ar_copyOf3 : MI := (⟨"java/util/Arrays", "copyOf", "([Ljava/lang/Object;ILjava/lang/Class;)[Ljava/lang/Object;"⟩, prog_39_method_120_code, 4, (Option.some (Jvm.ClassFile.FieldType.array (Jvm.ClassFile.FieldType.object "java/lang/Object"))), [])
abbrev m_Ob_checkIndex : MI := (⟨"java/util/Objects", "checkIndex", "(II)I"⟩, prog_42_method_17_code, 2, (Option.some Jvm.ClassFile.FieldType.int), [])
abbrev m_AS_newLength : MI := (⟨"jdk/internal/util/ArraysSupport", "newLength", "(III)I"⟩, prog_45_method_27_code, 4, (Option.some Jvm.ClassFile.FieldType.int), [])
abbrev m_Pc_checkIndex : MI := (⟨"jdk/internal/util/Preconditions", "checkIndex", "(IILjava/util/function/BiFunction;)I"⟩, prog_46_method_11_code, 3, (Option.some Jvm.ClassFile.FieldType.int), [])
abbrev m_La_asks : MI := (⟨"SnowmeltStreamsLaw", "asks", "(LSnowmeltStreams;IIIII)I"⟩, method_2_code, 6, (Option.some Jvm.ClassFile.FieldType.int), [])
abbrev m_La_on : MI := (⟨"SnowmeltStreamsLaw", "on", "(LSnowmeltStreams;IIIII)I"⟩, method_3_code, 7, (Option.some Jvm.ClassFile.FieldType.int), [((0 : Nat), (11 : Nat), (12 : Nat), (39 : Nat)), ((0 : Nat), (11 : Nat), (17 : Nat), (41 : Nat)), ((0 : Nat), (11 : Nat), (22 : Nat), (43 : Nat))])
abbrev m_La_isTwice : MI := (⟨"SnowmeltStreamsLaw", "isTwice", "(LSnowmeltStreams;IIII)Z"⟩, method_4_code, 9, (Option.some Jvm.ClassFile.FieldType.boolean), [])
abbrev m_La_areSources : MI := (⟨"SnowmeltStreamsLaw", "areSources", "(LSnowmeltStreams;[I[II)Z"⟩, method_5_code, 8, (Option.some Jvm.ClassFile.FieldType.boolean), [])
abbrev m_La_law : MI := (x, code, maxLocals, ret, [])
/-- the words that hold later, too -/
def gw : List Cond := lw_tbl.filter goodWord
theorem gw_mem {w : Cond} (i : Nat) (h : lw_tbl[i]? = some w) (g : goodWord w = true) : w ∈ gw := List.mem_filter.mpr ⟨List.mem_of_getElem? h, g⟩
theorem gw_all {ws : List Cond} (h : ∀ w ∈ ws, w ∈ lw_tbl ∧ goodWord w = true) : ∀ w ∈ ws, w ∈ gw := fun w hw => List.mem_filter.mpr (h w hw)
theorem gw_in {ws : List Cond} (h : ∀ w ∈ ws, w ∈ gw) : GoodIn gw ws := fun w hw => ⟨h w hw, good_of_word (List.mem_filter.mp (h w hw)).2⟩
theorem uw_Ba : ∀ w ∈ u_ws "SnowmeltStreams$Barrier" T_Ba 3, w ∈ gw := gw_all (by decide +kernel)
theorem nm_Ba : ∀ a, a < 3 → ∀ b, b < 3 → a ≠ b → (T_Ba a).2.1 ≠ (T_Ba b).2.1 := by decide +kernel
theorem ty_Ba : ∀ k, k < 3 → parseFieldDescriptor (T_Ba k).2.2.1 = some (tyF 0 k) := by decide +kernel
theorem uw_Ev : ∀ w ∈ u_ws "SnowmeltStreams$Event" T_Ev 5, w ∈ gw := gw_all (by decide +kernel)
theorem nm_Ev : ∀ a, a < 5 → ∀ b, b < 5 → a ≠ b → (T_Ev a).2.1 ≠ (T_Ev b).2.1 := by decide +kernel
theorem ty_Ev : ∀ k, k < 5 → parseFieldDescriptor (T_Ev k).2.2.1 = some (tyF 1 k) := by decide +kernel
theorem uw_Hi : ∀ w ∈ u_ws "SnowmeltStreams$History" T_Hi 4, w ∈ gw := gw_all (by decide +kernel)
theorem nm_Hi : ∀ a, a < 4 → ∀ b, b < 4 → a ≠ b → (T_Hi a).2.1 ≠ (T_Hi b).2.1 := by decide +kernel
theorem ty_Hi : ∀ k, k < 4 → parseFieldDescriptor (T_Hi k).2.2.1 = some (tyF 2 k) := by decide +kernel
theorem uw_Jo : ∀ w ∈ u_ws "SnowmeltStreams$Job" T_Jo 6, w ∈ gw := gw_all (by decide +kernel)
theorem nm_Jo : ∀ a, a < 6 → ∀ b, b < 6 → a ≠ b → (T_Jo a).2.1 ≠ (T_Jo b).2.1 := by decide +kernel
theorem ty_Jo : ∀ k, k < 6 → parseFieldDescriptor (T_Jo k).2.2.1 = some (tyF 3 k) := by decide +kernel
theorem uw_Pr : ∀ w ∈ u_ws "SnowmeltStreams$Progress" T_Pr 8, w ∈ gw := gw_all (by decide +kernel)
theorem nm_Pr : ∀ a, a < 8 → ∀ b, b < 8 → a ≠ b → (T_Pr a).2.1 ≠ (T_Pr b).2.1 := by decide +kernel
theorem ty_Pr : ∀ k, k < 8 → parseFieldDescriptor (T_Pr k).2.2.1 = some (tyF 4 k) := by decide +kernel
theorem uw_Si : ∀ w ∈ u_ws "SnowmeltStreams$Sink" T_Si 4, w ∈ gw := gw_all (by decide +kernel)
theorem nm_Si : ∀ a, a < 4 → ∀ b, b < 4 → a ≠ b → (T_Si a).2.1 ≠ (T_Si b).2.1 := by decide +kernel
theorem ty_Si : ∀ k, k < 4 → parseFieldDescriptor (T_Si k).2.2.1 = some (tyF 5 k) := by decide +kernel
theorem uw_So : ∀ w ∈ u_ws "SnowmeltStreams$Source" T_So 3, w ∈ gw := gw_all (by decide +kernel)
theorem nm_So : ∀ a, a < 3 → ∀ b, b < 3 → a ≠ b → (T_So a).2.1 ≠ (T_So b).2.1 := by decide +kernel
theorem ty_So : ∀ k, k < 3 → parseFieldDescriptor (T_So k).2.2.1 = some (tyF 6 k) := by decide +kernel
theorem uw_Wi : ∀ w ∈ u_ws "SnowmeltStreams$Window" T_Wi 6, w ∈ gw := gw_all (by decide +kernel)
theorem nm_Wi : ∀ a, a < 6 → ∀ b, b < 6 → a ≠ b → (T_Wi a).2.1 ≠ (T_Wi b).2.1 := by decide +kernel
theorem ty_Wi : ∀ k, k < 6 → parseFieldDescriptor (T_Wi k).2.2.1 = some (tyF 7 k) := by decide +kernel
theorem uw_Ws : ∀ w ∈ u_ws "SnowmeltStreams$Windows" T_Ws 2, w ∈ gw := gw_all (by decide +kernel)
theorem nm_Ws : ∀ a, a < 2 → ∀ b, b < 2 → a ≠ b → (T_Ws a).2.1 ≠ (T_Ws b).2.1 := by decide +kernel
theorem ty_Ws : ∀ k, k < 2 → parseFieldDescriptor (T_Ws k).2.2.1 = some (tyF 8 k) := by decide +kernel
theorem uw_St : ∀ w ∈ u_ws "SnowmeltStreams" T_St 11, w ∈ gw := gw_all (by decide +kernel)
theorem nm_St : ∀ a, a < 11 → ∀ b, b < 11 → a ≠ b → (T_St a).2.1 ≠ (T_St b).2.1 := by decide +kernel
theorem ty_St : ∀ k, k < 11 → parseFieldDescriptor (T_St k).2.2.1 = some (tyF 9 k) := by decide +kernel
theorem uw_Mo : ∀ w ∈ u_ws "SnowmeltStreams$Window" T_Mo 6, w ∈ gw := gw_all (by decide +kernel)
theorem nm_Mo : ∀ a, a < 6 → ∀ b, b < 6 → a ≠ b → (T_Mo a).2.1 ≠ (T_Mo b).2.1 := by decide +kernel
theorem ty_Mo : ∀ k, k < 6 → parseFieldDescriptor (T_Mo k).2.2.1 = some (tyF 10 k) := by decide +kernel
theorem uw_AL : ∀ w ∈ u_ws "java/util/ArrayList" T_AL 3, w ∈ gw := gw_all (by decide +kernel)
theorem nm_AL : ∀ a, a < 3 → ∀ b, b < 3 → a ≠ b → (T_AL a).2.1 ≠ (T_AL b).2.1 := by decide +kernel
theorem ty_AL : ∀ k, k < 3 → parseFieldDescriptor (T_AL k).2.2.1 = some (tyF 11 k) := by decide +kernel
/-- all that is asked of a class of the ghost heap -/
theorem kcl_ok : ∀ (ci : Nat) (q : vw_C), kcl[ci]? = some q → (∀ w ∈ u_ws q.1 q.2.1 q.2.2, w ∈ gw) ∧ (∀ a, a < q.2.2 → ∀ b, b < q.2.2 → a ≠ b → (q.2.1 a).2.1 ≠ (q.2.1 b).2.1) ∧ (∀ k, k < q.2.2 → parseFieldDescriptor (q.2.1 k).2.2.1 = some (tyF ci k)) ∧ q.2.2 = nF ci ∧ ci < 19 := by
  intro ci q h
  match ci, h with
  | 0, h => cases h; exact ⟨uw_Ba, nm_Ba, ty_Ba, rfl, by decide⟩
  | 1, h => cases h; exact ⟨uw_Ev, nm_Ev, ty_Ev, rfl, by decide⟩
  | 2, h => cases h; exact ⟨uw_Hi, nm_Hi, ty_Hi, rfl, by decide⟩
  | 3, h => cases h; exact ⟨uw_Jo, nm_Jo, ty_Jo, rfl, by decide⟩
  | 4, h => cases h; exact ⟨uw_Pr, nm_Pr, ty_Pr, rfl, by decide⟩
  | 5, h => cases h; exact ⟨uw_Si, nm_Si, ty_Si, rfl, by decide⟩
  | 6, h => cases h; exact ⟨uw_So, nm_So, ty_So, rfl, by decide⟩
  | 7, h => cases h; exact ⟨uw_Wi, nm_Wi, ty_Wi, rfl, by decide⟩
  | 8, h => cases h; exact ⟨uw_Ws, nm_Ws, ty_Ws, rfl, by decide⟩
  | 9, h => cases h; exact ⟨uw_St, nm_St, ty_St, rfl, by decide⟩
  | 10, h => cases h; exact ⟨uw_Mo, nm_Mo, ty_Mo, rfl, by decide⟩
  | 11, h => cases h; exact ⟨uw_AL, nm_AL, ty_AL, rfl, by decide⟩
  | n + 12, h => simp [kcl] at h
