def RX0 : String := "Caretline$ChainLine"
def TX0 : u_T := fun k => match k with
  | 0 => ("Caretline$ChainLine", "behind", "LCaretline$Node;", false)
  | 1 => ("Caretline$ChainLine", "ahead", "LCaretline$Node;", false)
  | 2 => ("Caretline$ChainLine", "spare", "LCaretline$Node;", false)
  | 3 => ("Caretline$ChainLine", "caret", "I", false)
  | _ => ("Caretline$ChainLine", "count", "I", false)
def tyX0 : Nat → FieldType := fun k => match k with
  | 0 => .object "Caretline$Node"
  | 1 => .object "Caretline$Node"
  | 2 => .object "Caretline$Node"
  | 3 => .int
  | _ => .int
theorem nmX0 : ∀ a, a < 5 → ∀ b, b < 5 → a ≠ b → (TX0 a).2.1 ≠ (TX0 b).2.1 := by decide +kernel
theorem tyX0_ok : ∀ k, k < 5 → parseFieldDescriptor (TX0 k).2.2.1 = some (tyX0 k) := by decide +kernel
abbrev cX0_init : ByteArray := prog_2_method_1_code
def yX0_init : MethodName := ⟨RX0, "<init>", "()V"⟩
abbrev cX0_pass : ByteArray := prog_2_method_2_code
def yX0_pass : MethodName := ⟨RX0, "pass", "(Z)I"⟩
abbrev cX0_insert : ByteArray := prog_2_method_3_code
def yX0_insert : MethodName := ⟨RX0, "insert", "(I)I"⟩
abbrev cX0_exchange : ByteArray := prog_2_method_4_code
def yX0_exchange : MethodName := ⟨RX0, "exchange", "(IZ)I"⟩
abbrev cX0_drop : ByteArray := prog_2_method_5_code
def yX0_drop : MethodName := ⟨RX0, "drop", "(Z)I"⟩
abbrev cX0_cross : ByteArray := prog_2_method_6_code
def yX0_cross : MethodName := ⟨RX0, "cross", "()I"⟩
abbrev cX0_empty : ByteArray := prog_2_method_7_code
def yX0_empty : MethodName := ⟨RX0, "empty", "()V"⟩
abbrev cX0_wordOf : ByteArray := prog_2_method_8_code
def yX0_wordOf : MethodName := ⟨RX0, "wordOf", "(I)I"⟩
abbrev cX0_join : ByteArray := prog_2_method_9_code
def yX0_join : MethodName := ⟨RX0, "join", "(LCaretline$Node;LCaretline$Node;)V"⟩
def RX1 : String := "Caretline$Editor"
def TX1 : u_T := fun k => match k with
  | 0 => ("Caretline$Editor", "lines", "LCaretline$Lines;", true)
  | 1 => ("Caretline$Editor", "history", "LCaretline$History;", true)
  | 2 => ("Caretline$Editor", "refused", "[I", true)
  | 3 => ("Caretline$Editor", "done", "I", false)
  | _ => ("Caretline$Editor", "side", "I", false)
def tyX1 : Nat → FieldType := fun k => match k with
  | 0 => .object "Caretline$Lines"
  | 1 => .object "Caretline$History"
  | 2 => .array .int
  | 3 => .int
  | _ => .int
theorem nmX1 : ∀ a, a < 5 → ∀ b, b < 5 → a ≠ b → (TX1 a).2.1 ≠ (TX1 b).2.1 := by decide +kernel
theorem tyX1_ok : ∀ k, k < 5 → parseFieldDescriptor (TX1 k).2.2.1 = some (tyX1 k) := by decide +kernel
abbrev cX1_init : ByteArray := prog_3_method_1_code
def yX1_init : MethodName := ⟨RX1, "<init>", "()V"⟩
abbrev cX1_pass : ByteArray := prog_3_method_2_code
def yX1_pass : MethodName := ⟨RX1, "pass", "(Z)I"⟩
abbrev cX1_insert : ByteArray := prog_3_method_3_code
def yX1_insert : MethodName := ⟨RX1, "insert", "(I)I"⟩
abbrev cX1_exchange : ByteArray := prog_3_method_4_code
def yX1_exchange : MethodName := ⟨RX1, "exchange", "(I)I"⟩
abbrev cX1_drop : ByteArray := prog_3_method_5_code
def yX1_drop : MethodName := ⟨RX1, "drop", "()I"⟩
abbrev cX1_go : ByteArray := prog_3_method_6_code
def yX1_go : MethodName := ⟨RX1, "go", "(I)I"⟩
abbrev cX1_seek : ByteArray := prog_3_method_7_code
def yX1_seek : MethodName := ⟨RX1, "seek", "(IZ)I"⟩
abbrev cX1_cross : ByteArray := prog_3_method_8_code
def yX1_cross : MethodName := ⟨RX1, "cross", "()I"⟩
abbrev cX1_takeBack : ByteArray := prog_3_method_9_code
def yX1_takeBack : MethodName := ⟨RX1, "takeBack", "()I"⟩
abbrev cX1_startAnew : ByteArray := prog_3_method_10_code
def yX1_startAnew : MethodName := ⟨RX1, "startAnew", "()V"⟩
abbrev cX1_conclude : ByteArray := prog_3_method_11_code
def yX1_conclude : MethodName := ⟨RX1, "conclude", "(III)V"⟩
abbrev cX1_refuse : ByteArray := prog_3_method_12_code
def yX1_refuse : MethodName := ⟨RX1, "refuse", "(I)I"⟩
def RX2 : String := "Caretline$History"
def TX2 : u_T := fun k => match k with
  | 0 => ("Caretline$History", "kinds", "[I", true)
  | 1 => ("Caretline$History", "numbers", "[I", true)
  | 2 => ("Caretline$History", "latest", "I", false)
  | _ => ("Caretline$History", "kept", "I", false)
def tyX2 : Nat → FieldType := fun k => match k with
  | 0 => .array .int
  | 1 => .array .int
  | 2 => .int
  | _ => .int
theorem nmX2 : ∀ a, a < 4 → ∀ b, b < 4 → a ≠ b → (TX2 a).2.1 ≠ (TX2 b).2.1 := by decide +kernel
theorem tyX2_ok : ∀ k, k < 4 → parseFieldDescriptor (TX2 k).2.2.1 = some (tyX2 k) := by decide +kernel
abbrev cX2_init : ByteArray := prog_4_method_1_code
def yX2_init : MethodName := ⟨RX2, "<init>", "()V"⟩
abbrev cX2_keep : ByteArray := prog_4_method_2_code
def yX2_keep : MethodName := ⟨RX2, "keep", "(II)V"⟩
abbrev cX2_latestKind : ByteArray := prog_4_method_3_code
def yX2_latestKind : MethodName := ⟨RX2, "latestKind", "()I"⟩
abbrev cX2_latestNumber : ByteArray := prog_4_method_4_code
def yX2_latestNumber : MethodName := ⟨RX2, "latestNumber", "()I"⟩
abbrev cX2_forgetLatest : ByteArray := prog_4_method_5_code
def yX2_forgetLatest : MethodName := ⟨RX2, "forgetLatest", "()V"⟩
def RX3 : String := "Caretline$Lines"
def TX3 : u_T := fun k => match k with
  | 0 => ("Caretline$Lines", "list", "LCaretline$ListLine;", true)
  | 1 => ("Caretline$Lines", "chain", "LCaretline$ChainLine;", true)
  | 2 => ("Caretline$Lines", "rows", "LCaretline$RowsLine;", true)
  | _ => ("Caretline$Lines", "unlikeAnswers", "I", false)
def tyX3 : Nat → FieldType := fun k => match k with
  | 0 => .object "Caretline$ListLine"
  | 1 => .object "Caretline$ChainLine"
  | 2 => .object "Caretline$RowsLine"
  | _ => .int
theorem nmX3 : ∀ a, a < 4 → ∀ b, b < 4 → a ≠ b → (TX3 a).2.1 ≠ (TX3 b).2.1 := by decide +kernel
theorem tyX3_ok : ∀ k, k < 4 → parseFieldDescriptor (TX3 k).2.2.1 = some (tyX3 k) := by decide +kernel
abbrev cX3_init : ByteArray := prog_5_method_1_code
def yX3_init : MethodName := ⟨RX3, "<init>", "()V"⟩
abbrev cX3_pass : ByteArray := prog_5_method_2_code
def yX3_pass : MethodName := ⟨RX3, "pass", "(Z)I"⟩
abbrev cX3_insert : ByteArray := prog_5_method_3_code
def yX3_insert : MethodName := ⟨RX3, "insert", "(I)I"⟩
abbrev cX3_exchange : ByteArray := prog_5_method_4_code
def yX3_exchange : MethodName := ⟨RX3, "exchange", "(IZ)I"⟩
abbrev cX3_drop : ByteArray := prog_5_method_5_code
def yX3_drop : MethodName := ⟨RX3, "drop", "(Z)I"⟩
abbrev cX3_empty : ByteArray := prog_5_method_6_code
def yX3_empty : MethodName := ⟨RX3, "empty", "()V"⟩
abbrev cX3_go : ByteArray := prog_5_method_7_code
def yX3_go : MethodName := ⟨RX3, "go", "(I)V"⟩
abbrev cX3_cross : ByteArray := prog_5_method_8_code
def yX3_cross : MethodName := ⟨RX3, "cross", "()I"⟩
abbrev cX3_caret : ByteArray := prog_5_method_9_code
def yX3_caret : MethodName := ⟨RX3, "caret", "()I"⟩
abbrev cX3_length : ByteArray := prog_5_method_10_code
def yX3_length : MethodName := ⟨RX3, "length", "()I"⟩
abbrev cX3_has : ByteArray := prog_5_method_11_code
def yX3_has : MethodName := ⟨RX3, "has", "(Z)Z"⟩
abbrev cX3_wordOf : ByteArray := prog_5_method_12_code
def yX3_wordOf : MethodName := ⟨RX3, "wordOf", "(I)I"⟩
abbrev cX3_stepsTo : ByteArray := prog_5_method_13_code
def yX3_stepsTo : MethodName := ⟨RX3, "stepsTo", "(IZ)I"⟩
abbrev cX3_areListAndChainAlike : ByteArray := prog_5_method_14_code
def yX3_areListAndChainAlike : MethodName := ⟨RX3, "areListAndChainAlike", "()Z"⟩
abbrev cX3_common : ByteArray := prog_5_method_15_code
def yX3_common : MethodName := ⟨RX3, "common", "(III)I"⟩
def RX4 : String := "Caretline$ListLine"
def TX4 : u_T := fun k => match k with
  | 0 => ("Caretline$ListLine", "words", "Ljava/util/ArrayList;", true)
  | _ => ("Caretline$ListLine", "caret", "I", false)
def tyX4 : Nat → FieldType := fun k => match k with
  | 0 => .object "java/util/ArrayList"
  | _ => .int
theorem nmX4 : ∀ a, a < 2 → ∀ b, b < 2 → a ≠ b → (TX4 a).2.1 ≠ (TX4 b).2.1 := by decide +kernel
theorem tyX4_ok : ∀ k, k < 2 → parseFieldDescriptor (TX4 k).2.2.1 = some (tyX4 k) := by decide +kernel
abbrev cX4_init : ByteArray := prog_6_method_1_code
def yX4_init : MethodName := ⟨RX4, "<init>", "()V"⟩
abbrev cX4_pass : ByteArray := prog_6_method_2_code
def yX4_pass : MethodName := ⟨RX4, "pass", "(Z)I"⟩
abbrev cX4_insert : ByteArray := prog_6_method_3_code
def yX4_insert : MethodName := ⟨RX4, "insert", "(I)I"⟩
abbrev cX4_exchange : ByteArray := prog_6_method_4_code
def yX4_exchange : MethodName := ⟨RX4, "exchange", "(IZ)I"⟩
abbrev cX4_drop : ByteArray := prog_6_method_5_code
def yX4_drop : MethodName := ⟨RX4, "drop", "(Z)I"⟩
abbrev cX4_cross : ByteArray := prog_6_method_6_code
def yX4_cross : MethodName := ⟨RX4, "cross", "()I"⟩
abbrev cX4_empty : ByteArray := prog_6_method_7_code
def yX4_empty : MethodName := ⟨RX4, "empty", "()V"⟩
abbrev cX4_length : ByteArray := prog_6_method_8_code
def yX4_length : MethodName := ⟨RX4, "length", "()I"⟩
abbrev cX4_wordOf : ByteArray := prog_6_method_9_code
def yX4_wordOf : MethodName := ⟨RX4, "wordOf", "(I)I"⟩
def RX5 : String := "Caretline$Node"
def TX5 : u_T := fun k => match k with
  | 0 => ("Caretline$Node", "word", "I", false)
  | 1 => ("Caretline$Node", "before", "LCaretline$Node;", false)
  | _ => ("Caretline$Node", "after", "LCaretline$Node;", false)
def tyX5 : Nat → FieldType := fun k => match k with
  | 0 => .int
  | 1 => .object "Caretline$Node"
  | _ => .object "Caretline$Node"
theorem nmX5 : ∀ a, a < 3 → ∀ b, b < 3 → a ≠ b → (TX5 a).2.1 ≠ (TX5 b).2.1 := by decide +kernel
theorem tyX5_ok : ∀ k, k < 3 → parseFieldDescriptor (TX5 k).2.2.1 = some (tyX5 k) := by decide +kernel
abbrev cX5_init : ByteArray := prog_7_method_1_code
def yX5_init : MethodName := ⟨RX5, "<init>", "()V"⟩
def RX6 : String := "Caretline$RowsLine"
def TX6 : u_T := fun k => match k with
  | 0 => ("Caretline$RowsLine", "rows", "[[I", true)
  | _ => ("Caretline$RowsLine", "counts", "[I", true)
def tyX6 : Nat → FieldType := fun k => match k with
  | 0 => .array (.array .int)
  | _ => .array .int
theorem nmX6 : ∀ a, a < 2 → ∀ b, b < 2 → a ≠ b → (TX6 a).2.1 ≠ (TX6 b).2.1 := by decide +kernel
theorem tyX6_ok : ∀ k, k < 2 → parseFieldDescriptor (TX6 k).2.2.1 = some (tyX6 k) := by decide +kernel
abbrev cX6_init : ByteArray := prog_8_method_1_code
def yX6_init : MethodName := ⟨RX6, "<init>", "()V"⟩
abbrev cX6_pass : ByteArray := prog_8_method_2_code
def yX6_pass : MethodName := ⟨RX6, "pass", "(Z)I"⟩
abbrev cX6_insert : ByteArray := prog_8_method_3_code
def yX6_insert : MethodName := ⟨RX6, "insert", "(I)I"⟩
abbrev cX6_exchange : ByteArray := prog_8_method_4_code
def yX6_exchange : MethodName := ⟨RX6, "exchange", "(IZ)I"⟩
abbrev cX6_drop : ByteArray := prog_8_method_5_code
def yX6_drop : MethodName := ⟨RX6, "drop", "(Z)I"⟩
abbrev cX6_cross : ByteArray := prog_8_method_6_code
def yX6_cross : MethodName := ⟨RX6, "cross", "()I"⟩
abbrev cX6_empty : ByteArray := prog_8_method_7_code
def yX6_empty : MethodName := ⟨RX6, "empty", "()V"⟩
abbrev cX6_caret : ByteArray := prog_8_method_8_code
def yX6_caret : MethodName := ⟨RX6, "caret", "()I"⟩
abbrev cX6_length : ByteArray := prog_8_method_9_code
def yX6_length : MethodName := ⟨RX6, "length", "()I"⟩
abbrev cX6_wordOf : ByteArray := prog_8_method_10_code
def yX6_wordOf : MethodName := ⟨RX6, "wordOf", "(I)I"⟩
def RX7 : String := "Caretline$Script"
def TX7 : u_T := fun k => match k with
  | 0 => ("Caretline$Script", "kinds", "[I", true)
  | 1 => ("Caretline$Script", "numbers", "[I", true)
  | 2 => ("Caretline$Script", "places", "[I", true)
  | 3 => ("Caretline$Script", "ends", "[I", true)
  | 4 => ("Caretline$Script", "opened", "[I", true)
  | 5 => ("Caretline$Script", "openCount", "I", false)
  | _ => ("Caretline$Script", "count", "I", false)
def tyX7 : Nat → FieldType := fun k => match k with
  | 0 => .array .int
  | 1 => .array .int
  | 2 => .array .int
  | 3 => .array .int
  | 4 => .array .int
  | 5 => .int
  | _ => .int
theorem nmX7 : ∀ a, a < 7 → ∀ b, b < 7 → a ≠ b → (TX7 a).2.1 ≠ (TX7 b).2.1 := by decide +kernel
theorem tyX7_ok : ∀ k, k < 7 → parseFieldDescriptor (TX7 k).2.2.1 = some (tyX7 k) := by decide +kernel
abbrev cX7_init : ByteArray := prog_9_method_1_code
def yX7_init : MethodName := ⟨RX7, "<init>", "()V"⟩
abbrev cX7_kindOf : ByteArray := prog_9_method_2_code
def yX7_kindOf : MethodName := ⟨RX7, "kindOf", "(I)I"⟩
abbrev cX7_numberOf : ByteArray := prog_9_method_3_code
def yX7_numberOf : MethodName := ⟨RX7, "numberOf", "(I)I"⟩
abbrev cX7_endOf : ByteArray := prog_9_method_4_code
def yX7_endOf : MethodName := ⟨RX7, "endOf", "(I)I"⟩
abbrev cX7_split : ByteArray := prog_9_method_5_code
def yX7_split : MethodName := ⟨RX7, "split", "(LCaretline$Tape;)V"⟩
abbrev cX7_kindOfByte : ByteArray := prog_9_method_6_code
def yX7_kindOfByte : MethodName := ⟨RX7, "kindOfByte", "(I)I"⟩
abbrev cX7_begin : ByteArray := prog_9_method_7_code
def yX7_begin : MethodName := ⟨RX7, "begin", "(III)V"⟩
abbrev cX7_lengthen : ByteArray := prog_9_method_8_code
def yX7_lengthen : MethodName := ⟨RX7, "lengthen", "(III)V"⟩
abbrev cX7_digitOf : ByteArray := prog_9_method_9_code
def yX7_digitOf : MethodName := ⟨RX7, "digitOf", "(II)I"⟩
abbrev cX7_misfitOfWords : ByteArray := prog_9_method_10_code
def yX7_misfitOfWords : MethodName := ⟨RX7, "misfitOfWords", "()I"⟩
abbrev cX7_misfitOfScript : ByteArray := prog_9_method_11_code
def yX7_misfitOfScript : MethodName := ⟨RX7, "misfitOfScript", "(I)I"⟩
abbrev cX7_wantedBehind : ByteArray := prog_9_method_12_code
def yX7_wantedBehind : MethodName := ⟨RX7, "wantedBehind", "(II)I"⟩
abbrev cX7_beginAct : ByteArray := prog_9_method_13_code
def yX7_beginAct : MethodName := ⟨RX7, "beginAct", "(II)I"⟩
abbrev cX7_open : ByteArray := prog_9_method_14_code
def yX7_open : MethodName := ⟨RX7, "open", "(I)I"⟩
abbrev cX7_close : ByteArray := prog_9_method_15_code
def yX7_close : MethodName := ⟨RX7, "close", "(I)I"⟩
def RX8 : String := "Caretline$Tape"
def TX8 : u_T := fun k => match k with
  | 0 => ("Caretline$Tape", "bytes", "[I", true)
  | _ => ("Caretline$Tape", "length", "I", false)
def tyX8 : Nat → FieldType := fun k => match k with
  | 0 => .array .int
  | _ => .int
theorem nmX8 : ∀ a, a < 2 → ∀ b, b < 2 → a ≠ b → (TX8 a).2.1 ≠ (TX8 b).2.1 := by decide +kernel
theorem tyX8_ok : ∀ k, k < 2 → parseFieldDescriptor (TX8 k).2.2.1 = some (tyX8 k) := by decide +kernel
abbrev cX8_init : ByteArray := prog_10_method_1_code
def yX8_init : MethodName := ⟨RX8, "<init>", "()V"⟩
abbrev cX8_bytesIn : ByteArray := prog_10_method_2_code
def yX8_bytesIn : MethodName := ⟨RX8, "bytesIn", "(I)I"⟩
abbrev cX8_take : ByteArray := prog_10_method_3_code
def yX8_take : MethodName := ⟨RX8, "take", "(I)V"⟩
def RX9 : String := "Caretline"
def TX9 : u_T := fun k => match k with
  | 0 => ("Caretline", "editor", "LCaretline$Editor;", true)
  | 1 => ("Caretline", "tape", "LCaretline$Tape;", true)
  | 2 => ("Caretline", "script", "LCaretline$Script;", true)
  | 3 => ("Caretline", "scriptStart", "I", false)
  | 4 => ("Caretline", "errorAt", "I", false)
  | 5 => ("Caretline", "ending", "I", false)
  | 6 => ("Caretline", "written", "[C", true)
  | _ => ("Caretline", "writtenLength", "I", false)
def tyX9 : Nat → FieldType := fun k => match k with
  | 0 => .object "Caretline$Editor"
  | 1 => .object "Caretline$Tape"
  | 2 => .object "Caretline$Script"
  | 3 => .int
  | 4 => .int
  | 5 => .int
  | 6 => .array .char
  | _ => .int
theorem nmX9 : ∀ a, a < 8 → ∀ b, b < 8 → a ≠ b → (TX9 a).2.1 ≠ (TX9 b).2.1 := by decide +kernel
theorem tyX9_ok : ∀ k, k < 8 → parseFieldDescriptor (TX9 k).2.2.1 = some (tyX9 k) := by decide +kernel
abbrev cX9_init : ByteArray := prog_1_method_1_code
def yX9_init : MethodName := ⟨RX9, "<init>", "()V"⟩
abbrev cX9_next : ByteArray := prog_1_method_2_code
def yX9_next : MethodName := ⟨RX9, "next", "()I"⟩
abbrev cX9_previous : ByteArray := prog_1_method_3_code
def yX9_previous : MethodName := ⟨RX9, "previous", "()I"⟩
abbrev cX9_add : ByteArray := prog_1_method_4_code
def yX9_add : MethodName := ⟨RX9, "add", "(I)I"⟩
abbrev cX9_set : ByteArray := prog_1_method_5_code
def yX9_set : MethodName := ⟨RX9, "set", "(I)I"⟩
abbrev cX9_remove : ByteArray := prog_1_method_6_code
def yX9_remove : MethodName := ⟨RX9, "remove", "()I"⟩
abbrev cX9_move : ByteArray := prog_1_method_7_code
def yX9_move : MethodName := ⟨RX9, "move", "(I)I"⟩
abbrev cX9_find : ByteArray := prog_1_method_8_code
def yX9_find : MethodName := ⟨RX9, "find", "(IZ)I"⟩
abbrev cX9_swap : ByteArray := prog_1_method_9_code
def yX9_swap : MethodName := ⟨RX9, "swap", "()I"⟩
abbrev cX9_undo : ByteArray := prog_1_method_10_code
def yX9_undo : MethodName := ⟨RX9, "undo", "()I"⟩
abbrev cX9_undoable : ByteArray := prog_1_method_11_code
def yX9_undoable : MethodName := ⟨RX9, "undoable", "()I"⟩
abbrev cX9_append : ByteArray := prog_1_method_12_code
def yX9_append : MethodName := ⟨RX9, "append", "(IIIII)I"⟩
abbrev cX9_clearTape : ByteArray := prog_1_method_13_code
def yX9_clearTape : MethodName := ⟨RX9, "clearTape", "()I"⟩
abbrev cX9_fill : ByteArray := prog_1_method_14_code
def yX9_fill : MethodName := ⟨RX9, "fill", "()I"⟩
abbrev cX9_run : ByteArray := prog_1_method_15_code
def yX9_run : MethodName := ⟨RX9, "run", "()I"⟩
abbrev cX9_errorPosition : ByteArray := prog_1_method_16_code
def yX9_errorPosition : MethodName := ⟨RX9, "errorPosition", "()I"⟩
abbrev cX9_endedBy : ByteArray := prog_1_method_17_code
def yX9_endedBy : MethodName := ⟨RX9, "endedBy", "()I"⟩
abbrev cX9_nextIndex : ByteArray := prog_1_method_18_code
def yX9_nextIndex : MethodName := ⟨RX9, "nextIndex", "()I"⟩
abbrev cX9_previousIndex : ByteArray := prog_1_method_19_code
def yX9_previousIndex : MethodName := ⟨RX9, "previousIndex", "()I"⟩
abbrev cX9_hasNext : ByteArray := prog_1_method_20_code
def yX9_hasNext : MethodName := ⟨RX9, "hasNext", "()Z"⟩
abbrev cX9_hasPrevious : ByteArray := prog_1_method_21_code
def yX9_hasPrevious : MethodName := ⟨RX9, "hasPrevious", "()Z"⟩
abbrev cX9_ahead : ByteArray := prog_1_method_22_code
def yX9_ahead : MethodName := ⟨RX9, "ahead", "(I)I"⟩
abbrev cX9_behind : ByteArray := prog_1_method_23_code
def yX9_behind : MethodName := ⟨RX9, "behind", "(I)I"⟩
abbrev cX9_given : ByteArray := prog_1_method_24_code
def yX9_given : MethodName := ⟨RX9, "given", "()I"⟩
abbrev cX9_givenBy : ByteArray := prog_1_method_25_code
def yX9_givenBy : MethodName := ⟨RX9, "givenBy", "()I"⟩
abbrev cX9_refusedNow : ByteArray := prog_1_method_26_code
def yX9_refusedNow : MethodName := ⟨RX9, "refusedNow", "()I"⟩
abbrev cX9_size : ByteArray := prog_1_method_27_code
def yX9_size : MethodName := ⟨RX9, "size", "()I"⟩
abbrev cX9_wordAt : ByteArray := prog_1_method_28_code
def yX9_wordAt : MethodName := ⟨RX9, "wordAt", "(I)I"⟩
abbrev cX9_indexOf : ByteArray := prog_1_method_29_code
def yX9_indexOf : MethodName := ⟨RX9, "indexOf", "(I)I"⟩
abbrev cX9_lastIndexOf : ByteArray := prog_1_method_30_code
def yX9_lastIndexOf : MethodName := ⟨RX9, "lastIndexOf", "(I)I"⟩
abbrev cX9_count : ByteArray := prog_1_method_31_code
def yX9_count : MethodName := ⟨RX9, "count", "(I)I"⟩
abbrev cX9_unlike : ByteArray := prog_1_method_32_code
def yX9_unlike : MethodName := ⟨RX9, "unlike", "()I"⟩
abbrev cX9_clear : ByteArray := prog_1_method_33_code
def yX9_clear : MethodName := ⟨RX9, "clear", "()I"⟩
abbrev cX9_write : ByteArray := prog_1_method_34_code
def yX9_write : MethodName := ⟨RX9, "write", "()I"⟩
abbrev cX9_writtenAt : ByteArray := prog_1_method_35_code
def yX9_writtenAt : MethodName := ⟨RX9, "writtenAt", "(I)I"⟩
abbrev cX9_refusals : ByteArray := prog_1_method_36_code
def yX9_refusals : MethodName := ⟨RX9, "refusals", "(I)I"⟩
abbrev cX9_acts : ByteArray := prog_1_method_37_code
def yX9_acts : MethodName := ⟨RX9, "acts", "()I"⟩
abbrev cX9_meanLetters : ByteArray := prog_1_method_38_code
def yX9_meanLetters : MethodName := ⟨RX9, "meanLetters", "()D"⟩
abbrev cX9_caretShare : ByteArray := prog_1_method_39_code
def yX9_caretShare : MethodName := ⟨RX9, "caretShare", "()F"⟩
abbrev cX9_agree : ByteArray := prog_1_method_40_code
def yX9_agree : MethodName := ⟨RX9, "agree", "()Z"⟩
abbrev cX9_errors : ByteArray := prog_1_method_41_code
def yX9_errors : MethodName := ⟨RX9, "errors", "()I"⟩
abbrev cX9_requireWord : ByteArray := prog_1_method_42_code
def yX9_requireWord : MethodName := ⟨RX9, "requireWord", "(I)V"⟩
abbrev cX9_isWord : ByteArray := prog_1_method_43_code
def yX9_isWord : MethodName := ⟨RX9, "isWord", "(I)Z"⟩
abbrev cX9_lettersOf : ByteArray := prog_1_method_44_code
def yX9_lettersOf : MethodName := ⟨RX9, "lettersOf", "(I)I"⟩
abbrev cX9_firstIndex : ByteArray := prog_1_method_45_code
def yX9_firstIndex : MethodName := ⟨RX9, "firstIndex", "(I)I"⟩
abbrev cX9_spell : ByteArray := prog_1_method_46_code
def yX9_spell : MethodName := ⟨RX9, "spell", "(I)V"⟩
abbrev cX9_put : ByteArray := prog_1_method_47_code
def yX9_put : MethodName := ⟨RX9, "put", "(C)V"⟩
abbrev cX9_perform : ByteArray := prog_1_method_48_code
def yX9_perform : MethodName := ⟨RX9, "perform", "(III)I"⟩
abbrev cX9_repeatTimes : ByteArray := prog_1_method_49_code
def yX9_repeatTimes : MethodName := ⟨RX9, "repeatTimes", "(II)I"⟩
abbrev cX9_repeatUntilRefused : ByteArray := prog_1_method_50_code
def yX9_repeatUntilRefused : MethodName := ⟨RX9, "repeatUntilRefused", "(II)I"⟩
abbrev cX9_attempt : ByteArray := prog_1_method_51_code
def yX9_attempt : MethodName := ⟨RX9, "attempt", "(II)I"⟩
def RX10 : String := "CaretlineModel"
def TX10 : u_T := fun k => match k with
  | 0 => ("CaretlineModel", "thrown", "I", false)
  | 1 => ("CaretlineModel", "back", "[I", true)
  | 2 => ("CaretlineModel", "front", "[I", true)
  | 3 => ("CaretlineModel", "backMany", "I", false)
  | 4 => ("CaretlineModel", "frontMany", "I", false)
  | 5 => ("CaretlineModel", "givenBy", "I", false)
  | 6 => ("CaretlineModel", "acts", "I", false)
  | 7 => ("CaretlineModel", "refusals", "[I", true)
  | 8 => ("CaretlineModel", "was", "[I", true)
  | 9 => ("CaretlineModel", "wasBehind", "[I", true)
  | 10 => ("CaretlineModel", "wasMany", "[I", true)
  | 11 => ("CaretlineModel", "kept", "I", false)
  | 12 => ("CaretlineModel", "tape", "[I", true)
  | 13 => ("CaretlineModel", "tapeMany", "I", false)
  | 14 => ("CaretlineModel", "token", "I", false)
  | 15 => ("CaretlineModel", "tokenAt", "I", false)
  | 16 => ("CaretlineModel", "value", "I", false)
  | 17 => ("CaretlineModel", "at", "I", false)
  | 18 => ("CaretlineModel", "errorAt", "I", false)
  | 19 => ("CaretlineModel", "ended", "I", false)
  | 20 => ("CaretlineModel", "read", "[I", true)
  | 21 => ("CaretlineModel", "itemKind", "[I", true)
  | 22 => ("CaretlineModel", "itemValue", "[I", true)
  | 23 => ("CaretlineModel", "itemEnd", "[I", true)
  | 24 => ("CaretlineModel", "items", "I", false)
  | 25 => ("CaretlineModel", "began", "[I", true)
  | 26 => ("CaretlineModel", "left", "[I", true)
  | 27 => ("CaretlineModel", "doneThen", "[I", true)
  | 28 => ("CaretlineModel", "text", "[I", true)
  | _ => ("CaretlineModel", "written", "I", false)
def tyX10 : Nat → FieldType := fun k => match k with
  | 0 => .int
  | 1 => .array .int
  | 2 => .array .int
  | 3 => .int
  | 4 => .int
  | 5 => .int
  | 6 => .int
  | 7 => .array .int
  | 8 => .array .int
  | 9 => .array .int
  | 10 => .array .int
  | 11 => .int
  | 12 => .array .int
  | 13 => .int
  | 14 => .int
  | 15 => .int
  | 16 => .int
  | 17 => .int
  | 18 => .int
  | 19 => .int
  | 20 => .array .int
  | 21 => .array .int
  | 22 => .array .int
  | 23 => .array .int
  | 24 => .int
  | 25 => .array .int
  | 26 => .array .int
  | 27 => .array .int
  | 28 => .array .int
  | _ => .int
theorem nmX10 : ∀ a, a < 30 → ∀ b, b < 30 → a ≠ b → (TX10 a).2.1 ≠ (TX10 b).2.1 := by decide +kernel
theorem tyX10_ok : ∀ k, k < 30 → parseFieldDescriptor (TX10 k).2.2.1 = some (tyX10 k) := by decide +kernel
abbrev cX10_thrown : ByteArray := prog_12_method_1_code
def yX10_thrown : MethodName := ⟨RX10, "thrown", "()I"⟩
abbrev cX10_in : ByteArray := prog_12_method_2_code
def yX10_in : MethodName := ⟨RX10, "in", "(III)Z"⟩
abbrev cX10_fails : ByteArray := prog_12_method_3_code
def yX10_fails : MethodName := ⟨RX10, "fails", "(ZI)Z"⟩
abbrev cX10_init : ByteArray := prog_12_method_4_code
def yX10_init : MethodName := ⟨RX10, "<init>", "()V"⟩
abbrev cX10_letters : ByteArray := prog_12_method_5_code
def yX10_letters : MethodName := ⟨RX10, "letters", "(I)I"⟩
abbrev cX10_isWord : ByteArray := prog_12_method_6_code
def yX10_isWord : MethodName := ⟨RX10, "isWord", "(I)Z"⟩
abbrev cX10_noWord : ByteArray := prog_12_method_7_code
def yX10_noWord : MethodName := ⟨RX10, "noWord", "(I)Z"⟩
abbrev cX10_refuses : ByteArray := prog_12_method_8_code
def yX10_refuses : MethodName := ⟨RX10, "refuses", "(I)I"⟩
abbrev cX10_keeps : ByteArray := prog_12_method_9_code
def yX10_keeps : MethodName := ⟨RX10, "keeps", "()V"⟩
abbrev cX10_many : ByteArray := prog_12_method_10_code
def yX10_many : MethodName := ⟨RX10, "many", "()I"⟩
abbrev cX10_wordIn : ByteArray := prog_12_method_11_code
def yX10_wordIn : MethodName := ⟨RX10, "wordIn", "(I)I"⟩
abbrev cX10_goesOn : ByteArray := prog_12_method_12_code
def yX10_goesOn : MethodName := ⟨RX10, "goesOn", "()V"⟩
abbrev cX10_goesBack : ByteArray := prog_12_method_13_code
def yX10_goesBack : MethodName := ⟨RX10, "goesBack", "()V"⟩
abbrev cX10_goesTo : ByteArray := prog_12_method_14_code
def yX10_goesTo : MethodName := ⟨RX10, "goesTo", "(I)V"⟩
abbrev cX10_passes : ByteArray := prog_12_method_15_code
def yX10_passes : MethodName := ⟨RX10, "passes", "()I"⟩
abbrev cX10_passesBack : ByteArray := prog_12_method_16_code
def yX10_passesBack : MethodName := ⟨RX10, "passesBack", "()I"⟩
abbrev cX10_adds : ByteArray := prog_12_method_17_code
def yX10_adds : MethodName := ⟨RX10, "adds", "(I)I"⟩
abbrev cX10_givenNow : ByteArray := prog_12_method_18_code
def yX10_givenNow : MethodName := ⟨RX10, "givenNow", "()I"⟩
abbrev cX10_sets : ByteArray := prog_12_method_19_code
def yX10_sets : MethodName := ⟨RX10, "sets", "(I)I"⟩
abbrev cX10_removes : ByteArray := prog_12_method_20_code
def yX10_removes : MethodName := ⟨RX10, "removes", "()I"⟩
abbrev cX10_moves : ByteArray := prog_12_method_21_code
def yX10_moves : MethodName := ⟨RX10, "moves", "(I)I"⟩
abbrev cX10_finds : ByteArray := prog_12_method_22_code
def yX10_finds : MethodName := ⟨RX10, "finds", "(IZ)I"⟩
abbrev cX10_swaps : ByteArray := prog_12_method_23_code
def yX10_swaps : MethodName := ⟨RX10, "swaps", "()I"⟩
abbrev cX10_next : ByteArray := prog_12_method_24_code
def yX10_next : MethodName := ⟨RX10, "next", "()I"⟩
abbrev cX10_previous : ByteArray := prog_12_method_25_code
def yX10_previous : MethodName := ⟨RX10, "previous", "()I"⟩
abbrev cX10_add : ByteArray := prog_12_method_26_code
def yX10_add : MethodName := ⟨RX10, "add", "(I)I"⟩
abbrev cX10_set : ByteArray := prog_12_method_27_code
def yX10_set : MethodName := ⟨RX10, "set", "(I)I"⟩
abbrev cX10_remove : ByteArray := prog_12_method_28_code
def yX10_remove : MethodName := ⟨RX10, "remove", "()I"⟩
abbrev cX10_move : ByteArray := prog_12_method_29_code
def yX10_move : MethodName := ⟨RX10, "move", "(I)I"⟩
abbrev cX10_find : ByteArray := prog_12_method_30_code
def yX10_find : MethodName := ⟨RX10, "find", "(IZ)I"⟩
abbrev cX10_swap : ByteArray := prog_12_method_31_code
def yX10_swap : MethodName := ⟨RX10, "swap", "()I"⟩
abbrev cX10_undo : ByteArray := prog_12_method_32_code
def yX10_undo : MethodName := ⟨RX10, "undo", "()I"⟩
abbrev cX10_undoable : ByteArray := prog_12_method_33_code
def yX10_undoable : MethodName := ⟨RX10, "undoable", "()I"⟩
abbrev cX10_bytesIn : ByteArray := prog_12_method_34_code
def yX10_bytesIn : MethodName := ⟨RX10, "bytesIn", "(I)I"⟩
abbrev cX10_takesBytes : ByteArray := prog_12_method_35_code
def yX10_takesBytes : MethodName := ⟨RX10, "takesBytes", "(I)V"⟩
abbrev cX10_append : ByteArray := prog_12_method_36_code
def yX10_append : MethodName := ⟨RX10, "append", "(IIIII)I"⟩
abbrev cX10_clearTape : ByteArray := prog_12_method_37_code
def yX10_clearTape : MethodName := ⟨RX10, "clearTape", "()I"⟩
abbrev cX10_isLetter : ByteArray := prog_12_method_38_code
def yX10_isLetter : MethodName := ⟨RX10, "isLetter", "(I)Z"⟩
abbrev cX10_isDigit : ByteArray := prog_12_method_39_code
def yX10_isDigit : MethodName := ⟨RX10, "isDigit", "(I)Z"⟩
abbrev cX10_isBlank : ByteArray := prog_12_method_40_code
def yX10_isBlank : MethodName := ⟨RX10, "isBlank", "(I)Z"⟩
abbrev cX10_isSign : ByteArray := prog_12_method_41_code
def yX10_isSign : MethodName := ⟨RX10, "isSign", "(I)Z"⟩
abbrev cX10_readsWord : ByteArray := prog_12_method_42_code
def yX10_readsWord : MethodName := ⟨RX10, "readsWord", "()V"⟩
abbrev cX10_readsNumber : ByteArray := prog_12_method_43_code
def yX10_readsNumber : MethodName := ⟨RX10, "readsNumber", "()V"⟩
abbrev cX10_reads : ByteArray := prog_12_method_44_code
def yX10_reads : MethodName := ⟨RX10, "reads", "()V"⟩
abbrev cX10_isSignNow : ByteArray := prog_12_method_45_code
def yX10_isSignNow : MethodName := ⟨RX10, "isSignNow", "(I)Z"⟩
abbrev cX10_fill : ByteArray := prog_12_method_46_code
def yX10_fill : MethodName := ⟨RX10, "fill", "()I"⟩
abbrev cX10_clears : ByteArray := prog_12_method_47_code
def yX10_clears : MethodName := ⟨RX10, "clears", "()V"⟩
abbrev cX10_keepsItem : ByteArray := prog_12_method_48_code
def yX10_keepsItem : MethodName := ⟨RX10, "keepsItem", "(II)V"⟩
abbrev cX10_opens : ByteArray := prog_12_method_49_code
def yX10_opens : MethodName := ⟨RX10, "opens", "(II)Z"⟩
abbrev cX10_readsItem : ByteArray := prog_12_method_50_code
def yX10_readsItem : MethodName := ⟨RX10, "readsItem", "(I)Z"⟩
abbrev cX10_readsAll : ByteArray := prog_12_method_51_code
def yX10_readsAll : MethodName := ⟨RX10, "readsAll", "()Z"⟩
abbrev cX10_does : ByteArray := prog_12_method_52_code
def yX10_does : MethodName := ⟨RX10, "does", "(II)I"⟩
abbrev cX10_runs : ByteArray := prog_12_method_53_code
def yX10_runs : MethodName := ⟨RX10, "runs", "()I"⟩
abbrev cX10_run : ByteArray := prog_12_method_54_code
def yX10_run : MethodName := ⟨RX10, "run", "()I"⟩
abbrev cX10_errorPosition : ByteArray := prog_12_method_55_code
def yX10_errorPosition : MethodName := ⟨RX10, "errorPosition", "()I"⟩
abbrev cX10_endedBy : ByteArray := prog_12_method_56_code
def yX10_endedBy : MethodName := ⟨RX10, "endedBy", "()I"⟩
abbrev cX10_nextIndex : ByteArray := prog_12_method_57_code
def yX10_nextIndex : MethodName := ⟨RX10, "nextIndex", "()I"⟩
abbrev cX10_previousIndex : ByteArray := prog_12_method_58_code
def yX10_previousIndex : MethodName := ⟨RX10, "previousIndex", "()I"⟩
abbrev cX10_hasNext : ByteArray := prog_12_method_59_code
def yX10_hasNext : MethodName := ⟨RX10, "hasNext", "()Z"⟩
abbrev cX10_hasPrevious : ByteArray := prog_12_method_60_code
def yX10_hasPrevious : MethodName := ⟨RX10, "hasPrevious", "()Z"⟩
abbrev cX10_ahead : ByteArray := prog_12_method_61_code
def yX10_ahead : MethodName := ⟨RX10, "ahead", "(I)I"⟩
abbrev cX10_behind : ByteArray := prog_12_method_62_code
def yX10_behind : MethodName := ⟨RX10, "behind", "(I)I"⟩
abbrev cX10_given : ByteArray := prog_12_method_63_code
def yX10_given : MethodName := ⟨RX10, "given", "()I"⟩
abbrev cX10_givenBy : ByteArray := prog_12_method_64_code
def yX10_givenBy : MethodName := ⟨RX10, "givenBy", "()I"⟩
abbrev cX10_refusedNow : ByteArray := prog_12_method_65_code
def yX10_refusedNow : MethodName := ⟨RX10, "refusedNow", "()I"⟩
abbrev cX10_size : ByteArray := prog_12_method_66_code
def yX10_size : MethodName := ⟨RX10, "size", "()I"⟩
abbrev cX10_wordAt : ByteArray := prog_12_method_67_code
def yX10_wordAt : MethodName := ⟨RX10, "wordAt", "(I)I"⟩
abbrev cX10_indexOf : ByteArray := prog_12_method_68_code
def yX10_indexOf : MethodName := ⟨RX10, "indexOf", "(I)I"⟩
abbrev cX10_lastIndexOf : ByteArray := prog_12_method_69_code
def yX10_lastIndexOf : MethodName := ⟨RX10, "lastIndexOf", "(I)I"⟩
abbrev cX10_count : ByteArray := prog_12_method_70_code
def yX10_count : MethodName := ⟨RX10, "count", "(I)I"⟩
abbrev cX10_unlike : ByteArray := prog_12_method_71_code
def yX10_unlike : MethodName := ⟨RX10, "unlike", "()I"⟩
abbrev cX10_clear : ByteArray := prog_12_method_72_code
def yX10_clear : MethodName := ⟨RX10, "clear", "()I"⟩
abbrev cX10_writes : ByteArray := prog_12_method_73_code
def yX10_writes : MethodName := ⟨RX10, "writes", "(I)V"⟩
abbrev cX10_writesWord : ByteArray := prog_12_method_74_code
def yX10_writesWord : MethodName := ⟨RX10, "writesWord", "(I)V"⟩
abbrev cX10_write : ByteArray := prog_12_method_75_code
def yX10_write : MethodName := ⟨RX10, "write", "()I"⟩
abbrev cX10_writtenAt : ByteArray := prog_12_method_76_code
def yX10_writtenAt : MethodName := ⟨RX10, "writtenAt", "(I)I"⟩
abbrev cX10_refusals : ByteArray := prog_12_method_77_code
def yX10_refusals : MethodName := ⟨RX10, "refusals", "(I)I"⟩
abbrev cX10_acts : ByteArray := prog_12_method_78_code
def yX10_acts : MethodName := ⟨RX10, "acts", "()I"⟩
abbrev cX10_meanLetters : ByteArray := prog_12_method_79_code
def yX10_meanLetters : MethodName := ⟨RX10, "meanLetters", "()D"⟩
abbrev cX10_caretShare : ByteArray := prog_12_method_80_code
def yX10_caretShare : MethodName := ⟨RX10, "caretShare", "()F"⟩
abbrev cX10_agree : ByteArray := prog_12_method_81_code
def yX10_agree : MethodName := ⟨RX10, "agree", "()Z"⟩
abbrev cX10_errors : ByteArray := prog_12_method_82_code
def yX10_errors : MethodName := ⟨RX10, "errors", "()I"⟩
def RJx145de : String := "java/io/Serializable"
def TJx145de : u_T := fun k => match k with
  | _ => ("", "", "", false)
def tyJx145de : Nat → FieldType := fun k => match k with
  | _ => .int
theorem nmJx145de : ∀ a, a < 0 → ∀ b, b < 0 → a ≠ b → (TJx145de a).2.1 ≠ (TJx145de b).2.1 := by decide +kernel
theorem tyJx145de_ok : ∀ k, k < 0 → parseFieldDescriptor (TJx145de k).2.2.1 = some (tyJx145de k) := by decide +kernel
def RJ5 : String := "java/lang/AbstractStringBuilder"
def TJ5 : u_T := fun k => match k with
  | _ => ("", "", "", false)
def tyJ5 : Nat → FieldType := fun k => match k with
  | _ => .int
theorem nmJ5 : ∀ a, a < 0 → ∀ b, b < 0 → a ≠ b → (TJ5 a).2.1 ≠ (TJ5 b).2.1 := by decide +kernel
theorem tyJ5_ok : ∀ k, k < 0 → parseFieldDescriptor (TJ5 k).2.2.1 = some (tyJ5 k) := by decide +kernel
abbrev cJ5_init_d00df : ByteArray := prog_14_method_2_code
def yJ5_init_d00df : MethodName := ⟨RJ5, "<init>", "(I)V"⟩
abbrev cJ5_length_8abf5 : ByteArray := prog_14_method_6_code
def yJ5_length_8abf5 : MethodName := ⟨RJ5, "length", "()I"⟩
abbrev cJ5_ensureCapacityInternal_d00df : ByteArray := prog_14_method_9_code
def yJ5_ensureCapacityInternal_d00df : MethodName := ⟨RJ5, "ensureCapacityInternal", "(I)V"⟩
abbrev cJ5_newCapacity_0f7a4 : ByteArray := prog_14_method_10_code
def yJ5_newCapacity_0f7a4 : MethodName := ⟨RJ5, "newCapacity", "(I)I"⟩
abbrev cJ5_inflate_da8c8 : ByteArray := prog_14_method_11_code
def yJ5_inflate_da8c8 : MethodName := ⟨RJ5, "inflate", "()V"⟩
abbrev cJ5_append_cf1ce : ByteArray := prog_14_method_22_code
def yJ5_append_cf1ce : MethodName := ⟨RJ5, "append", "(Ljava/lang/String;)Ljava/lang/AbstractStringBuilder;"⟩
abbrev cJ5_appendNull_278bc : ByteArray := prog_14_method_26_code
def yJ5_appendNull_278bc : MethodName := ⟨RJ5, "appendNull", "()Ljava/lang/AbstractStringBuilder;"⟩
abbrev cJ5_append_c97b9 : ByteArray := prog_14_method_32_code
def yJ5_append_c97b9 : MethodName := ⟨RJ5, "append", "(I)Ljava/lang/AbstractStringBuilder;"⟩
abbrev cJ5_getValue_6d5f1 : ByteArray := prog_14_method_64_code
def yJ5_getValue_6d5f1 : MethodName := ⟨RJ5, "getValue", "()[B"⟩
abbrev cJ5_isLatin1_aae02 : ByteArray := prog_14_method_68_code
def yJ5_isLatin1_aae02 : MethodName := ⟨RJ5, "isLatin1", "()Z"⟩
abbrev cJ5_inflateIfNeededFor_a7421 : ByteArray := prog_14_method_71_code
def yJ5_inflateIfNeededFor_a7421 : MethodName := ⟨RJ5, "inflateIfNeededFor", "(Ljava/lang/String;)V"⟩
abbrev cJ5_putStringAt_47b60 : ByteArray := prog_14_method_73_code
def yJ5_putStringAt_47b60 : MethodName := ⟨RJ5, "putStringAt", "(ILjava/lang/String;)V"⟩
def RJx2cfe8 : String := "java/lang/Appendable"
def TJx2cfe8 : u_T := fun k => match k with
  | _ => ("", "", "", false)
def tyJx2cfe8 : Nat → FieldType := fun k => match k with
  | _ => .int
theorem nmJx2cfe8 : ∀ a, a < 0 → ∀ b, b < 0 → a ≠ b → (TJx2cfe8 a).2.1 ≠ (TJx2cfe8 b).2.1 := by decide +kernel
theorem tyJx2cfe8_ok : ∀ k, k < 0 → parseFieldDescriptor (TJx2cfe8 k).2.2.1 = some (tyJx2cfe8 k) := by decide +kernel
def RJx9f9b0 : String := "java/lang/CharSequence"
def TJx9f9b0 : u_T := fun k => match k with
  | _ => ("", "", "", false)
def tyJx9f9b0 : Nat → FieldType := fun k => match k with
  | _ => .int
theorem nmJx9f9b0 : ∀ a, a < 0 → ∀ b, b < 0 → a ≠ b → (TJx9f9b0 a).2.1 ≠ (TJx9f9b0 b).2.1 := by decide +kernel
theorem tyJx9f9b0_ok : ∀ k, k < 0 → parseFieldDescriptor (TJx9f9b0 k).2.2.1 = some (tyJx9f9b0 k) := by decide +kernel
def RJx8e188 : String := "java/lang/Cloneable"
def TJx8e188 : u_T := fun k => match k with
  | _ => ("", "", "", false)
def tyJx8e188 : Nat → FieldType := fun k => match k with
  | _ => .int
theorem nmJx8e188 : ∀ a, a < 0 → ∀ b, b < 0 → a ≠ b → (TJx8e188 a).2.1 ≠ (TJx8e188 b).2.1 := by decide +kernel
theorem tyJx8e188_ok : ∀ k, k < 0 → parseFieldDescriptor (TJx8e188 k).2.2.1 = some (tyJx8e188 k) := by decide +kernel
def RJxb160c : String := "java/lang/Comparable"
def TJxb160c : u_T := fun k => match k with
  | _ => ("", "", "", false)
def tyJxb160c : Nat → FieldType := fun k => match k with
  | _ => .int
theorem nmJxb160c : ∀ a, a < 0 → ∀ b, b < 0 → a ≠ b → (TJxb160c a).2.1 ≠ (TJxb160c b).2.1 := by decide +kernel
theorem tyJxb160c_ok : ∀ k, k < 0 → parseFieldDescriptor (TJxb160c k).2.2.1 = some (tyJxb160c k) := by decide +kernel
def RJxabbfe : String := "java/lang/Integer$IntegerCache"
def TJxabbfe : u_T := fun k => match k with
  | _ => ("", "", "", false)
def tyJxabbfe : Nat → FieldType := fun k => match k with
  | _ => .int
theorem nmJxabbfe : ∀ a, a < 0 → ∀ b, b < 0 → a ≠ b → (TJxabbfe a).2.1 ≠ (TJxabbfe b).2.1 := by decide +kernel
theorem tyJxabbfe_ok : ∀ k, k < 0 → parseFieldDescriptor (TJxabbfe k).2.2.1 = some (tyJxabbfe k) := by decide +kernel
def RJ6 : String := "java/lang/Integer"
def TJ6 : u_T := fun k => match k with
  | _ => ("java/lang/Integer", "value", "I", true)
def tyJ6 : Nat → FieldType := fun k => match k with
  | _ => .int
theorem nmJ6 : ∀ a, a < 1 → ∀ b, b < 1 → a ≠ b → (TJ6 a).2.1 ≠ (TJ6 b).2.1 := by decide +kernel
theorem tyJ6_ok : ∀ k, k < 1 → parseFieldDescriptor (TJ6 k).2.2.1 = some (tyJ6 k) := by decide +kernel
abbrev cJ6_getChars_ba4f3 : ByteArray := prog_23_method_12_code
def yJ6_getChars_ba4f3 : MethodName := ⟨RJ6, "getChars", "(II[B)I"⟩
abbrev cJ6_stringSize_0f7a4 : ByteArray := prog_23_method_13_code
def yJ6_stringSize_0f7a4 : MethodName := ⟨RJ6, "stringSize", "(I)I"⟩
abbrev cJ6_valueOf_2dffe : ByteArray := prog_23_method_22_code
def yJ6_valueOf_2dffe : MethodName := ⟨RJ6, "valueOf", "(I)Ljava/lang/Integer;"⟩
abbrev cJ6_init_d00df : ByteArray := prog_23_method_23_code
def yJ6_init_d00df : MethodName := ⟨RJ6, "<init>", "(I)V"⟩
abbrev cJ6_intValue_8abf5 : ByteArray := prog_23_method_27_code
def yJ6_intValue_8abf5 : MethodName := ⟨RJ6, "intValue", "()I"⟩
def RJxab1ab : String := "java/lang/Iterable"
def TJxab1ab : u_T := fun k => match k with
  | _ => ("", "", "", false)
def tyJxab1ab : Nat → FieldType := fun k => match k with
  | _ => .int
theorem nmJxab1ab : ∀ a, a < 0 → ∀ b, b < 0 → a ≠ b → (TJxab1ab a).2.1 ≠ (TJxab1ab b).2.1 := by decide +kernel
theorem tyJxab1ab_ok : ∀ k, k < 0 → parseFieldDescriptor (TJxab1ab k).2.2.1 = some (tyJxab1ab k) := by decide +kernel
def RJ9 : String := "java/lang/Math"
def TJ9 : u_T := fun k => match k with
  | _ => ("", "", "", false)
def tyJ9 : Nat → FieldType := fun k => match k with
  | _ => .int
theorem nmJ9 : ∀ a, a < 0 → ∀ b, b < 0 → a ≠ b → (TJ9 a).2.1 ≠ (TJ9 b).2.1 := by decide +kernel
theorem tyJ9_ok : ∀ k, k < 0 → parseFieldDescriptor (TJ9 k).2.2.1 = some (tyJ9 k) := by decide +kernel
abbrev cJ9_max_7cf53 : ByteArray := prog_26_method_65_code
def yJ9_max_7cf53 : MethodName := ⟨RJ9, "max", "(II)I"⟩
abbrev cJ9_min_7cf53 : ByteArray := prog_26_method_69_code
def yJ9_min_7cf53 : MethodName := ⟨RJ9, "min", "(II)I"⟩
def RJxd2413 : String := "java/lang/Number"
def TJxd2413 : u_T := fun k => match k with
  | _ => ("", "", "", false)
def tyJxd2413 : Nat → FieldType := fun k => match k with
  | _ => .int
theorem nmJxd2413 : ∀ a, a < 0 → ∀ b, b < 0 → a ≠ b → (TJxd2413 a).2.1 ≠ (TJxd2413 b).2.1 := by decide +kernel
theorem tyJxd2413_ok : ∀ k, k < 0 → parseFieldDescriptor (TJxd2413 k).2.2.1 = some (tyJxd2413 k) := by decide +kernel
abbrev cJxd2413_init_da8c8 : ByteArray := prog_27_method_1_code
def yJxd2413_init_da8c8 : MethodName := ⟨RJxd2413, "<init>", "()V"⟩
def RJ0 : String := "java/lang/String"
def TJ0 : u_T := fun k => match k with
  | 0 => ("java/lang/String", "value", "[B", true)
  | 1 => ("java/lang/String", "coder", "B", true)
  | 2 => ("java/lang/String", "hash", "I", false)
  | _ => ("java/lang/String", "hashIsZero", "Z", false)
def tyJ0 : Nat → FieldType := fun k => match k with
  | 0 => .array .byte
  | 1 => .byte
  | 2 => .int
  | _ => .boolean
theorem nmJ0 : ∀ a, a < 4 → ∀ b, b < 4 → a ≠ b → (TJ0 a).2.1 ≠ (TJ0 b).2.1 := by decide +kernel
theorem tyJ0_ok : ∀ k, k < 4 → parseFieldDescriptor (TJ0 k).2.2.1 = some (tyJ0 k) := by decide +kernel
abbrev cJ0_init_81219 : ByteArray := prog_29_method_53_code
def yJ0_init_81219 : MethodName := ⟨RJ0, "<init>", "(Ljava/lang/StringBuilder;)V"⟩
abbrev cJ0_length_8abf5 : ByteArray := prog_29_method_54_code
def yJ0_length_8abf5 : MethodName := ⟨RJ0, "length", "()I"⟩
abbrev cJ0_getBytes_840e7 : ByteArray := prog_29_method_147_code
def yJ0_getBytes_840e7 : MethodName := ⟨RJ0, "getBytes", "([BIB)V"⟩
abbrev cJ0_init_db425 : ByteArray := prog_29_method_150_code
def yJ0_init_db425 : MethodName := ⟨RJ0, "<init>", "(Ljava/lang/AbstractStringBuilder;Ljava/lang/Void;)V"⟩
abbrev cJ0_coder_7d493 : ByteArray := prog_29_method_152_code
def yJ0_coder_7d493 : MethodName := ⟨RJ0, "coder", "()B"⟩
abbrev cJ0_checkBoundsOffCount_cabcc : ByteArray := prog_29_method_157_code
def yJ0_checkBoundsOffCount_cabcc : MethodName := ⟨RJ0, "checkBoundsOffCount", "(III)I"⟩
abbrev cJ0_checkBoundsBeginEnd_23922 : ByteArray := prog_29_method_158_code
def yJ0_checkBoundsBeginEnd_23922 : MethodName := ⟨RJ0, "checkBoundsBeginEnd", "(III)V"⟩
def RJ4 : String := "java/lang/StringBuilder"
def TJ4 : u_T := fun k => match k with
  | 0 => ("java/lang/AbstractStringBuilder", "value", "[B", false)
  | 1 => ("java/lang/AbstractStringBuilder", "coder", "B", false)
  | 2 => ("java/lang/AbstractStringBuilder", "maybeLatin1", "Z", false)
  | _ => ("java/lang/AbstractStringBuilder", "count", "I", false)
def tyJ4 : Nat → FieldType := fun k => match k with
  | 0 => .array .byte
  | 1 => .byte
  | 2 => .boolean
  | _ => .int
theorem nmJ4 : ∀ a, a < 4 → ∀ b, b < 4 → a ≠ b → (TJ4 a).2.1 ≠ (TJ4 b).2.1 := by decide +kernel
theorem tyJ4_ok : ∀ k, k < 4 → parseFieldDescriptor (TJ4 k).2.2.1 = some (tyJ4 k) := by decide +kernel
abbrev cJ4_init_da8c8 : ByteArray := prog_30_method_1_code
def yJ4_init_da8c8 : MethodName := ⟨RJ4, "<init>", "()V"⟩
abbrev cJ4_append_15ec4 : ByteArray := prog_30_method_7_code
def yJ4_append_15ec4 : MethodName := ⟨RJ4, "append", "(Ljava/lang/String;)Ljava/lang/StringBuilder;"⟩
abbrev cJ4_append_bf812 : ByteArray := prog_30_method_15_code
def yJ4_append_bf812 : MethodName := ⟨RJ4, "append", "(I)Ljava/lang/StringBuilder;"⟩
abbrev cJ4_toString_0e30d : ByteArray := prog_30_method_42_code
def yJ4_toString_0e30d : MethodName := ⟨RJ4, "toString", "()Ljava/lang/String;"⟩
abbrev cJ4_length_8abf5 : ByteArray := prog_30_method_93_code
def yJ4_length_8abf5 : MethodName := ⟨RJ4, "length", "()I"⟩
def RJ1 : String := "java/lang/StringLatin1"
def TJ1 : u_T := fun k => match k with
  | _ => ("", "", "", false)
def tyJ1 : Nat → FieldType := fun k => match k with
  | _ => .int
theorem nmJ1 : ∀ a, a < 0 → ∀ b, b < 0 → a ≠ b → (TJ1 a).2.1 ≠ (TJ1 b).2.1 := by decide +kernel
theorem tyJ1_ok : ∀ k, k < 0 → parseFieldDescriptor (TJ1 k).2.2.1 = some (tyJ1 k) := by decide +kernel
abbrev cJ1_inflate_0e8fd : ByteArray := prog_31_method_50_code
def yJ1_inflate_0e8fd : MethodName := ⟨RJ1, "inflate", "([BI[BII)V"⟩
def RJ2 : String := "java/lang/StringUTF16"
def TJ2 : u_T := fun k => match k with
  | _ => ("", "", "", false)
def tyJ2 : Nat → FieldType := fun k => match k with
  | _ => .int
theorem nmJ2 : ∀ a, a < 0 → ∀ b, b < 0 → a ≠ b → (TJ2 a).2.1 ≠ (TJ2 b).2.1 := by decide +kernel
theorem tyJ2_ok : ∀ k, k < 0 → parseFieldDescriptor (TJ2 k).2.2.1 = some (tyJ2 k) := by decide +kernel
abbrev cJ2_newBytesFor_77867 : ByteArray := prog_32_method_2_code
def yJ2_newBytesFor_77867 : MethodName := ⟨RJ2, "newBytesFor", "(I)[B"⟩
abbrev cJ2_newBytesLength_0f7a4 : ByteArray := prog_32_method_3_code
def yJ2_newBytesLength_0f7a4 : MethodName := ⟨RJ2, "newBytesLength", "(I)I"⟩
abbrev cJ2_putChar_b72d1 : ByteArray := prog_32_method_4_code
def yJ2_putChar_b72d1 : MethodName := ⟨RJ2, "putChar", "([BII)V"⟩
abbrev cJ2_getChar_3b067 : ByteArray := prog_32_method_5_code
def yJ2_getChar_3b067 : MethodName := ⟨RJ2, "getChar", "([BI)C"⟩
abbrev cJ2_length_9d52b : ByteArray := prog_32_method_6_code
def yJ2_length_9d52b : MethodName := ⟨RJ2, "length", "([B)I"⟩
abbrev cJ2_coderFromArrayLen_85cad : ByteArray := prog_32_method_15_code
def yJ2_coderFromArrayLen_85cad : MethodName := ⟨RJ2, "coderFromArrayLen", "([BI)B"⟩
abbrev cJ2_compress_39247 : ByteArray := prog_32_method_17_code
def yJ2_compress_39247 : MethodName := ⟨RJ2, "compress", "([BII)[B"⟩
abbrev cJ2_compress_5af95 : ByteArray := prog_32_method_22_code
def yJ2_compress_5af95 : MethodName := ⟨RJ2, "compress", "([BI[BII)I"⟩
abbrev cJ2_getChars_46870 : ByteArray := prog_32_method_77_code
def yJ2_getChars_46870 : MethodName := ⟨RJ2, "getChars", "(III[B)I"⟩
abbrev cJ2_putCharsAt_cd4e5 : ByteArray := prog_32_method_81_code
def yJ2_putCharsAt_cd4e5 : MethodName := ⟨RJ2, "putCharsAt", "([BICCCC)I"⟩
abbrev cJ2_inflate_0e8fd : ByteArray := prog_32_method_86_code
def yJ2_inflate_0e8fd : MethodName := ⟨RJ2, "inflate", "([BI[BII)V"⟩
abbrev cJ2_getChars_ba4f3 : ByteArray := prog_32_method_89_code
def yJ2_getChars_ba4f3 : MethodName := ⟨RJ2, "getChars", "(II[B)I"⟩
abbrev cJ2_checkBoundsBeginEnd_d044e : ByteArray := prog_32_method_93_code
def yJ2_checkBoundsBeginEnd_d044e : MethodName := ⟨RJ2, "checkBoundsBeginEnd", "(II[B)V"⟩
abbrev cJ2_checkBoundsOffCount_d044e : ByteArray := prog_32_method_94_code
def yJ2_checkBoundsOffCount_d044e : MethodName := ⟨RJ2, "checkBoundsOffCount", "(II[B)V"⟩
def RJ10 : String := "java/lang/System"
def TJ10 : u_T := fun k => match k with
  | _ => ("", "", "", false)
def tyJ10 : Nat → FieldType := fun k => match k with
  | _ => .int
theorem nmJ10 : ∀ a, a < 0 → ∀ b, b < 0 → a ≠ b → (TJ10 a).2.1 ≠ (TJ10 b).2.1 := by decide +kernel
theorem tyJ10_ok : ∀ k, k < 0 → parseFieldDescriptor (TJ10 k).2.2.1 = some (tyJ10 k) := by decide +kernel
def RJxfd54e : String := "java/lang/constant/Constable"
def TJxfd54e : u_T := fun k => match k with
  | _ => ("", "", "", false)
def tyJxfd54e : Nat → FieldType := fun k => match k with
  | _ => .int
theorem nmJxfd54e : ∀ a, a < 0 → ∀ b, b < 0 → a ≠ b → (TJxfd54e a).2.1 ≠ (TJxfd54e b).2.1 := by decide +kernel
theorem tyJxfd54e_ok : ∀ k, k < 0 → parseFieldDescriptor (TJxfd54e k).2.2.1 = some (tyJxfd54e k) := by decide +kernel
def RJx3cf43 : String := "java/lang/constant/ConstantDesc"
def TJx3cf43 : u_T := fun k => match k with
  | _ => ("", "", "", false)
def tyJx3cf43 : Nat → FieldType := fun k => match k with
  | _ => .int
theorem nmJx3cf43 : ∀ a, a < 0 → ∀ b, b < 0 → a ≠ b → (TJx3cf43 a).2.1 ≠ (TJx3cf43 b).2.1 := by decide +kernel
theorem tyJx3cf43_ok : ∀ k, k < 0 → parseFieldDescriptor (TJx3cf43 k).2.2.1 = some (tyJx3cf43 k) := by decide +kernel
def RJxa1e45 : String := "java/util/AbstractCollection"
def TJxa1e45 : u_T := fun k => match k with
  | _ => ("", "", "", false)
def tyJxa1e45 : Nat → FieldType := fun k => match k with
  | _ => .int
theorem nmJxa1e45 : ∀ a, a < 0 → ∀ b, b < 0 → a ≠ b → (TJxa1e45 a).2.1 ≠ (TJxa1e45 b).2.1 := by decide +kernel
theorem tyJxa1e45_ok : ∀ k, k < 0 → parseFieldDescriptor (TJxa1e45 k).2.2.1 = some (tyJxa1e45 k) := by decide +kernel
abbrev cJxa1e45_init_da8c8 : ByteArray := prog_37_method_1_code
def yJxa1e45_init_da8c8 : MethodName := ⟨RJxa1e45, "<init>", "()V"⟩
def RJxc12de : String := "java/util/AbstractList"
def TJxc12de : u_T := fun k => match k with
  | _ => ("", "", "", false)
def tyJxc12de : Nat → FieldType := fun k => match k with
  | _ => .int
theorem nmJxc12de : ∀ a, a < 0 → ∀ b, b < 0 → a ≠ b → (TJxc12de a).2.1 ≠ (TJxc12de b).2.1 := by decide +kernel
theorem tyJxc12de_ok : ∀ k, k < 0 → parseFieldDescriptor (TJxc12de k).2.2.1 = some (tyJxc12de k) := by decide +kernel
abbrev cJxc12de_init_da8c8 : ByteArray := prog_38_method_1_code
def yJxc12de_init_da8c8 : MethodName := ⟨RJxc12de, "<init>", "()V"⟩
def RJx4a65c : String := "java/util/ArrayList"
def TJx4a65c : u_T := fun k => match k with
  | 0 => ("java/util/AbstractList", "modCount", "I", false)
  | 1 => ("java/util/ArrayList", "elementData", "[Ljava/lang/Object;", false)
  | _ => ("java/util/ArrayList", "size", "I", false)
def tyJx4a65c : Nat → FieldType := fun k => match k with
  | 0 => .int
  | 1 => .array (.object "java/lang/Object")
  | _ => .int
theorem nmJx4a65c : ∀ a, a < 3 → ∀ b, b < 3 → a ≠ b → (TJx4a65c a).2.1 ≠ (TJx4a65c b).2.1 := by decide +kernel
theorem tyJx4a65c_ok : ∀ k, k < 3 → parseFieldDescriptor (TJx4a65c k).2.2.1 = some (tyJx4a65c k) := by decide +kernel
abbrev cJx4a65c_init_da8c8 : ByteArray := prog_39_method_2_code
def yJx4a65c_init_da8c8 : MethodName := ⟨RJx4a65c, "<init>", "()V"⟩
abbrev cJx4a65c_grow_92f84 : ByteArray := prog_39_method_6_code
def yJx4a65c_grow_92f84 : MethodName := ⟨RJx4a65c, "grow", "(I)[Ljava/lang/Object;"⟩
abbrev cJx4a65c_grow_d5877 : ByteArray := prog_39_method_7_code
def yJx4a65c_grow_d5877 : MethodName := ⟨RJx4a65c, "grow", "()[Ljava/lang/Object;"⟩
abbrev cJx4a65c_size_8abf5 : ByteArray := prog_39_method_8_code
def yJx4a65c_size_8abf5 : MethodName := ⟨RJx4a65c, "size", "()I"⟩
abbrev cJx4a65c_elementData_915e3 : ByteArray := prog_39_method_18_code
def yJx4a65c_elementData_915e3 : MethodName := ⟨RJx4a65c, "elementData", "(I)Ljava/lang/Object;"⟩
abbrev cJx4a65c_get_915e3 : ByteArray := prog_39_method_20_code
def yJx4a65c_get_915e3 : MethodName := ⟨RJx4a65c, "get", "(I)Ljava/lang/Object;"⟩
abbrev cJx4a65c_set_bcc79 : ByteArray := prog_39_method_23_code
def yJx4a65c_set_bcc79 : MethodName := ⟨RJx4a65c, "set", "(ILjava/lang/Object;)Ljava/lang/Object;"⟩
abbrev cJx4a65c_add_7a177 : ByteArray := prog_39_method_26_code
def yJx4a65c_add_7a177 : MethodName := ⟨RJx4a65c, "add", "(ILjava/lang/Object;)V"⟩
abbrev cJx4a65c_remove_915e3 : ByteArray := prog_39_method_29_code
def yJx4a65c_remove_915e3 : MethodName := ⟨RJx4a65c, "remove", "(I)Ljava/lang/Object;"⟩
abbrev cJx4a65c_fastRemove_b59b0 : ByteArray := prog_39_method_39_code
def yJx4a65c_fastRemove_b59b0 : MethodName := ⟨RJx4a65c, "fastRemove", "([Ljava/lang/Object;I)V"⟩
abbrev cJx4a65c_clear_da8c8 : ByteArray := prog_39_method_40_code
def yJx4a65c_clear_da8c8 : MethodName := ⟨RJx4a65c, "clear", "()V"⟩
abbrev cJx4a65c_rangeCheckForAdd_d00df : ByteArray := prog_39_method_45_code
def yJx4a65c_rangeCheckForAdd_d00df : MethodName := ⟨RJx4a65c, "rangeCheckForAdd", "(I)V"⟩
abbrev cJx4a65c_outOfBoundsMsg_b52d3 : ByteArray := prog_39_method_46_code
def yJx4a65c_outOfBoundsMsg_b52d3 : MethodName := ⟨RJx4a65c, "outOfBoundsMsg", "(I)Ljava/lang/String;"⟩
def RJ7 : String := "java/util/Arrays"
def TJ7 : u_T := fun k => match k with
  | _ => ("", "", "", false)
def tyJ7 : Nat → FieldType := fun k => match k with
  | _ => .int
theorem nmJ7 : ∀ a, a < 0 → ∀ b, b < 0 → a ≠ b → (TJ7 a).2.1 ≠ (TJ7 b).2.1 := by decide +kernel
theorem tyJ7_ok : ∀ k, k < 0 → parseFieldDescriptor (TJ7 k).2.2.1 = some (tyJ7 k) := by decide +kernel
abbrev cJ7_copyOf_1904c : ByteArray := prog_40_method_119_code
def yJ7_copyOf_1904c : MethodName := ⟨RJ7, "copyOf", "([Ljava/lang/Object;I)[Ljava/lang/Object;"⟩
abbrev cJ7_copyOf_6403c : ByteArray := prog_40_method_120_code
def yJ7_copyOf_6403c : MethodName := ⟨RJ7, "copyOf", "([Ljava/lang/Object;ILjava/lang/Class;)[Ljava/lang/Object;"⟩
abbrev cJ7_copyOf_9075b : ByteArray := prog_40_method_121_code
def yJ7_copyOf_9075b : MethodName := ⟨RJ7, "copyOf", "([BI)[B"⟩
abbrev cJ7_checkLength_df160 : ByteArray := prog_40_method_131_code
def yJ7_checkLength_df160 : MethodName := ⟨RJ7, "checkLength", "(II)V"⟩
abbrev cJ7_copyOfRange_39247 : ByteArray := prog_40_method_132_code
def yJ7_copyOfRange_39247 : MethodName := ⟨RJ7, "copyOfRange", "([BII)[B"⟩
abbrev cJ7_copyOfRangeByte_39247 : ByteArray := prog_40_method_133_code
def yJ7_copyOfRangeByte_39247 : MethodName := ⟨RJ7, "copyOfRangeByte", "([BII)[B"⟩
def RJx5ef63 : String := "java/util/Collection"
def TJx5ef63 : u_T := fun k => match k with
  | _ => ("", "", "", false)
def tyJx5ef63 : Nat → FieldType := fun k => match k with
  | _ => .int
theorem nmJx5ef63 : ∀ a, a < 0 → ∀ b, b < 0 → a ≠ b → (TJx5ef63 a).2.1 ≠ (TJx5ef63 b).2.1 := by decide +kernel
theorem tyJx5ef63_ok : ∀ k, k < 0 → parseFieldDescriptor (TJx5ef63 k).2.2.1 = some (tyJx5ef63 k) := by decide +kernel
def RJxbd725 : String := "java/util/List"
def TJxbd725 : u_T := fun k => match k with
  | _ => ("", "", "", false)
def tyJxbd725 : Nat → FieldType := fun k => match k with
  | _ => .int
theorem nmJxbd725 : ∀ a, a < 0 → ∀ b, b < 0 → a ≠ b → (TJxbd725 a).2.1 ≠ (TJxbd725 b).2.1 := by decide +kernel
theorem tyJxbd725_ok : ∀ k, k < 0 → parseFieldDescriptor (TJxbd725 k).2.2.1 = some (tyJxbd725 k) := by decide +kernel
def RJ15 : String := "java/util/Objects"
def TJ15 : u_T := fun k => match k with
  | _ => ("", "", "", false)
def tyJ15 : Nat → FieldType := fun k => match k with
  | _ => .int
theorem nmJ15 : ∀ a, a < 0 → ∀ b, b < 0 → a ≠ b → (TJ15 a).2.1 ≠ (TJ15 b).2.1 := by decide +kernel
theorem tyJ15_ok : ∀ k, k < 0 → parseFieldDescriptor (TJ15 k).2.2.1 = some (tyJ15 k) := by decide +kernel
abbrev cJ15_checkIndex_7cf53 : ByteArray := prog_43_method_17_code
def yJ15_checkIndex_7cf53 : MethodName := ⟨RJ15, "checkIndex", "(II)I"⟩
def RJxf0a74 : String := "java/util/RandomAccess"
def TJxf0a74 : u_T := fun k => match k with
  | _ => ("", "", "", false)
def tyJxf0a74 : Nat → FieldType := fun k => match k with
  | _ => .int
theorem nmJxf0a74 : ∀ a, a < 0 → ∀ b, b < 0 → a ≠ b → (TJxf0a74 a).2.1 ≠ (TJxf0a74 b).2.1 := by decide +kernel
theorem tyJxf0a74_ok : ∀ k, k < 0 → parseFieldDescriptor (TJxf0a74 k).2.2.1 = some (tyJxf0a74 k) := by decide +kernel
def RJxa66e6 : String := "java/util/SequencedCollection"
def TJxa66e6 : u_T := fun k => match k with
  | _ => ("", "", "", false)
def tyJxa66e6 : Nat → FieldType := fun k => match k with
  | _ => .int
theorem nmJxa66e6 : ∀ a, a < 0 → ∀ b, b < 0 → a ≠ b → (TJxa66e6 a).2.1 ≠ (TJxa66e6 b).2.1 := by decide +kernel
theorem tyJxa66e6_ok : ∀ k, k < 0 → parseFieldDescriptor (TJxa66e6 k).2.2.1 = some (tyJxa66e6 k) := by decide +kernel
def RJ8 : String := "jdk/internal/util/ArraysSupport"
def TJ8 : u_T := fun k => match k with
  | _ => ("", "", "", false)
def tyJ8 : Nat → FieldType := fun k => match k with
  | _ => .int
theorem nmJ8 : ∀ a, a < 0 → ∀ b, b < 0 → a ≠ b → (TJ8 a).2.1 ≠ (TJ8 b).2.1 := by decide +kernel
theorem tyJ8_ok : ∀ k, k < 0 → parseFieldDescriptor (TJ8 k).2.2.1 = some (tyJ8 k) := by decide +kernel
abbrev cJ8_newLength_cabcc : ByteArray := prog_46_method_27_code
def yJ8_newLength_cabcc : MethodName := ⟨RJ8, "newLength", "(III)I"⟩
abbrev cJ8_hugeLength_7cf53 : ByteArray := prog_46_method_28_code
def yJ8_hugeLength_7cf53 : MethodName := ⟨RJ8, "hugeLength", "(II)I"⟩
def RJ3 : String := "jdk/internal/util/Preconditions"
def TJ3 : u_T := fun k => match k with
  | _ => ("", "", "", false)
def tyJ3 : Nat → FieldType := fun k => match k with
  | _ => .int
theorem nmJ3 : ∀ a, a < 0 → ∀ b, b < 0 → a ≠ b → (TJ3 a).2.1 ≠ (TJ3 b).2.1 := by decide +kernel
theorem tyJ3_ok : ∀ k, k < 0 → parseFieldDescriptor (TJ3 k).2.2.1 = some (tyJ3 k) := by decide +kernel
abbrev cJ3_checkIndex_8e157 : ByteArray := prog_47_method_11_code
def yJ3_checkIndex_8e157 : MethodName := ⟨RJ3, "checkIndex", "(IILjava/util/function/BiFunction;)I"⟩
abbrev cJ3_checkFromToIndex_8c36e : ByteArray := prog_47_method_12_code
def yJ3_checkFromToIndex_8c36e : MethodName := ⟨RJ3, "checkFromToIndex", "(IIILjava/util/function/BiFunction;)I"⟩
abbrev cJ3_checkFromIndexSize_8c36e : ByteArray := prog_47_method_13_code
def yJ3_checkFromIndexSize_8c36e : MethodName := ⟨RJ3, "checkFromIndexSize", "(IIILjava/util/function/BiFunction;)I"⟩
def RL : String := "CaretlineLaw"
abbrev cL_add : ByteArray := method_3_code
def yL_add : MethodName := ⟨RL, "add", "(LCaretline;I[J)I"⟩
abbrev cL_set : ByteArray := method_4_code
def yL_set : MethodName := ⟨RL, "set", "(LCaretline;I[J)I"⟩
abbrev cL_find : ByteArray := method_5_code
def yL_find : MethodName := ⟨RL, "find", "(LCaretline;IZ[J)I"⟩
abbrev cL_append : ByteArray := method_6_code
def yL_append : MethodName := ⟨RL, "append", "(LCaretline;IIIII[J)I"⟩
abbrev cL_fill : ByteArray := method_7_code
def yL_fill : MethodName := ⟨RL, "fill", "(LCaretline;[J)I"⟩
abbrev cL_run : ByteArray := method_8_code
def yL_run : MethodName := ⟨RL, "run", "(LCaretline;[J)I"⟩
abbrev cL_wordAt : ByteArray := method_9_code
def yL_wordAt : MethodName := ⟨RL, "wordAt", "(LCaretline;I[J)I"⟩
abbrev cL_indexOf : ByteArray := method_10_code
def yL_indexOf : MethodName := ⟨RL, "indexOf", "(LCaretline;I[J)I"⟩
abbrev cL_lastIndexOf : ByteArray := method_11_code
def yL_lastIndexOf : MethodName := ⟨RL, "lastIndexOf", "(LCaretline;I[J)I"⟩
abbrev cL_count : ByteArray := method_12_code
def yL_count : MethodName := ⟨RL, "count", "(LCaretline;I[J)I"⟩
abbrev cL_writtenAt : ByteArray := method_13_code
def yL_writtenAt : MethodName := ⟨RL, "writtenAt", "(LCaretline;I[J)I"⟩
abbrev cL_refusals : ByteArray := method_14_code
def yL_refusals : MethodName := ⟨RL, "refusals", "(LCaretline;I[J)I"⟩
abbrev cL_law : ByteArray := code
def yL_law : MethodName := ⟨RL, "law", "([I)Z"⟩
abbrev vwCl : List vw_C := [(RJ0, TJ0, 4), (RJ4, TJ4, 4), (RJ6, TJ6, 1), (RJx4a65c, TJx4a65c, 3), (RX0, TX0, 5), (RX1, TX1, 5), (RX2, TX2, 4), (RX3, TX3, 4), (RX4, TX4, 2), (RX5, TX5, 3), (RX6, TX6, 2), (RX7, TX7, 7), (RX8, TX8, 2), (RX9, TX9, 8), (RX10, TX10, 30)]
