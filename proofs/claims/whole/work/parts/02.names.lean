def RX0 : String := "NineWells$Belows"
def TX0 : u_T := fun k => match k with
  | 0 => ("NineWells$Belows", "tried", "LNineWells$Wells;", true)
  | 1 => ("NineWells$Belows", "places", "[I", true)
  | 2 => ("NineWells$Belows", "howMany", "I", false)
  | 3 => ("NineWells$Belows", "first", "I", false)
  | _ => ("NineWells$Belows", "ledTo", "I", false)
def tyX0 : Nat → FieldType := fun k => match k with
  | 0 => .object "NineWells$Wells"
  | 1 => .array .int
  | 2 => .int
  | 3 => .int
  | _ => .int
theorem nmX0 : ∀ a, a < 5 → ∀ b, b < 5 → a ≠ b → (TX0 a).2.1 ≠ (TX0 b).2.1 := by decide +kernel
theorem tyX0_ok : ∀ k, k < 5 → parseFieldDescriptor (TX0 k).2.2.1 = some (tyX0 k) := by decide +kernel
def RX1 : String := "NineWells$Desk"
def TX1 : u_T := fun k => match k with
  | 0 => ("NineWells$Desk", "finds", "LNineWells$Finds;", true)
  | 1 => ("NineWells$Desk", "slows", "LNineWells$Text;", true)
  | 2 => ("NineWells$Desk", "takes", "LNineWells$Text;", true)
  | 3 => ("NineWells$Desk", "tape", "LNineWells$Row;", true)
  | 4 => ("NineWells$Desk", "waiting", "LNineWells$Row;", true)
  | _ => ("NineWells$Desk", "z", "I", false)
def tyX1 : Nat → FieldType := fun k => match k with
  | 0 => .object "NineWells$Finds"
  | 1 => .object "NineWells$Text"
  | 2 => .object "NineWells$Text"
  | 3 => .object "NineWells$Row"
  | 4 => .object "NineWells$Row"
  | _ => .int
theorem nmX1 : ∀ a, a < 6 → ∀ b, b < 6 → a ≠ b → (TX1 a).2.1 ≠ (TX1 b).2.1 := by decide +kernel
theorem tyX1_ok : ∀ k, k < 6 → parseFieldDescriptor (TX1 k).2.2.1 = some (tyX1 k) := by decide +kernel
def RX2 : String := "NineWells$Finds"
def TX2 : u_T := fun k => match k with
  | 0 => ("NineWells$Finds", "from", "[I", true)
  | 1 => ("NineWells$Finds", "in", "[I", true)
  | 2 => ("NineWells$Finds", "day", "[I", true)
  | _ => ("NineWells$Finds", "count", "I", false)
def tyX2 : Nat → FieldType := fun k => match k with
  | 0 => .array .int
  | 1 => .array .int
  | 2 => .array .int
  | _ => .int
theorem nmX2 : ∀ a, a < 4 → ∀ b, b < 4 → a ≠ b → (TX2 a).2.1 ≠ (TX2 b).2.1 := by decide +kernel
theorem tyX2_ok : ∀ k, k < 4 → parseFieldDescriptor (TX2 k).2.2.1 = some (tyX2 k) := by decide +kernel
def RX3 : String := "NineWells$Reader"
def TX3 : u_T := fun k => match k with
  | 0 => ("NineWells$Reader", "draft", "LNineWells$Text;", true)
  | 1 => ("NineWells$Reader", "tape", "LNineWells$Row;", true)
  | 2 => ("NineWells$Reader", "use", "I", false)
  | _ => ("NineWells$Reader", "at", "I", false)
def tyX3 : Nat → FieldType := fun k => match k with
  | 0 => .object "NineWells$Text"
  | 1 => .object "NineWells$Row"
  | 2 => .int
  | _ => .int
theorem nmX3 : ∀ a, a < 4 → ∀ b, b < 4 → a ≠ b → (TX3 a).2.1 ≠ (TX3 b).2.1 := by decide +kernel
theorem tyX3_ok : ∀ k, k < 4 → parseFieldDescriptor (TX3 k).2.2.1 = some (tyX3 k) := by decide +kernel
def RX4 : String := "NineWells$Row"
def TX4 : u_T := fun k => match k with
  | 0 => ("NineWells$Row", "numbers", "[I", true)
  | _ => ("NineWells$Row", "count", "I", false)
def tyX4 : Nat → FieldType := fun k => match k with
  | 0 => .array .int
  | _ => .int
theorem nmX4 : ∀ a, a < 2 → ∀ b, b < 2 → a ≠ b → (TX4 a).2.1 ≠ (TX4 b).2.1 := by decide +kernel
theorem tyX4_ok : ∀ k, k < 2 → parseFieldDescriptor (TX4 k).2.2.1 = some (tyX4 k) := by decide +kernel
def RX5 : String := "NineWells$Sheet"
def TX5 : u_T := fun k => match k with
  | 0 => ("NineWells$Sheet", "numbers", "[I", true)
  | 1 => ("NineWells$Sheet", "bits", "I", false)
  | _ => ("NineWells$Sheet", "count", "I", false)
def tyX5 : Nat → FieldType := fun k => match k with
  | 0 => .array .int
  | 1 => .int
  | _ => .int
theorem nmX5 : ∀ a, a < 3 → ∀ b, b < 3 → a ≠ b → (TX5 a).2.1 ≠ (TX5 b).2.1 := by decide +kernel
theorem tyX5_ok : ∀ k, k < 3 → parseFieldDescriptor (TX5 k).2.2.1 = some (tyX5 k) := by decide +kernel
def RX6 : String := "NineWells$Text"
def TX6 : u_T := fun k => match k with
  | 0 => ("NineWells$Text", "code", "[I", true)
  | 1 => ("NineWells$Text", "stack", "[I", true)
  | _ => ("NineWells$Text", "length", "I", false)
def tyX6 : Nat → FieldType := fun k => match k with
  | 0 => .array .int
  | 1 => .array .int
  | _ => .int
theorem nmX6 : ∀ a, a < 3 → ∀ b, b < 3 → a ≠ b → (TX6 a).2.1 ≠ (TX6 b).2.1 := by decide +kernel
theorem tyX6_ok : ∀ k, k < 3 → parseFieldDescriptor (TX6 k).2.2.1 = some (tyX6 k) := by decide +kernel
def RX7 : String := "NineWells$Things"
def TX7 : u_T := fun k => match k with
  | 0 => ("NineWells$Things", "kind", "[I", true)
  | 1 => ("NineWells$Things", "m", "[I", true)
  | 2 => ("NineWells$Things", "state", "[I", true)
  | 3 => ("NineWells$Things", "well", "[I", true)
  | 4 => ("NineWells$Things", "left", "[I", true)
  | 5 => ("NineWells$Things", "spent", "[I", true)
  | _ => ("NineWells$Things", "count", "I", false)
def tyX7 : Nat → FieldType := fun k => match k with
  | 0 => .array .int
  | 1 => .array .int
  | 2 => .array .int
  | 3 => .array .int
  | 4 => .array .int
  | 5 => .array .int
  | _ => .int
theorem nmX7 : ∀ a, a < 7 → ∀ b, b < 7 → a ≠ b → (TX7 a).2.1 ≠ (TX7 b).2.1 := by decide +kernel
theorem tyX7_ok : ∀ k, k < 7 → parseFieldDescriptor (TX7 k).2.2.1 = some (tyX7 k) := by decide +kernel
def RX8 : String := "NineWells$Voices"
def TX8 : u_T := fun k => match k with
  | 0 => ("NineWells$Voices", "bodies", "[I", true)
  | 1 => ("NineWells$Voices", "count", "I", false)
  | 2 => ("NineWells$Voices", "kind", "I", false)
  | 3 => ("NineWells$Voices", "n", "I", false)
  | _ => ("NineWells$Voices", "m", "I", false)
def tyX8 : Nat → FieldType := fun k => match k with
  | 0 => .array .int
  | 1 => .int
  | 2 => .int
  | 3 => .int
  | _ => .int
theorem nmX8 : ∀ a, a < 5 → ∀ b, b < 5 → a ≠ b → (TX8 a).2.1 ≠ (TX8 b).2.1 := by decide +kernel
theorem tyX8_ok : ∀ k, k < 5 → parseFieldDescriptor (TX8 k).2.2.1 = some (tyX8 k) := by decide +kernel
def RX9 : String := "NineWells$Wells"
def TX9 : u_T := fun k => match k with
  | 0 => ("NineWells$Wells", "leads", "[I", true)
  | 1 => ("NineWells$Wells", "days", "[I", true)
  | 2 => ("NineWells$Wells", "toll", "[I", true)
  | 3 => ("NineWells$Wells", "fishes", "[I", true)
  | _ => ("NineWells$Wells", "count", "I", false)
def tyX9 : Nat → FieldType := fun k => match k with
  | 0 => .array .int
  | 1 => .array .int
  | 2 => .array .int
  | 3 => .array .int
  | _ => .int
theorem nmX9 : ∀ a, a < 5 → ∀ b, b < 5 → a ≠ b → (TX9 a).2.1 ≠ (TX9 b).2.1 := by decide +kernel
theorem tyX9_ok : ∀ k, k < 5 → parseFieldDescriptor (TX9 k).2.2.1 = some (tyX9 k) := by decide +kernel
def RX10 : String := "NineWells$World"
def TX10 : u_T := fun k => match k with
  | 0 => ("NineWells$World", "wells", "LNineWells$Wells;", true)
  | 1 => ("NineWells$World", "things", "LNineWells$Things;", true)
  | 2 => ("NineWells$World", "slows", "LNineWells$Text;", true)
  | 3 => ("NineWells$World", "takes", "LNineWells$Text;", true)
  | _ => ("NineWells$World", "today", "I", false)
def tyX10 : Nat → FieldType := fun k => match k with
  | 0 => .object "NineWells$Wells"
  | 1 => .object "NineWells$Things"
  | 2 => .object "NineWells$Text"
  | 3 => .object "NineWells$Text"
  | _ => .int
theorem nmX10 : ∀ a, a < 5 → ∀ b, b < 5 → a ≠ b → (TX10 a).2.1 ≠ (TX10 b).2.1 := by decide +kernel
theorem tyX10_ok : ∀ k, k < 5 → parseFieldDescriptor (TX10 k).2.2.1 = some (tyX10 k) := by decide +kernel
def RX11 : String := "NineWells"
def TX11 : u_T := fun k => match k with
  | 0 => ("NineWells", "now", "LNineWells$World;", true)
  | 1 => ("NineWells", "ahead", "LNineWells$World;", true)
  | 2 => ("NineWells", "kept", "LNineWells$World;", true)
  | 3 => ("NineWells", "desk", "LNineWells$Desk;", true)
  | 4 => ("NineWells", "keptDesk", "LNineWells$Desk;", true)
  | 5 => ("NineWells", "reader", "LNineWells$Reader;", true)
  | 6 => ("NineWells", "agreeing", "LNineWells$Belows;", true)
  | 7 => ("NineWells", "voices", "LNineWells$Voices;", true)
  | 8 => ("NineWells", "sheets", "[LNineWells$Sheet;", true)
  | 9 => ("NineWells", "errors", "[I", true)
  | _ => ("NineWells", "images", "I", false)
def tyX11 : Nat → FieldType := fun k => match k with
  | 0 => .object "NineWells$World"
  | 1 => .object "NineWells$World"
  | 2 => .object "NineWells$World"
  | 3 => .object "NineWells$Desk"
  | 4 => .object "NineWells$Desk"
  | 5 => .object "NineWells$Reader"
  | 6 => .object "NineWells$Belows"
  | 7 => .object "NineWells$Voices"
  | 8 => .array (.object "NineWells$Sheet")
  | 9 => .array .int
  | _ => .int
theorem nmX11 : ∀ a, a < 11 → ∀ b, b < 11 → a ≠ b → (TX11 a).2.1 ≠ (TX11 b).2.1 := by decide +kernel
theorem tyX11_ok : ∀ k, k < 11 → parseFieldDescriptor (TX11 k).2.2.1 = some (tyX11 k) := by decide +kernel
def RX12 : String := "NineWellsModel"
def TX12 : u_T := fun k => match k with
  | 0 => ("NineWellsModel", "d", "[I", true)
  | 1 => ("NineWellsModel", "e", "[I", true)
  | 2 => ("NineWellsModel", "kept", "[I", true)
  | 3 => ("NineWellsModel", "images", "I", false)
  | 4 => ("NineWellsModel", "found", "[I", true)
  | 5 => ("NineWellsModel", "base", "I", false)
  | 6 => ("NineWellsModel", "at", "I", false)
  | 7 => ("NineWellsModel", "size", "I", false)
  | 8 => ("NineWellsModel", "fault", "I", false)
  | 9 => ("NineWellsModel", "opened", "I", false)
  | 10 => ("NineWellsModel", "isSlow", "Z", false)
  | 11 => ("NineWellsModel", "names", "[I", true)
  | 12 => ("NineWellsModel", "cost", "[I", true)
  | 13 => ("NineWellsModel", "isSure", "[Z", true)
  | 14 => ("NineWellsModel", "traced", "[I", true)
  | 15 => ("NineWellsModel", "traceMany", "I", false)
  | 16 => ("NineWellsModel", "who", "I", false)
  | 17 => ("NineWellsModel", "bitsOf", "[I", true)
  | 18 => ("NineWellsModel", "sizeOf", "[I", true)
  | 19 => ("NineWellsModel", "number", "[I", true)
  | _ => ("NineWellsModel", "lifted", "[I", true)
def tyX12 : Nat → FieldType := fun k => match k with
  | 0 => .array .int
  | 1 => .array .int
  | 2 => .array .int
  | 3 => .int
  | 4 => .array .int
  | 5 => .int
  | 6 => .int
  | 7 => .int
  | 8 => .int
  | 9 => .int
  | 10 => .boolean
  | 11 => .array .int
  | 12 => .array .int
  | 13 => .array .boolean
  | 14 => .array .int
  | 15 => .int
  | 16 => .int
  | 17 => .array .int
  | 18 => .array .int
  | 19 => .array .int
  | _ => .array .int
theorem nmX12 : ∀ a, a < 21 → ∀ b, b < 21 → a ≠ b → (TX12 a).2.1 ≠ (TX12 b).2.1 := by decide +kernel
theorem tyX12_ok : ∀ k, k < 21 → parseFieldDescriptor (TX12 k).2.2.1 = some (tyX12 k) := by decide +kernel
def RJ6 : String := "java/lang/Integer"
def RJ9 : String := "java/lang/Math"
def RL : String := "NineWellsLaw"
abbrev cX0_init : ByteArray := prog_2_method_1_code
def yX0_init : MethodName := ⟨RX0, "<init>", "()V"⟩
abbrev cX0_search : ByteArray := prog_2_method_2_code
def yX0_search : MethodName := ⟨RX0, "search", "(LNineWells$Wells;LNineWells$Finds;III)V"⟩
abbrev cX0_note : ByteArray := prog_2_method_3_code
def yX0_note : MethodName := ⟨RX0, "note", "(III)V"⟩
abbrev cX0_howManyPlaces : ByteArray := prog_2_method_4_code
def yX0_howManyPlaces : MethodName := ⟨RX0, "howManyPlaces", "(I)I"⟩
abbrev cX0_bestStart : ByteArray := prog_2_method_5_code
def yX0_bestStart : MethodName := ⟨RX0, "bestStart", "(I)I"⟩
abbrev cX1_init : ByteArray := prog_3_method_1_code
def yX1_init : MethodName := ⟨RX1, "<init>", "()V"⟩
abbrev cX1_copyFrom : ByteArray := prog_3_method_2_code
def yX1_copyFrom : MethodName := ⟨RX1, "copyFrom", "(LNineWells$Desk;)V"⟩
abbrev cX1_draw : ByteArray := prog_3_method_3_code
def yX1_draw : MethodName := ⟨RX1, "draw", "()I"⟩
abbrev cX2_init : ByteArray := prog_4_method_1_code
def yX2_init : MethodName := ⟨RX2, "<init>", "()V"⟩
abbrev cX2_copyFrom : ByteArray := prog_4_method_2_code
def yX2_copyFrom : MethodName := ⟨RX2, "copyFrom", "(LNineWells$Finds;)V"⟩
abbrev cX2_append : ByteArray := prog_4_method_3_code
def yX2_append : MethodName := ⟨RX2, "append", "(III)I"⟩
abbrev cX2_isSo : ByteArray := prog_4_method_4_code
def yX2_isSo : MethodName := ⟨RX2, "isSo", "(ILNineWells$Wells;)Z"⟩
abbrev cX2_allSo : ByteArray := prog_4_method_5_code
def yX2_allSo : MethodName := ⟨RX2, "allSo", "(LNineWells$Wells;)Z"⟩
abbrev cX3_init : ByteArray := prog_5_method_1_code
def yX3_init : MethodName := ⟨RX3, "<init>", "(LNineWells$Row;)V"⟩
abbrev cX3_faultFor : ByteArray := prog_5_method_2_code
def yX3_faultFor : MethodName := ⟨RX3, "faultFor", "(I)I"⟩
abbrev cX3_reads : ByteArray := prog_5_method_3_code
def yX3_reads : MethodName := ⟨RX3, "reads", "(II)Z"⟩
abbrev cX3_readsUnit : ByteArray := prog_5_method_4_code
def yX3_readsUnit : MethodName := ⟨RX3, "readsUnit", "(I)Z"⟩
abbrev cX3_readsNot : ByteArray := prog_5_method_5_code
def yX3_readsNot : MethodName := ⟨RX3, "readsNot", "(I)Z"⟩
abbrev cX3_readsInside : ByteArray := prog_5_method_6_code
def yX3_readsInside : MethodName := ⟨RX3, "readsInside", "(I)Z"⟩
abbrev cX3_readNumber : ByteArray := prog_5_method_7_code
def yX3_readNumber : MethodName := ⟨RX3, "readNumber", "()V"⟩
abbrev cX3_next : ByteArray := prog_5_method_8_code
def yX3_next : MethodName := ⟨RX3, "next", "()I"⟩
abbrev cX3_isDigit : ByteArray := prog_5_method_9_code
def yX3_isDigit : MethodName := ⟨RX3, "isDigit", "(I)Z"⟩
abbrev cX3_nameOf : ByteArray := prog_5_method_10_code
def yX3_nameOf : MethodName := ⟨RX3, "nameOf", "(I)I"⟩
abbrev cX3_levelOf : ByteArray := prog_5_method_11_code
def yX3_levelOf : MethodName := ⟨RX3, "levelOf", "(I)I"⟩
abbrev cX4_init : ByteArray := prog_6_method_1_code
def yX4_init : MethodName := ⟨RX4, "<init>", "(I)V"⟩
abbrev cX4_copyFrom : ByteArray := prog_6_method_2_code
def yX4_copyFrom : MethodName := ⟨RX4, "copyFrom", "(LNineWells$Row;)V"⟩
abbrev cX4_append : ByteArray := prog_6_method_3_code
def yX4_append : MethodName := ⟨RX4, "append", "(I)V"⟩
abbrev cX5_init : ByteArray := prog_7_method_1_code
def yX5_init : MethodName := ⟨RX5, "<init>", "()V"⟩
abbrev cX5_clear : ByteArray := prog_7_method_2_code
def yX5_clear : MethodName := ⟨RX5, "clear", "(II)V"⟩
abbrev cX5_write : ByteArray := prog_7_method_3_code
def yX5_write : MethodName := ⟨RX5, "write", "(II)V"⟩
abbrev cX5_hasSpan : ByteArray := prog_7_method_4_code
def yX5_hasSpan : MethodName := ⟨RX5, "hasSpan", "(II)Z"⟩
abbrev cX6_init : ByteArray := prog_8_method_1_code
def yX6_init : MethodName := ⟨RX6, "<init>", "()V"⟩
abbrev cX6_copyFrom : ByteArray := prog_8_method_2_code
def yX6_copyFrom : MethodName := ⟨RX6, "copyFrom", "(LNineWells$Text;)V"⟩
abbrev cX6_append : ByteArray := prog_8_method_3_code
def yX6_append : MethodName := ⟨RX6, "append", "(I)V"⟩
abbrev cX6_worth : ByteArray := prog_8_method_4_code
def yX6_worth : MethodName := ⟨RX6, "worth", "(IIII)I"⟩
abbrev cX6_named : ByteArray := prog_8_method_5_code
def yX6_named : MethodName := ⟨RX6, "named", "(IIIII)I"⟩
abbrev cX6_joined : ByteArray := prog_8_method_6_code
def yX6_joined : MethodName := ⟨RX6, "joined", "(III)I"⟩
abbrev cX7_init : ByteArray := prog_9_method_1_code
def yX7_init : MethodName := ⟨RX7, "<init>", "()V"⟩
abbrev cX7_copyFrom : ByteArray := prog_9_method_2_code
def yX7_copyFrom : MethodName := ⟨RX7, "copyFrom", "(LNineWells$Things;)V"⟩
abbrev cX7_has : ByteArray := prog_9_method_3_code
def yX7_has : MethodName := ⟨RX7, "has", "(I)Z"⟩
abbrev cX7_make : ByteArray := prog_9_method_4_code
def yX7_make : MethodName := ⟨RX7, "make", "(II)I"⟩
abbrev cX7_place : ByteArray := prog_9_method_5_code
def yX7_place : MethodName := ⟨RX7, "place", "(IIII)V"⟩
abbrev cX7_wellOf : ByteArray := prog_9_method_6_code
def yX7_wellOf : MethodName := ⟨RX7, "wellOf", "(I)I"⟩
abbrev cX7_bits : ByteArray := prog_9_method_7_code
def yX7_bits : MethodName := ⟨RX7, "bits", "(II)I"⟩
abbrev cX7_others : ByteArray := prog_9_method_8_code
def yX7_others : MethodName := ⟨RX7, "others", "(III)I"⟩
abbrev cX7_belowBits : ByteArray := prog_9_method_9_code
def yX7_belowBits : MethodName := ⟨RX7, "belowBits", "()I"⟩
abbrev cX7_howManyOut : ByteArray := prog_9_method_10_code
def yX7_howManyOut : MethodName := ⟨RX7, "howManyOut", "()I"⟩
abbrev cX8_init : ByteArray := prog_10_method_1_code
def yX8_init : MethodName := ⟨RX8, "<init>", "()V"⟩
abbrev cX8_begin : ByteArray := prog_10_method_2_code
def yX8_begin : MethodName := ⟨RX8, "begin", "(IIIII)I"⟩
abbrev cX8_says : ByteArray := prog_10_method_3_code
def yX8_says : MethodName := ⟨RX8, "says", "(IIII)I"⟩
abbrev cX8_holderOf : ByteArray := prog_10_method_4_code
def yX8_holderOf : MethodName := ⟨RX8, "holderOf", "(II)I"⟩
abbrev cX8_note : ByteArray := prog_10_method_5_code
def yX8_note : MethodName := ⟨RX8, "note", "(I)V"⟩
abbrev cX9_init : ByteArray := prog_11_method_1_code
def yX9_init : MethodName := ⟨RX9, "<init>", "()V"⟩
abbrev cX9_copyFrom : ByteArray := prog_11_method_2_code
def yX9_copyFrom : MethodName := ⟨RX9, "copyFrom", "(LNineWells$Wells;)V"⟩
abbrev cX9_has : ByteArray := prog_11_method_3_code
def yX9_has : MethodName := ⟨RX9, "has", "(I)Z"⟩
abbrev cX9_dig : ByteArray := prog_11_method_4_code
def yX9_dig : MethodName := ⟨RX9, "dig", "()I"⟩
abbrev cX9_allows : ByteArray := prog_11_method_5_code
def yX9_allows : MethodName := ⟨RX9, "allows", "(II)Z"⟩
abbrev cX9_lead : ByteArray := prog_11_method_6_code
def yX9_lead : MethodName := ⟨RX9, "lead", "(III)V"⟩
abbrev cX9_leadsTo : ByteArray := prog_11_method_7_code
def yX9_leadsTo : MethodName := ⟨RX9, "leadsTo", "(I)I"⟩
abbrev cX9_daysOf : ByteArray := prog_11_method_8_code
def yX9_daysOf : MethodName := ⟨RX9, "daysOf", "(I)I"⟩
abbrev cX9_placeOn : ByteArray := prog_11_method_9_code
def yX9_placeOn : MethodName := ⟨RX9, "placeOn", "(II)I"⟩
abbrev cX9_leastSum : ByteArray := prog_11_method_10_code
def yX9_leastSum : MethodName := ⟨RX9, "leastSum", "(IIIZ)I"⟩
abbrev cX9_leastOfRing : ByteArray := prog_11_method_11_code
def yX9_leastOfRing : MethodName := ⟨RX9, "leastOfRing", "(I)I"⟩
abbrev cX9_deepBits : ByteArray := prog_11_method_12_code
def yX9_deepBits : MethodName := ⟨RX9, "deepBits", "()I"⟩
abbrev cX9_howManyRings : ByteArray := prog_11_method_13_code
def yX9_howManyRings : MethodName := ⟨RX9, "howManyRings", "()I"⟩
abbrev cX9_meetingDay : ByteArray := prog_11_method_14_code
def yX9_meetingDay : MethodName := ⟨RX9, "meetingDay", "(II)I"⟩
abbrev cX9_longestGoing : ByteArray := prog_11_method_15_code
def yX9_longestGoing : MethodName := ⟨RX9, "longestGoing", "()I"⟩
abbrev cX10_init : ByteArray := prog_12_method_1_code
def yX10_init : MethodName := ⟨RX10, "<init>", "(LNineWells$Text;LNineWells$Text;)V"⟩
abbrev cX10_copyFrom : ByteArray := prog_12_method_2_code
def yX10_copyFrom : MethodName := ⟨RX10, "copyFrom", "(LNineWells$World;)V"⟩
abbrev cX10_goBy : ByteArray := prog_12_method_3_code
def yX10_goBy : MethodName := ⟨RX10, "goBy", "(I)V"⟩
abbrev cX10_goDown : ByteArray := prog_12_method_4_code
def yX10_goDown : MethodName := ⟨RX10, "goDown", "(I)V"⟩
abbrev cX10_comeNearer : ByteArray := prog_12_method_5_code
def yX10_comeNearer : MethodName := ⟨RX10, "comeNearer", "(I)V"⟩
abbrev cX10_gives : ByteArray := prog_12_method_6_code
def yX10_gives : MethodName := ⟨RX10, "gives", "(IIIII)I"⟩
abbrev cX10_detail : ByteArray := prog_12_method_7_code
def yX10_detail : MethodName := ⟨RX10, "detail", "(II)I"⟩
abbrev cX10_month : ByteArray := prog_12_method_8_code
def yX10_month : MethodName := ⟨RX10, "month", "()I"⟩
abbrev cX10_lasts : ByteArray := prog_12_method_9_code
def yX10_lasts : MethodName := ⟨RX10, "lasts", "(I)I"⟩
abbrev cX10_lastsByKind : ByteArray := prog_12_method_10_code
def yX10_lastsByKind : MethodName := ⟨RX10, "lastsByKind", "(IIII)I"⟩
abbrev cX10_stays : ByteArray := prog_12_method_11_code
def yX10_stays : MethodName := ⟨RX10, "stays", "(I)Z"⟩
abbrev cX10_waitsForMore : ByteArray := prog_12_method_12_code
def yX10_waitsForMore : MethodName := ⟨RX10, "waitsForMore", "(I)Z"⟩
abbrev cX10_leaveAlone : ByteArray := prog_12_method_13_code
def yX10_leaveAlone : MethodName := ⟨RX10, "leaveAlone", "(II)V"⟩
abbrev cX11_init : ByteArray := prog_1_method_1_code
def yX11_init : MethodName := ⟨RX11, "<init>", "()V"⟩
abbrev cX11_well : ByteArray := prog_1_method_2_code
def yX11_well : MethodName := ⟨RX11, "well", "()I"⟩
abbrev cX11_going : ByteArray := prog_1_method_3_code
def yX11_going : MethodName := ⟨RX11, "going", "(III)I"⟩
abbrev cX11_set : ByteArray := prog_1_method_4_code
def yX11_set : MethodName := ⟨RX11, "set", "(III)I"⟩
abbrev cX11_ofWell : ByteArray := prog_1_method_5_code
def yX11_ofWell : MethodName := ⟨RX11, "ofWell", "(II)I"⟩
abbrev cX11_goings : ByteArray := prog_1_method_6_code
def yX11_goings : MethodName := ⟨RX11, "goings", "(I)I"⟩
abbrev cX11_thing : ByteArray := prog_1_method_7_code
def yX11_thing : MethodName := ⟨RX11, "thing", "(II)I"⟩
abbrev cX11_ofThing : ByteArray := prog_1_method_8_code
def yX11_ofThing : MethodName := ⟨RX11, "ofThing", "(II)I"⟩
abbrev cX11_as : ByteArray := prog_1_method_9_code
def yX11_as : MethodName := ⟨RX11, "as", "(II)I"⟩
abbrev cX11_let : ByteArray := prog_1_method_10_code
def yX11_let : MethodName := ⟨RX11, "let", "(II)I"⟩
abbrev cX11_fish : ByteArray := prog_1_method_11_code
def yX11_fish : MethodName := ⟨RX11, "fish", "(I)I"⟩
abbrev cX11_feed : ByteArray := prog_1_method_12_code
def yX11_feed : MethodName := ⟨RX11, "feed", "(JI)I"⟩
abbrev cX11_text : ByteArray := prog_1_method_13_code
def yX11_text : MethodName := ⟨RX11, "text", "(I)I"⟩
abbrev cX11_law : ByteArray := prog_1_method_14_code
def yX11_law : MethodName := ⟨RX11, "law", "(IIIII)I"⟩
abbrev cX11_days : ByteArray := prog_1_method_15_code
def yX11_days : MethodName := ⟨RX11, "days", "(I)I"⟩
abbrev cX11_floods : ByteArray := prog_1_method_16_code
def yX11_floods : MethodName := ⟨RX11, "floods", "(I)I"⟩
abbrev cX11_flood : ByteArray := prog_1_method_17_code
def yX11_flood : MethodName := ⟨RX11, "flood", "()V"⟩
abbrev cX11_then : ByteArray := prog_1_method_18_code
def yX11_then : MethodName := ⟨RX11, "then", "(III)I"⟩
abbrev cX11_in : ByteArray := prog_1_method_19_code
def yX11_in : MethodName := ⟨RX11, "in", "(II)I"⟩
abbrev cX11_seen : ByteArray := prog_1_method_20_code
def yX11_seen : MethodName := ⟨RX11, "seen", "(III)I"⟩
abbrev cX11_round : ByteArray := prog_1_method_21_code
def yX11_round : MethodName := ⟨RX11, "round", "(II)I"⟩
abbrev cX11_soon : ByteArray := prog_1_method_22_code
def yX11_soon : MethodName := ⟨RX11, "soon", "(III)I"⟩
abbrev cX11_cheap : ByteArray := prog_1_method_23_code
def yX11_cheap : MethodName := ⟨RX11, "cheap", "(III)I"⟩
abbrev cX11_rings : ByteArray := prog_1_method_24_code
def yX11_rings : MethodName := ⟨RX11, "rings", "(I)I"⟩
abbrev cX11_meet : ByteArray := prog_1_method_25_code
def yX11_meet : MethodName := ⟨RX11, "meet", "(II)I"⟩
abbrev cX11_tenth : ByteArray := prog_1_method_26_code
def yX11_tenth : MethodName := ⟨RX11, "tenth", "()I"⟩
abbrev cX11_find : ByteArray := prog_1_method_27_code
def yX11_find : MethodName := ⟨RX11, "find", "(III)I"⟩
abbrev cX11_forget : ByteArray := prog_1_method_28_code
def yX11_forget : MethodName := ⟨RX11, "forget", "()I"⟩
abbrev cX11_agrees : ByteArray := prog_1_method_29_code
def yX11_agrees : MethodName := ⟨RX11, "agrees", "(I)I"⟩
abbrev cX11_belows : ByteArray := prog_1_method_30_code
def yX11_belows : MethodName := ⟨RX11, "belows", "(III)I"⟩
abbrev cX11_cork : ByteArray := prog_1_method_31_code
def yX11_cork : MethodName := ⟨RX11, "cork", "(IIII)I"⟩
abbrev cX11_seed : ByteArray := prog_1_method_32_code
def yX11_seed : MethodName := ⟨RX11, "seed", "(I)I"⟩
abbrev cX11_voice : ByteArray := prog_1_method_33_code
def yX11_voice : MethodName := ⟨RX11, "voice", "(III)I"⟩
abbrev cX11_trace : ByteArray := prog_1_method_34_code
def yX11_trace : MethodName := ⟨RX11, "trace", "(I)I"⟩
abbrev cX11_sheet : ByteArray := prog_1_method_35_code
def yX11_sheet : MethodName := ⟨RX11, "sheet", "(III)I"⟩
abbrev cX11_put : ByteArray := prog_1_method_36_code
def yX11_put : MethodName := ⟨RX11, "put", "(III)I"⟩
abbrev cX11_move : ByteArray := prog_1_method_37_code
def yX11_move : MethodName := ⟨RX11, "move", "(IIIII)I"⟩
abbrev cX11_image : ByteArray := prog_1_method_38_code
def yX11_image : MethodName := ⟨RX11, "image", "()I"⟩
abbrev cX11_restore : ByteArray := prog_1_method_39_code
def yX11_restore : MethodName := ⟨RX11, "restore", "()I"⟩
abbrev cX11_tell : ByteArray := prog_1_method_40_code
def yX11_tell : MethodName := ⟨RX11, "tell", "(I)I"⟩
abbrev cX11_check : ByteArray := prog_1_method_41_code
def yX11_check : MethodName := ⟨RX11, "check", "(I)I"⟩
abbrev cX11_count : ByteArray := prog_1_method_42_code
def yX11_count : MethodName := ⟨RX11, "count", "(I)I"⟩
abbrev cX11_told : ByteArray := prog_1_method_43_code
def yX11_told : MethodName := ⟨RX11, "told", "(I)I"⟩
abbrev cX11_error : ByteArray := prog_1_method_44_code
def yX11_error : MethodName := ⟨RX11, "error", "(I)I"⟩
abbrev cX11_sheetAt : ByteArray := prog_1_method_45_code
def yX11_sheetAt : MethodName := ⟨RX11, "sheetAt", "(I)LNineWells$Sheet;"⟩
abbrev cX11_within : ByteArray := prog_1_method_46_code
def yX11_within : MethodName := ⟨RX11, "within", "(III)Z"⟩
abbrev cX11_isKind : ByteArray := prog_1_method_47_code
def yX11_isKind : MethodName := ⟨RX11, "isKind", "(I)Z"⟩
abbrev cX11_isUse : ByteArray := prog_1_method_48_code
def yX11_isUse : MethodName := ⟨RX11, "isUse", "(I)Z"⟩
abbrev cX11_isDetail : ByteArray := prog_1_method_49_code
def yX11_isDetail : MethodName := ⟨RX11, "isDetail", "(I)Z"⟩
abbrev cX11_isUnder : ByteArray := prog_1_method_50_code
def yX11_isUnder : MethodName := ⟨RX11, "isUnder", "(II)Z"⟩
abbrev cX11_pick : ByteArray := prog_1_method_51_code
def yX11_pick : MethodName := ⟨RX11, "pick", "([II)I"⟩
abbrev cX11_lay : ByteArray := prog_1_method_52_code
def yX11_lay : MethodName := ⟨RX11, "lay", "([III)V"⟩
abbrev cX11_copyRow : ByteArray := prog_1_method_53_code
def yX11_copyRow : MethodName := ⟨RX11, "copyRow", "([I[I)V"⟩
abbrev cX12_init : ByteArray := prog_14_method_1_code
def yX12_init : MethodName := ⟨RX12, "<init>", "()V"⟩
abbrev cX12_finds : ByteArray := prog_14_method_3_code
def yX12_finds : MethodName := ⟨RX12, "finds", "(I)I"⟩
abbrev cX12_isIn : ByteArray := prog_14_method_4_code
def yX12_isIn : MethodName := ⟨RX12, "isIn", "(JJJ)Z"⟩
abbrev cX12_held : ByteArray := prog_14_method_5_code
def yX12_held : MethodName := ⟨RX12, "held", "(III)I"⟩
abbrev cX12_copies : ByteArray := prog_14_method_6_code
def yX12_copies : MethodName := ⟨RX12, "copies", "([I[I)V"⟩
abbrev cX12_isWell : ByteArray := prog_14_method_7_code
def yX12_isWell : MethodName := ⟨RX12, "isWell", "(I)Z"⟩
abbrev cX12_isThing : ByteArray := prog_14_method_8_code
def yX12_isThing : MethodName := ⟨RX12, "isThing", "(I)Z"⟩
abbrev cX12_aWell : ByteArray := prog_14_method_9_code
def yX12_aWell : MethodName := ⟨RX12, "aWell", "([III)I"⟩
abbrev cX12_aThing : ByteArray := prog_14_method_10_code
def yX12_aThing : MethodName := ⟨RX12, "aThing", "([III)I"⟩
abbrev cX12_here : ByteArray := prog_14_method_11_code
def yX12_here : MethodName := ⟨RX12, "here", "()I"⟩
abbrev cX12_wrong : ByteArray := prog_14_method_12_code
def yX12_wrong : MethodName := ⟨RX12, "wrong", "()I"⟩
abbrev cX12_takes : ByteArray := prog_14_method_13_code
def yX12_takes : MethodName := ⟨RX12, "takes", "(I)Z"⟩
abbrev cX12_nameOf : ByteArray := prog_14_method_14_code
def yX12_nameOf : MethodName := ⟨RX12, "nameOf", "(I)I"⟩
abbrev cX12_either : ByteArray := prog_14_method_15_code
def yX12_either : MethodName := ⟨RX12, "either", "()I"⟩
abbrev cX12_both : ByteArray := prog_14_method_16_code
def yX12_both : MethodName := ⟨RX12, "both", "()I"⟩
abbrev cX12_compared : ByteArray := prog_14_method_17_code
def yX12_compared : MethodName := ⟨RX12, "compared", "()I"⟩
abbrev cX12_sum : ByteArray := prog_14_method_18_code
def yX12_sum : MethodName := ⟨RX12, "sum", "()I"⟩
abbrev cX12_product : ByteArray := prog_14_method_19_code
def yX12_product : MethodName := ⟨RX12, "product", "()I"⟩
abbrev cX12_unit : ByteArray := prog_14_method_20_code
def yX12_unit : MethodName := ⟨RX12, "unit", "()I"⟩
abbrev cX12_worked : ByteArray := prog_14_method_21_code
def yX12_worked : MethodName := ⟨RX12, "worked", "(III)I"⟩
abbrev cX12_feed : ByteArray := prog_14_method_22_code
def yX12_feed : MethodName := ⟨RX12, "feed", "(JI)I"⟩
abbrev cX12_text : ByteArray := prog_14_method_23_code
def yX12_text : MethodName := ⟨RX12, "text", "(I)I"⟩
abbrev cX12_gives : ByteArray := prog_14_method_24_code
def yX12_gives : MethodName := ⟨RX12, "gives", "(IIIII)I"⟩
abbrev cX12_law : ByteArray := prog_14_method_25_code
def yX12_law : MethodName := ⟨RX12, "law", "(IIIII)I"⟩
abbrev cX12_well : ByteArray := prog_14_method_26_code
def yX12_well : MethodName := ⟨RX12, "well", "()I"⟩
abbrev cX12_mayGo : ByteArray := prog_14_method_27_code
def yX12_mayGo : MethodName := ⟨RX12, "mayGo", "(II)Z"⟩
abbrev cX12_leads : ByteArray := prog_14_method_28_code
def yX12_leads : MethodName := ⟨RX12, "leads", "(III)V"⟩
abbrev cX12_going : ByteArray := prog_14_method_29_code
def yX12_going : MethodName := ⟨RX12, "going", "(III)I"⟩
abbrev cX12_set : ByteArray := prog_14_method_30_code
def yX12_set : MethodName := ⟨RX12, "set", "(III)I"⟩
abbrev cX12_thingsIn : ByteArray := prog_14_method_31_code
def yX12_thingsIn : MethodName := ⟨RX12, "thingsIn", "([III)I"⟩
abbrev cX12_ofWell : ByteArray := prog_14_method_32_code
def yX12_ofWell : MethodName := ⟨RX12, "ofWell", "(II)I"⟩
abbrev cX12_goings : ByteArray := prog_14_method_33_code
def yX12_goings : MethodName := ⟨RX12, "goings", "(I)I"⟩
abbrev cX12_thing : ByteArray := prog_14_method_34_code
def yX12_thing : MethodName := ⟨RX12, "thing", "(II)I"⟩
abbrev cX12_many : ByteArray := prog_14_method_35_code
def yX12_many : MethodName := ⟨RX12, "many", "(I)I"⟩
abbrev cX12_month : ByteArray := prog_14_method_36_code
def yX12_month : MethodName := ⟨RX12, "month", "([I)I"⟩
abbrev cX12_lasts : ByteArray := prog_14_method_37_code
def yX12_lasts : MethodName := ⟨RX12, "lasts", "([II)I"⟩
abbrev cX12_stays : ByteArray := prog_14_method_38_code
def yX12_stays : MethodName := ⟨RX12, "stays", "([II)Z"⟩
abbrev cX12_ofIt : ByteArray := prog_14_method_39_code
def yX12_ofIt : MethodName := ⟨RX12, "ofIt", "([III)I"⟩
abbrev cX12_ofThing : ByteArray := prog_14_method_40_code
def yX12_ofThing : MethodName := ⟨RX12, "ofThing", "(II)I"⟩
abbrev cX12_isOf : ByteArray := prog_14_method_41_code
def yX12_isOf : MethodName := ⟨RX12, "isOf", "(II)Z"⟩
abbrev cX12_as : ByteArray := prog_14_method_42_code
def yX12_as : MethodName := ⟨RX12, "as", "(II)I"⟩
abbrev cX12_itsKind : ByteArray := prog_14_method_43_code
def yX12_itsKind : MethodName := ⟨RX12, "itsKind", "(I)I"⟩
abbrev cX12_puts : ByteArray := prog_14_method_44_code
def yX12_puts : MethodName := ⟨RX12, "puts", "([IIIII)V"⟩
abbrev cX12_isNow : ByteArray := prog_14_method_45_code
def yX12_isNow : MethodName := ⟨RX12, "isNow", "(I)I"⟩
abbrev cX12_let : ByteArray := prog_14_method_46_code
def yX12_let : MethodName := ⟨RX12, "let", "(II)I"⟩
abbrev cX12_fish : ByteArray := prog_14_method_47_code
def yX12_fish : MethodName := ⟨RX12, "fish", "(I)I"⟩
abbrev cX12_goesUp : ByteArray := prog_14_method_48_code
def yX12_goesUp : MethodName := ⟨RX12, "goesUp", "([II)V"⟩
abbrev cX12_goesBy : ByteArray := prog_14_method_49_code
def yX12_goesBy : MethodName := ⟨RX12, "goesBy", "([I)V"⟩
abbrev cX12_goesOn : ByteArray := prog_14_method_50_code
def yX12_goesOn : MethodName := ⟨RX12, "goesOn", "([II)V"⟩
abbrev cX12_days : ByteArray := prog_14_method_51_code
def yX12_days : MethodName := ⟨RX12, "days", "(I)I"⟩
abbrev cX12_drawn : ByteArray := prog_14_method_52_code
def yX12_drawn : MethodName := ⟨RX12, "drawn", "()I"⟩
abbrev cX12_floods : ByteArray := prog_14_method_53_code
def yX12_floods : MethodName := ⟨RX12, "floods", "(I)I"⟩
abbrev cX12_isAhead : ByteArray := prog_14_method_54_code
def yX12_isAhead : MethodName := ⟨RX12, "isAhead", "(I)Z"⟩
abbrev cX12_ahead : ByteArray := prog_14_method_55_code
def yX12_ahead : MethodName := ⟨RX12, "ahead", "(I)V"⟩
abbrev cX12_then : ByteArray := prog_14_method_56_code
def yX12_then : MethodName := ⟨RX12, "then", "(III)I"⟩
abbrev cX12_in : ByteArray := prog_14_method_57_code
def yX12_in : MethodName := ⟨RX12, "in", "(II)I"⟩
abbrev cX12_inWhich : ByteArray := prog_14_method_58_code
def yX12_inWhich : MethodName := ⟨RX12, "inWhich", "([II)I"⟩
abbrev cX12_seen : ByteArray := prog_14_method_59_code
def yX12_seen : MethodName := ⟨RX12, "seen", "(III)I"⟩
abbrev cX12_round : ByteArray := prog_14_method_60_code
def yX12_round : MethodName := ⟨RX12, "round", "(II)I"⟩
abbrev cX12_least : ByteArray := prog_14_method_61_code
def yX12_least : MethodName := ⟨RX12, "least", "(IIIZ)I"⟩
abbrev cX12_itsWell : ByteArray := prog_14_method_62_code
def yX12_itsWell : MethodName := ⟨RX12, "itsWell", "(II)I"⟩
abbrev cX12_soon : ByteArray := prog_14_method_63_code
def yX12_soon : MethodName := ⟨RX12, "soon", "(III)I"⟩
abbrev cX12_cheap : ByteArray := prog_14_method_64_code
def yX12_cheap : MethodName := ⟨RX12, "cheap", "(III)I"⟩
abbrev cX12_ringOf : ByteArray := prog_14_method_65_code
def yX12_ringOf : MethodName := ⟨RX12, "ringOf", "(I)I"⟩
abbrev cX12_rings : ByteArray := prog_14_method_66_code
def yX12_rings : MethodName := ⟨RX12, "rings", "(I)I"⟩
abbrev cX12_walk : ByteArray := prog_14_method_67_code
def yX12_walk : MethodName := ⟨RX12, "walk", "(IIIII)I"⟩
abbrev cX12_meet : ByteArray := prog_14_method_68_code
def yX12_meet : MethodName := ⟨RX12, "meet", "(II)I"⟩
abbrev cX12_tenth : ByteArray := prog_14_method_69_code
def yX12_tenth : MethodName := ⟨RX12, "tenth", "()I"⟩
abbrev cX12_find : ByteArray := prog_14_method_70_code
def yX12_find : MethodName := ⟨RX12, "find", "(III)I"⟩
abbrev cX12_forget : ByteArray := prog_14_method_71_code
def yX12_forget : MethodName := ⟨RX12, "forget", "()I"⟩
abbrev cX12_isSo : ByteArray := prog_14_method_72_code
def yX12_isSo : MethodName := ⟨RX12, "isSo", "(IIII)Z"⟩
abbrev cX12_agrees : ByteArray := prog_14_method_73_code
def yX12_agrees : MethodName := ⟨RX12, "agrees", "(I)I"⟩
abbrev cX12_areSo : ByteArray := prog_14_method_74_code
def yX12_areSo : MethodName := ⟨RX12, "areSo", "(III)Z"⟩
abbrev cX12_belows : ByteArray := prog_14_method_75_code
def yX12_belows : MethodName := ⟨RX12, "belows", "(III)I"⟩
abbrev cX12_cork : ByteArray := prog_14_method_76_code
def yX12_cork : MethodName := ⟨RX12, "cork", "(IIII)I"⟩
abbrev cX12_seed : ByteArray := prog_14_method_77_code
def yX12_seed : MethodName := ⟨RX12, "seed", "(I)I"⟩
abbrev cX12_ran : ByteArray := prog_14_method_78_code
def yX12_ran : MethodName := ⟨RX12, "ran", "(I)V"⟩
abbrev cX12_above : ByteArray := prog_14_method_79_code
def yX12_above : MethodName := ⟨RX12, "above", "(I)I"⟩
abbrev cX12_sinks : ByteArray := prog_14_method_80_code
def yX12_sinks : MethodName := ⟨RX12, "sinks", "(II)I"⟩
abbrev cX12_goes : ByteArray := prog_14_method_81_code
def yX12_goes : MethodName := ⟨RX12, "goes", "(II)I"⟩
abbrev cX12_waitsFor : ByteArray := prog_14_method_82_code
def yX12_waitsFor : MethodName := ⟨RX12, "waitsFor", "(II)I"⟩
abbrev cX12_tells : ByteArray := prog_14_method_83_code
def yX12_tells : MethodName := ⟨RX12, "tells", "(II)I"⟩
abbrev cX12_voice : ByteArray := prog_14_method_84_code
def yX12_voice : MethodName := ⟨RX12, "voice", "(III)I"⟩
abbrev cX12_trace : ByteArray := prog_14_method_85_code
def yX12_trace : MethodName := ⟨RX12, "trace", "(I)I"⟩
abbrev cX12_isSheet : ByteArray := prog_14_method_86_code
def yX12_isSheet : MethodName := ⟨RX12, "isSheet", "(I)Z"⟩
abbrev cX12_sheet : ByteArray := prog_14_method_87_code
def yX12_sheet : MethodName := ⟨RX12, "sheet", "(III)I"⟩
abbrev cX12_put : ByteArray := prog_14_method_88_code
def yX12_put : MethodName := ⟨RX12, "put", "(III)I"⟩
abbrev cX12_move : ByteArray := prog_14_method_89_code
def yX12_move : MethodName := ⟨RX12, "move", "(IIIII)I"⟩
abbrev cX12_image : ByteArray := prog_14_method_90_code
def yX12_image : MethodName := ⟨RX12, "image", "()I"⟩
abbrev cX12_restore : ByteArray := prog_14_method_91_code
def yX12_restore : MethodName := ⟨RX12, "restore", "()I"⟩
abbrev cX12_tell : ByteArray := prog_14_method_92_code
def yX12_tell : MethodName := ⟨RX12, "tell", "(I)I"⟩
abbrev cX12_check : ByteArray := prog_14_method_93_code
def yX12_check : MethodName := ⟨RX12, "check", "(I)I"⟩
abbrev cX12_manyOut : ByteArray := prog_14_method_94_code
def yX12_manyOut : MethodName := ⟨RX12, "manyOut", "()I"⟩
abbrev cX12_count : ByteArray := prog_14_method_95_code
def yX12_count : MethodName := ⟨RX12, "count", "(I)I"⟩
abbrev cX12_told : ByteArray := prog_14_method_96_code
def yX12_told : MethodName := ⟨RX12, "told", "(I)I"⟩
abbrev cJ6_bitCount_0f7a4 : ByteArray := prog_15_method_49_code
def yJ6_bitCount_0f7a4 : MethodName := ⟨RJ6, "bitCount", "(I)I"⟩
abbrev cJ9_max_7cf53 : ByteArray := prog_16_method_65_code
def yJ9_max_7cf53 : MethodName := ⟨RJ9, "max", "(II)I"⟩
abbrev cJ9_min_7cf53 : ByteArray := prog_16_method_69_code
def yJ9_min_7cf53 : MethodName := ⟨RJ9, "min", "(II)I"⟩
abbrev cL_law : ByteArray := code
def yL_law : MethodName := ⟨RL, "law", "([I)Z"⟩
abbrev mCl : List vw_C := [(RX0, TX0, 5), (RX1, TX1, 6), (RX2, TX2, 4), (RX3, TX3, 4), (RX4, TX4, 2), (RX5, TX5, 3), (RX6, TX6, 3), (RX7, TX7, 7), (RX8, TX8, 5), (RX9, TX9, 5), (RX10, TX10, 5), (RX11, TX11, 11), (RX12, TX12, 21)]
/-- field kinds by class: 0 int, 1 boolean, 2 reference -/
def mFk : List (List Nat) := [[2, 2, 0, 0, 0], [2, 2, 2, 2, 2, 0], [2, 2, 2, 0], [2, 2, 0, 0], [2, 0], [2, 0, 0], [2, 2, 0], [2, 2, 2, 2, 2, 2, 0], [2, 0, 0, 0, 0], [2, 2, 2, 2, 0], [2, 2, 2, 2, 0], [2, 2, 2, 2, 2, 2, 2, 2, 2, 2, 0], [2, 2, 2, 0, 2, 0, 0, 0, 0, 0, 1, 2, 2, 2, 2, 0, 0, 2, 2, 2, 2]]
/-- the methods: name, code, locals, what they return -/
def mM : List (MethodName × ByteArray × Nat × Option FieldType) := [(yX0_init, cX0_init, 1, none),
  (yX0_search, cX0_search, 8, none),
  (yX0_note, cX0_note, 7, none),
  (yX0_howManyPlaces, cX0_howManyPlaces, 2, (some .int)),
  (yX0_bestStart, cX0_bestStart, 4, (some .int)),
  (yX1_init, cX1_init, 1, none),
  (yX1_copyFrom, cX1_copyFrom, 2, none),
  (yX1_draw, cX1_draw, 1, (some .int)),
  (yX2_init, cX2_init, 1, none),
  (yX2_copyFrom, cX2_copyFrom, 2, none),
  (yX2_append, cX2_append, 5, (some .int)),
  (yX2_isSo, cX2_isSo, 3, (some .boolean)),
  (yX2_allSo, cX2_allSo, 3, (some .boolean)),
  (yX3_init, cX3_init, 2, none),
  (yX3_faultFor, cX3_faultFor, 2, (some .int)),
  (yX3_reads, cX3_reads, 6, (some .boolean)),
  (yX3_readsUnit, cX3_readsUnit, 4, (some .boolean)),
  (yX3_readsNot, cX3_readsNot, 2, (some .boolean)),
  (yX3_readsInside, cX3_readsInside, 2, (some .boolean)),
  (yX3_readNumber, cX3_readNumber, 3, none),
  (yX3_next, cX3_next, 1, (some .int)),
  (yX3_isDigit, cX3_isDigit, 1, (some .boolean)),
  (yX3_nameOf, cX3_nameOf, 2, (some .int)),
  (yX3_levelOf, cX3_levelOf, 1, (some .int)),
  (yX4_init, cX4_init, 2, none),
  (yX4_copyFrom, cX4_copyFrom, 2, none),
  (yX4_append, cX4_append, 2, none),
  (yX5_init, cX5_init, 1, none),
  (yX5_clear, cX5_clear, 4, none),
  (yX5_write, cX5_write, 3, none),
  (yX5_hasSpan, cX5_hasSpan, 3, (some .boolean)),
  (yX6_init, cX6_init, 1, none),
  (yX6_copyFrom, cX6_copyFrom, 2, none),
  (yX6_append, cX6_append, 2, none),
  (yX6_worth, cX6_worth, 8, (some .int)),
  (yX6_named, cX6_named, 5, (some .int)),
  (yX6_joined, cX6_joined, 3, (some .int)),
  (yX7_init, cX7_init, 1, none),
  (yX7_copyFrom, cX7_copyFrom, 2, none),
  (yX7_has, cX7_has, 2, (some .boolean)),
  (yX7_make, cX7_make, 4, (some .int)),
  (yX7_place, cX7_place, 5, none),
  (yX7_wellOf, cX7_wellOf, 2, (some .int)),
  (yX7_bits, cX7_bits, 5, (some .int)),
  (yX7_others, cX7_others, 4, (some .int)),
  (yX7_belowBits, cX7_belowBits, 3, (some .int)),
  (yX7_howManyOut, cX7_howManyOut, 3, (some .int)),
  (yX8_init, cX8_init, 1, none),
  (yX8_begin, cX8_begin, 6, (some .int)),
  (yX8_says, cX8_says, 9, (some .int)),
  (yX8_holderOf, cX8_holderOf, 4, (some .int)),
  (yX8_note, cX8_note, 2, none),
  (yX9_init, cX9_init, 1, none),
  (yX9_copyFrom, cX9_copyFrom, 2, none),
  (yX9_has, cX9_has, 2, (some .boolean)),
  (yX9_dig, cX9_dig, 2, (some .int)),
  (yX9_allows, cX9_allows, 3, (some .boolean)),
  (yX9_lead, cX9_lead, 4, none),
  (yX9_leadsTo, cX9_leadsTo, 2, (some .int)),
  (yX9_daysOf, cX9_daysOf, 2, (some .int)),
  (yX9_placeOn, cX9_placeOn, 6, (some .int)),
  (yX9_leastSum, cX9_leastSum, 9, (some .int)),
  (yX9_leastOfRing, cX9_leastOfRing, 5, (some .int)),
  (yX9_deepBits, cX9_deepBits, 3, (some .int)),
  (yX9_howManyRings, cX9_howManyRings, 3, (some .int)),
  (yX9_meetingDay, cX9_meetingDay, 10, (some .int)),
  (yX9_longestGoing, cX9_longestGoing, 3, (some .int)),
  (yX10_init, cX10_init, 3, none),
  (yX10_copyFrom, cX10_copyFrom, 2, none),
  (yX10_goBy, cX10_goBy, 5, none),
  (yX10_goDown, cX10_goDown, 3, none),
  (yX10_comeNearer, cX10_comeNearer, 6, none),
  (yX10_gives, cX10_gives, 6, (some .int)),
  (yX10_detail, cX10_detail, 4, (some .int)),
  (yX10_month, cX10_month, 1, (some .int)),
  (yX10_lasts, cX10_lasts, 5, (some .int)),
  (yX10_lastsByKind, cX10_lastsByKind, 6, (some .int)),
  (yX10_stays, cX10_stays, 2, (some .boolean)),
  (yX10_waitsForMore, cX10_waitsForMore, 3, (some .boolean)),
  (yX10_leaveAlone, cX10_leaveAlone, 4, none),
  (yX11_init, cX11_init, 2, none),
  (yX11_well, cX11_well, 1, (some .int)),
  (yX11_going, cX11_going, 6, (some .int)),
  (yX11_set, cX11_set, 6, (some .int)),
  (yX11_ofWell, cX11_ofWell, 4, (some .int)),
  (yX11_goings, cX11_goings, 8, (some .int)),
  (yX11_thing, cX11_thing, 3, (some .int)),
  (yX11_ofThing, cX11_ofThing, 3, (some .int)),
  (yX11_as, cX11_as, 3, (some .int)),
  (yX11_let, cX11_let, 3, (some .int)),
  (yX11_fish, cX11_fish, 3, (some .int)),
  (yX11_feed, cX11_feed, 5, (some .int)),
  (yX11_text, cX11_text, 4, (some .int)),
  (yX11_law, cX11_law, 6, (some .int)),
  (yX11_days, cX11_days, 2, (some .int)),
  (yX11_floods, cX11_floods, 3, (some .int)),
  (yX11_flood, cX11_flood, 5, none),
  (yX11_then, cX11_then, 4, (some .int)),
  (yX11_in, cX11_in, 3, (some .int)),
  (yX11_seen, cX11_seen, 5, (some .int)),
  (yX11_round, cX11_round, 5, (some .int)),
  (yX11_soon, cX11_soon, 4, (some .int)),
  (yX11_cheap, cX11_cheap, 4, (some .int)),
  (yX11_rings, cX11_rings, 2, (some .int)),
  (yX11_meet, cX11_meet, 4, (some .int)),
  (yX11_tenth, cX11_tenth, 2, (some .int)),
  (yX11_find, cX11_find, 4, (some .int)),
  (yX11_forget, cX11_forget, 2, (some .int)),
  (yX11_agrees, cX11_agrees, 2, (some .int)),
  (yX11_belows, cX11_belows, 4, (some .int)),
  (yX11_cork, cX11_cork, 6, (some .int)),
  (yX11_seed, cX11_seed, 3, (some .int)),
  (yX11_voice, cX11_voice, 5, (some .int)),
  (yX11_trace, cX11_trace, 2, (some .int)),
  (yX11_sheet, cX11_sheet, 5, (some .int)),
  (yX11_put, cX11_put, 5, (some .int)),
  (yX11_move, cX11_move, 8, (some .int)),
  (yX11_image, cX11_image, 1, (some .int)),
  (yX11_restore, cX11_restore, 1, (some .int)),
  (yX11_tell, cX11_tell, 2, (some .int)),
  (yX11_check, cX11_check, 4, (some .int)),
  (yX11_count, cX11_count, 2, (some .int)),
  (yX11_told, cX11_told, 2, (some .int)),
  (yX11_error, cX11_error, 2, (some .int)),
  (yX11_sheetAt, cX11_sheetAt, 2, (Option.some (Jvm.ClassFile.FieldType.object "NineWells$Sheet"))),
  (yX11_within, cX11_within, 3, (some .boolean)),
  (yX11_isKind, cX11_isKind, 1, (some .boolean)),
  (yX11_isUse, cX11_isUse, 1, (some .boolean)),
  (yX11_isDetail, cX11_isDetail, 1, (some .boolean)),
  (yX11_isUnder, cX11_isUnder, 4, (some .boolean)),
  (yX11_pick, cX11_pick, 2, (some .int)),
  (yX11_lay, cX11_lay, 3, none),
  (yX11_copyRow, cX11_copyRow, 2, none),
  (yX12_init, cX12_init, 1, none),
  (yX12_finds, cX12_finds, 2, (some .int)),
  (yX12_isIn, cX12_isIn, 6, (some .boolean)),
  (yX12_held, cX12_held, 3, (some .int)),
  (yX12_copies, cX12_copies, 3, none),
  (yX12_isWell, cX12_isWell, 2, (some .boolean)),
  (yX12_isThing, cX12_isThing, 2, (some .boolean)),
  (yX12_aWell, cX12_aWell, 3, (some .int)),
  (yX12_aThing, cX12_aThing, 3, (some .int)),
  (yX12_here, cX12_here, 1, (some .int)),
  (yX12_wrong, cX12_wrong, 1, (some .int)),
  (yX12_takes, cX12_takes, 2, (some .boolean)),
  (yX12_nameOf, cX12_nameOf, 2, (some .int)),
  (yX12_either, cX12_either, 3, (some .int)),
  (yX12_both, cX12_both, 3, (some .int)),
  (yX12_compared, cX12_compared, 4, (some .int)),
  (yX12_sum, cX12_sum, 4, (some .int)),
  (yX12_product, cX12_product, 4, (some .int)),
  (yX12_unit, cX12_unit, 5, (some .int)),
  (yX12_worked, cX12_worked, 5, (some .int)),
  (yX12_feed, cX12_feed, 5, (some .int)),
  (yX12_text, cX12_text, 5, (some .int)),
  (yX12_gives, cX12_gives, 7, (some .int)),
  (yX12_law, cX12_law, 6, (some .int)),
  (yX12_well, cX12_well, 2, (some .int)),
  (yX12_mayGo, cX12_mayGo, 3, (some .boolean)),
  (yX12_leads, cX12_leads, 4, none),
  (yX12_going, cX12_going, 5, (some .int)),
  (yX12_set, cX12_set, 5, (some .int)),
  (yX12_thingsIn, cX12_thingsIn, 5, (some .int)),
  (yX12_ofWell, cX12_ofWell, 3, (some .int)),
  (yX12_goings, cX12_goings, 3, (some .int)),
  (yX12_thing, cX12_thing, 4, (some .int)),
  (yX12_many, cX12_many, 3, (some .int)),
  (yX12_month, cX12_month, 1, (some .int)),
  (yX12_lasts, cX12_lasts, 8, (some .int)),
  (yX12_stays, cX12_stays, 6, (some .boolean)),
  (yX12_ofIt, cX12_ofIt, 5, (some .int)),
  (yX12_ofThing, cX12_ofThing, 3, (some .int)),
  (yX12_isOf, cX12_isOf, 2, (some .boolean)),
  (yX12_as, cX12_as, 3, (some .int)),
  (yX12_itsKind, cX12_itsKind, 2, (some .int)),
  (yX12_puts, cX12_puts, 5, none),
  (yX12_isNow, cX12_isNow, 2, (some .int)),
  (yX12_let, cX12_let, 3, (some .int)),
  (yX12_fish, cX12_fish, 3, (some .int)),
  (yX12_goesUp, cX12_goesUp, 6, none),
  (yX12_goesBy, cX12_goesBy, 4, none),
  (yX12_goesOn, cX12_goesOn, 4, none),
  (yX12_days, cX12_days, 2, (some .int)),
  (yX12_drawn, cX12_drawn, 1, (some .int)),
  (yX12_floods, cX12_floods, 5, (some .int)),
  (yX12_isAhead, cX12_isAhead, 1, (some .boolean)),
  (yX12_ahead, cX12_ahead, 2, none),
  (yX12_then, cX12_then, 4, (some .int)),
  (yX12_in, cX12_in, 3, (some .int)),
  (yX12_inWhich, cX12_inWhich, 2, (some .int)),
  (yX12_seen, cX12_seen, 5, (some .int)),
  (yX12_round, cX12_round, 5, (some .int)),
  (yX12_least, cX12_least, 10, (some .int)),
  (yX12_itsWell, cX12_itsWell, 3, (some .int)),
  (yX12_soon, cX12_soon, 4, (some .int)),
  (yX12_cheap, cX12_cheap, 4, (some .int)),
  (yX12_ringOf, cX12_ringOf, 4, (some .int)),
  (yX12_rings, cX12_rings, 9, (some .int)),
  (yX12_walk, cX12_walk, 8, (some .int)),
  (yX12_meet, cX12_meet, 5, (some .int)),
  (yX12_tenth, cX12_tenth, 3, (some .int)),
  (yX12_find, cX12_find, 5, (some .int)),
  (yX12_forget, cX12_forget, 2, (some .int)),
  (yX12_isSo, cX12_isSo, 5, (some .boolean)),
  (yX12_agrees, cX12_agrees, 2, (some .int)),
  (yX12_areSo, cX12_areSo, 5, (some .boolean)),
  (yX12_belows, cX12_belows, 9, (some .int)),
  (yX12_cork, cX12_cork, 11, (some .int)),
  (yX12_seed, cX12_seed, 3, (some .int)),
  (yX12_ran, cX12_ran, 2, none),
  (yX12_above, cX12_above, 1, (some .int)),
  (yX12_sinks, cX12_sinks, 3, (some .int)),
  (yX12_goes, cX12_goes, 4, (some .int)),
  (yX12_waitsFor, cX12_waitsFor, 3, (some .int)),
  (yX12_tells, cX12_tells, 4, (some .int)),
  (yX12_voice, cX12_voice, 5, (some .int)),
  (yX12_trace, cX12_trace, 2, (some .int)),
  (yX12_isSheet, cX12_isSheet, 1, (some .boolean)),
  (yX12_sheet, cX12_sheet, 5, (some .int)),
  (yX12_put, cX12_put, 4, (some .int)),
  (yX12_move, cX12_move, 7, (some .int)),
  (yX12_image, cX12_image, 1, (some .int)),
  (yX12_restore, cX12_restore, 1, (some .int)),
  (yX12_tell, cX12_tell, 2, (some .int)),
  (yX12_check, cX12_check, 4, (some .int)),
  (yX12_manyOut, cX12_manyOut, 3, (some .int)),
  (yX12_count, cX12_count, 2, (some .int)),
  (yX12_told, cX12_told, 2, (some .int)),
  (yJ6_bitCount_0f7a4, cJ6_bitCount_0f7a4, 1, (some .int)),
  (yJ9_max_7cf53, cJ9_max_7cf53, 2, (some .int)),
  (yJ9_min_7cf53, cJ9_min_7cf53, 2, (some .int)),
  (yL_law, code, 4, (some .boolean))]
/-- a method: kind (0 of an object, 1 static, 2 constructor), how many parameters, places of its words in lw_tbl -/
def mMr : List (Nat × Nat × Nat × Nat × Nat) := [(2, 0, 293, 0, 70), (0, 5, 799, 800, 70), (0, 3, 811, 18, 70), (0, 1, 826, 827, 70), (0, 1, 822, 823, 70), (2, 0, 87, 0, 61), (0, 1, 893, 894, 61), (0, 0, 681, 682, 61), (2, 0, 93, 0, 62), (0, 1, 897, 898, 62), (0, 3, 773, 774, 62), (0, 2, 786, 787, 62), (0, 1, 805, 806, 62), (2, 1, 271, 0, 69), (0, 1, 592, 593, 69), (0, 2, 597, 7, 69), (0, 1, 601, 8, 69), (0, 1, 624, 12, 69), (0, 1, 628, 13, 69), (0, 0, 612, 10, 69), (0, 0, 605, 9, 69), (1, 1, 608, 0, 69), (0, 1, 620, 11, 69), (1, 1, 631, 0, 69), (2, 1, 132, 0, 64), (0, 1, 903, 904, 64), (0, 1, 580, 581, 64), (2, 0, 345, 0, 72), (0, 2, 868, 869, 72), (0, 2, 876, 877, 72), (0, 2, 885, 886, 72), (2, 0, 114, 0, 63), (0, 1, 634, 635, 63), (0, 1, 615, 616, 63), (0, 4, 535, 536, 63), (1, 5, 540, 0, 63), (1, 3, 544, 0, 63), (2, 0, 212, 0, 68), (0, 1, 699, 700, 68), (0, 1, 487, 488, 68), (0, 2, 474, 475, 68), (0, 4, 479, 480, 68), (0, 1, 498, 499, 68), (0, 2, 455, 456, 68), (0, 3, 515, 516, 68), (0, 0, 658, 659, 68), (0, 0, 924, 925, 68), (2, 0, 320, 0, 71), (0, 5, 840, 841, 71), (0, 4, 845, 19, 71), (1, 2, 848, 0, 71), (0, 1, 856, 20, 71), (2, 0, 183, 0, 67), (0, 1, 694, 695, 67), (0, 1, 424, 425, 67), (0, 0, 411, 412, 67), (0, 2, 428, 429, 67), (0, 3, 415, 416, 67), (0, 1, 436, 437, 67), (0, 1, 451, 452, 67), (0, 2, 791, 792, 67), (0, 4, 725, 726, 67), (0, 1, 745, 17, 67), (0, 0, 740, 741, 67), (0, 0, 748, 749, 67), (0, 2, 756, 757, 67), (0, 0, 765, 766, 67), (2, 2, 177, 0, 66), (0, 1, 690, 691, 66), (0, 1, 654, 655, 66), (0, 1, 663, 14, 66), (0, 1, 668, 15, 66), (0, 5, 531, 532, 66), (0, 2, 494, 495, 66), (0, 0, 527, 4, 66), (0, 1, 506, 2, 66), (0, 4, 510, 3, 66), (0, 1, 551, 5, 66), (0, 1, 555, 6, 66), (0, 2, 717, 718, 66), (2, 0, 79, 0, 60), (0, 0, 396, 397, 60), (0, 3, 420, 421, 60), (0, 3, 442, 443, 60), (0, 2, 447, 448, 60), (0, 1, 459, 460, 60), (0, 2, 467, 468, 60), (0, 2, 483, 484, 60), (0, 2, 558, 559, 60), (0, 2, 567, 568, 60), (0, 1, 572, 573, 60), (0, 2, 576, 577, 60), (0, 1, 585, 586, 60), (0, 5, 645, 646, 60), (0, 1, 650, 651, 60), (0, 1, 673, 674, 60), (0, 0, 678, 16, 60), (0, 3, 686, 687, 60), (0, 2, 704, 705, 60), (0, 3, 708, 709, 60), (0, 2, 713, 714, 60), (0, 3, 721, 722, 60), (0, 3, 732, 733, 60), (0, 1, 736, 737, 60), (0, 2, 752, 753, 60), (0, 0, 761, 762, 60), (0, 3, 769, 770, 60), (0, 0, 778, 779, 60), (0, 1, 782, 783, 60), (0, 3, 795, 796, 60), (0, 4, 818, 819, 60), (0, 1, 832, 833, 60), (0, 3, 836, 837, 60), (0, 1, 860, 861, 60), (0, 3, 864, 865, 60), (0, 3, 872, 873, 60), (0, 5, 881, 882, 60), (0, 0, 889, 890, 60), (0, 0, 908, 909, 60), (0, 1, 912, 913, 60), (0, 1, 916, 917, 60), (0, 1, 920, 921, 60), (0, 1, 928, 929, 60), (0, 1, 401, 0, 60), (0, 1, 464, 1, 60), (1, 3, 433, 0, 60), (1, 1, 471, 0, 60), (1, 1, 589, 0, 60), (1, 1, 491, 0, 60), (1, 2, 562, 0, 60), (1, 2, 404, 0, 60), (1, 3, 407, 0, 60), (1, 2, 638, 0, 60), (2, 0, 934, 0, 73), (0, 1, 1012, 21, 73), (1, 3, 1008, 0, 73), (1, 3, 1075, 0, 73), (1, 2, 1227, 0, 73), (0, 1, 1087, 34, 73), (0, 1, 1138, 38, 73), (1, 3, 1146, 0, 73), (1, 3, 1117, 0, 73), (0, 0, 1050, 29, 73), (0, 0, 1054, 30, 73), (0, 1, 1058, 31, 73), (0, 1, 1062, 32, 73), (0, 0, 1026, 23, 73), (0, 0, 1030, 24, 73), (0, 0, 1034, 25, 73), (0, 0, 1038, 26, 73), (0, 0, 1042, 27, 73), (0, 0, 1046, 28, 73), (0, 3, 1022, 22, 73), (0, 2, 1003, 1004, 73), (0, 1, 1017, 1018, 73), (0, 5, 1072, 33, 73), (0, 5, 1067, 1068, 73), (0, 0, 1078, 1079, 73), (0, 2, 1091, 35, 73), (0, 3, 1101, 37, 73), (0, 3, 1082, 1083, 73), (0, 3, 1104, 1105, 73), (1, 3, 1114, 0, 73), (0, 2, 1109, 1110, 73), (0, 1, 1120, 1121, 73), (0, 2, 1128, 1129, 73), (1, 1, 1153, 0, 73), (1, 1, 1156, 0, 73), (0, 2, 1150, 40, 73), (1, 2, 1159, 0, 73), (0, 3, 1143, 39, 73), (0, 2, 1133, 1134, 73), (1, 2, 1170, 0, 73), (0, 2, 1162, 1163, 73), (0, 1, 1167, 41, 73), (1, 5, 1181, 0, 73), (0, 1, 1178, 42, 73), (0, 2, 1173, 1174, 73), (0, 1, 1184, 1185, 73), (0, 2, 1202, 45, 73), (0, 1, 1198, 44, 73), (0, 2, 1194, 43, 73), (0, 1, 1188, 1189, 73), (0, 0, 1211, 46, 73), (0, 1, 1206, 1207, 73), (1, 1, 1219, 0, 73), (0, 1, 1224, 47, 73), (0, 3, 1215, 1216, 73), (0, 2, 1230, 1231, 73), (1, 2, 1238, 0, 73), (0, 3, 1234, 1235, 73), (0, 2, 1241, 1242, 73), (0, 4, 1250, 48, 73), (0, 2, 1097, 36, 73), (0, 3, 1245, 1246, 73), (0, 3, 1254, 1255, 73), (0, 1, 1263, 49, 73), (0, 1, 1258, 1259, 73), (0, 5, 1271, 50, 73), (0, 2, 1266, 1267, 73), (0, 0, 1274, 1275, 73), (0, 3, 1278, 1279, 73), (0, 0, 1282, 1283, 73), (0, 4, 1291, 51, 73), (0, 1, 1286, 1287, 73), (0, 3, 1300, 52, 73), (0, 3, 1294, 1295, 73), (0, 4, 1303, 1304, 73), (0, 1, 1307, 1308, 73), (0, 1, 1320, 54, 73), (1, 1, 1323, 0, 73), (0, 2, 1316, 53, 73), (0, 2, 1327, 55, 73), (0, 2, 1331, 56, 73), (0, 2, 1335, 57, 73), (0, 3, 1311, 1312, 73), (0, 1, 1338, 1339, 73), (1, 1, 1124, 0, 73), (0, 3, 1342, 1343, 73), (0, 3, 1346, 1347, 73), (0, 5, 1350, 1351, 73), (0, 0, 1354, 1355, 73), (0, 0, 1358, 1359, 73), (0, 1, 1362, 1363, 73), (0, 1, 1366, 1367, 73), (0, 0, 1375, 58, 73), (0, 1, 1370, 1371, 73), (0, 1, 1378, 1379, 73), (1, 1, 520, 0, 74), (1, 2, 136, 0, 65), (1, 2, 547, 0, 65), (1, 1, 0, 0, 0)]
/-- what a method makes at most: cells, slots -/
def mMc (k : Nat) : Nat × Nat := match k with
  | 0 => (6, 50)
  | 5 => (14, 350)
  | 8 => (3, 36)
  | 13 => (3, 103)
  | 24 => (1, 50)
  | 27 => (1, 40)
  | 31 => (2, 100)
  | 37 => (6, 60)
  | 47 => (1, 40)
  | 52 => (4, 36)
  | 67 => (12, 108)
  | 80 => (92, 1440)
  | 133 => (12, 1236)
  | 231 => (106, 2708)
  | _ => (0, 0)
/-- a method's class, by its number in mCl -/
def mcNl (k : Nat) : Nat := ([0, 0, 0, 0, 0, 1, 1, 1, 2, 2, 2, 2, 2, 3, 3, 3, 3, 3, 3, 3, 3, 3, 3, 3, 4, 4, 4, 5, 5, 5, 5, 6, 6, 6, 6, 6, 6, 7, 7, 7, 7, 7, 7, 7, 7, 7, 7, 8, 8, 8, 8, 8, 9, 9, 9, 9, 9, 9, 9, 9, 9, 9, 9, 9, 9, 9, 9, 10, 10, 10, 10, 10, 10, 10, 10, 10, 10, 10, 10, 10, 11, 11, 11, 11, 11, 11, 11, 11, 11, 11, 11, 11, 11, 11, 11, 11, 11, 11, 11, 11, 11, 11, 11, 11, 11, 11, 11, 11, 11, 11, 11, 11, 11, 11, 11, 11, 11, 11, 11, 11, 11, 11, 11, 11, 11, 11, 11, 11, 11, 11, 11, 11, 11, 12, 12, 12, 12, 12, 12, 12, 12, 12, 12, 12, 12, 12, 12, 12, 12, 12, 12, 12, 12, 12, 12, 12, 12, 12, 12, 12, 12, 12, 12, 12, 12, 12, 12, 12, 12, 12, 12, 12, 12, 12, 12, 12, 12, 12, 12, 12, 12, 12, 12, 12, 12, 12, 12, 12, 12, 12, 12, 12, 12, 12, 12, 12, 12, 12, 12, 12, 12, 12, 12, 12, 12, 12, 12, 12, 12, 12, 12, 12, 12, 12, 12, 12, 12, 12, 12, 12, 12, 12, 12, 12, 12, 12, 12, 12, 99, 99, 99, 99] : List Nat).getD k 99
