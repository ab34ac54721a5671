/-! ===== BEGIN printed: names, fields, word lists, decode rows ===== -/
def RX0 : String := "PileTickets$Forecast"
def TX0 : u_T := fun k => match k with
  | _ => ("PileTickets$Forecast", "ends", "[I", true)
def tyX0 : Nat → FieldType := fun k => match k with
  | _ => .array .int
abbrev wsX00 : List Cond := u_ws RX0 TX0 1
theorem nmX0 : ∀ a, a < 1 → ∀ b, b < 1 → a ≠ b → (TX0 a).2.1 ≠ (TX0 b).2.1 := by decide +kernel
theorem tyX0_ok : ∀ k, k < 1 → parseFieldDescriptor (TX0 k).2.2.1 = some (tyX0 k) := by decide +kernel
abbrev cX0_init : ByteArray := prog_2_method_1_code
def yX0_init : MethodName := ⟨RX0, "<init>", "()V"⟩
abbrev cX0_lateByDropping : ByteArray := prog_2_method_2_code
def yX0_lateByDropping : MethodName := ⟨RX0, "lateByDropping", "(LPileTickets$House;LPileTickets$Line;)I"⟩
abbrev cX0_longestOf : ByteArray := prog_2_method_3_code
def yX0_longestOf : MethodName := ⟨RX0, "longestOf", "(LPileTickets$House;LPileTickets$Line;I)I"⟩
abbrev cX0_lateBySets : ByteArray := prog_2_method_4_code
def yX0_lateBySets : MethodName := ⟨RX0, "lateBySets", "(LPileTickets$House;LPileTickets$Line;)I"⟩
def RX1 : String := "PileTickets$History"
def TX1 : u_T := fun k => match k with
  | 0 => ("PileTickets$History", "states", "[LPileTickets$House;", true)
  | 1 => ("PileTickets$History", "oldest", "I", false)
  | _ => ("PileTickets$History", "size", "I", false)
def tyX1 : Nat → FieldType := fun k => match k with
  | 0 => .array (.object "PileTickets$House")
  | 1 => .int
  | _ => .int
abbrev wsX10 : List Cond := u_ws RX1 TX1 3
theorem nmX1 : ∀ a, a < 3 → ∀ b, b < 3 → a ≠ b → (TX1 a).2.1 ≠ (TX1 b).2.1 := by decide +kernel
theorem tyX1_ok : ∀ k, k < 3 → parseFieldDescriptor (TX1 k).2.2.1 = some (tyX1 k) := by decide +kernel
abbrev cX1_init : ByteArray := prog_3_method_1_code
def yX1_init : MethodName := ⟨RX1, "<init>", "()V"⟩
abbrev cX1_save : ByteArray := prog_3_method_2_code
def yX1_save : MethodName := ⟨RX1, "save", "(LPileTickets$House;)V"⟩
abbrev cX1_restore : ByteArray := prog_3_method_3_code
def yX1_restore : MethodName := ⟨RX1, "restore", "(LPileTickets$House;)V"⟩
def RX2 : String := "PileTickets$House"
def TX2 : u_T := fun k => match k with
  | 0 => ("PileTickets$House", "piles", "[LPileTickets$Pile;", true)
  | 1 => ("PileTickets$House", "machines", "[LPileTickets$Machine;", true)
  | 2 => ("PileTickets$House", "settings", "[I", true)
  | 3 => ("PileTickets$House", "clock", "I", false)
  | 4 => ("PileTickets$House", "takenIn", "I", false)
  | 5 => ("PileTickets$House", "handedOut", "I", false)
  | 6 => ("PileTickets$House", "shelved", "I", false)
  | 7 => ("PileTickets$House", "shelvedLate", "I", false)
  | 8 => ("PileTickets$House", "fees", "I", false)
  | _ => ("PileTickets$House", "refused", "I", false)
def tyX2 : Nat → FieldType := fun k => match k with
  | 0 => .array (.object "PileTickets$Pile")
  | 1 => .array (.object "PileTickets$Machine")
  | 2 => .array .int
  | 3 => .int
  | 4 => .int
  | 5 => .int
  | 6 => .int
  | 7 => .int
  | 8 => .int
  | _ => .int
abbrev wsX20 : List Cond := u_ws RX2 TX2 10
theorem nmX2 : ∀ a, a < 10 → ∀ b, b < 10 → a ≠ b → (TX2 a).2.1 ≠ (TX2 b).2.1 := by decide +kernel
theorem tyX2_ok : ∀ k, k < 10 → parseFieldDescriptor (TX2 k).2.2.1 = some (tyX2 k) := by decide +kernel
abbrev cX2_init : ByteArray := prog_4_method_1_code
def yX2_init : MethodName := ⟨RX2, "<init>", "()V"⟩
abbrev cX2_copyFrom : ByteArray := prog_4_method_2_code
def yX2_copyFrom : MethodName := ⟨RX2, "copyFrom", "(LPileTickets$House;)V"⟩
abbrev cX2_admit : ByteArray := prog_4_method_3_code
def yX2_admit : MethodName := ⟨RX2, "adm\u0069t", "(IIIIZ)I"⟩
abbrev cX2_freePlace : ByteArray := prog_4_method_4_code
def yX2_freePlace : MethodName := ⟨RX2, "freePlace", "()I"⟩
abbrev cX2_give : ByteArray := prog_4_method_5_code
def yX2_give : MethodName := ⟨RX2, "give", "(II)I"⟩
abbrev cX2_placeOnShelf : ByteArray := prog_4_method_6_code
def yX2_placeOnShelf : MethodName := ⟨RX2, "placeOnShelf", "(I)I"⟩
abbrev cX2_freeShelf : ByteArray := prog_4_method_7_code
def yX2_freeShelf : MethodName := ⟨RX2, "freeShelf", "()I"⟩
abbrev cX2_pilesThat : ByteArray := prog_4_method_8_code
def yX2_pilesThat : MethodName := ⟨RX2, "pilesThat", "(I)I"⟩
abbrev cX2_pilesIn : ByteArray := prog_4_method_9_code
def yX2_pilesIn : MethodName := ⟨RX2, "pilesIn", "(I)I"⟩
abbrev cX2_weightIn : ByteArray := prog_4_method_10_code
def yX2_weightIn : MethodName := ⟨RX2, "weightIn", "(I)I"⟩
abbrev cX2_colourIn : ByteArray := prog_4_method_11_code
def yX2_colourIn : MethodName := ⟨RX2, "colourIn", "(I)I"⟩
abbrev cX2_firstIn : ByteArray := prog_4_method_12_code
def yX2_firstIn : MethodName := ⟨RX2, "firstIn", "(I)I"⟩
abbrev cX2_start : ByteArray := prog_4_method_13_code
def yX2_start : MethodName := ⟨RX2, "start", "(II)V"⟩
abbrev cX2_emptyEndedMachines : ByteArray := prog_4_method_14_code
def yX2_emptyEndedMachines : MethodName := ⟨RX2, "emptyEndedMachines", "()I"⟩
abbrev cX2_emptyMachine : ByteArray := prog_4_method_15_code
def yX2_emptyMachine : MethodName := ⟨RX2, "emptyMachine", "(I)I"⟩
abbrev cX2_putOnShelf : ByteArray := prog_4_method_16_code
def yX2_putOnShelf : MethodName := ⟨RX2, "putOnShelf", "(LPileTickets$Pile;I)V"⟩
def RX3 : String := "PileTickets$Line"
def TX3 : u_T := fun k => match k with
  | 0 => ("PileTickets$Line", "places", "[I", true)
  | _ => ("PileTickets$Line", "length", "I", false)
def tyX3 : Nat → FieldType := fun k => match k with
  | 0 => .array .int
  | _ => .int
abbrev wsX30 : List Cond := u_ws RX3 TX3 2
theorem nmX3 : ∀ a, a < 2 → ∀ b, b < 2 → a ≠ b → (TX3 a).2.1 ≠ (TX3 b).2.1 := by decide +kernel
theorem tyX3_ok : ∀ k, k < 2 → parseFieldDescriptor (TX3 k).2.2.1 = some (tyX3 k) := by decide +kernel
abbrev cX3_init : ByteArray := prog_5_method_1_code
def yX3_init : MethodName := ⟨RX3, "<init>", "()V"⟩
abbrev cX3_arrange : ByteArray := prog_5_method_2_code
def yX3_arrange : MethodName := ⟨RX3, "arrange", "(LPileTickets$House;Z)V"⟩
abbrev cX3_insert : ByteArray := prog_5_method_3_code
def yX3_insert : MethodName := ⟨RX3, "insert", "(LPileTickets$House;IZ)V"⟩
abbrev cX3_rankOf : ByteArray := prog_5_method_4_code
def yX3_rankOf : MethodName := ⟨RX3, "rankOf", "(I)I"⟩
abbrev cX3_placesForRoom : ByteArray := prog_5_method_5_code
def yX3_placesForRoom : MethodName := ⟨RX3, "placesForRoom", "(LPileTickets$House;I)I"⟩
def RX4 : String := "PileTickets$Machine"
def TX4 : u_T := fun k => match k with
  | 0 => ("PileTickets$Machine", "room", "I", false)
  | 1 => ("PileTickets$Machine", "end", "I", false)
  | _ => ("PileTickets$Machine", "loads", "I", false)
def tyX4 : Nat → FieldType := fun k => match k with
  | 0 => .int
  | 1 => .int
  | _ => .int
abbrev wsX40 : List Cond := u_ws RX4 TX4 3
theorem nmX4 : ∀ a, a < 3 → ∀ b, b < 3 → a ≠ b → (TX4 a).2.1 ≠ (TX4 b).2.1 := by decide +kernel
theorem tyX4_ok : ∀ k, k < 3 → parseFieldDescriptor (TX4 k).2.2.1 = some (tyX4 k) := by decide +kernel
abbrev cX4_init : ByteArray := prog_6_method_1_code
def yX4_init : MethodName := ⟨RX4, "<init>", "(I)V"⟩
abbrev cX4_isIdle : ByteArray := prog_6_method_2_code
def yX4_isIdle : MethodName := ⟨RX4, "isIdle", "()Z"⟩
abbrev cX4_copyFrom : ByteArray := prog_6_method_3_code
def yX4_copyFrom : MethodName := ⟨RX4, "copyFrom", "(LPileTickets$Machine;)V"⟩
def RX5 : String := "PileTickets$Pile"
def TX5 : u_T := fun k => match k with
  | 0 => ("PileTickets$Pile", "ticket", "I", false)
  | 1 => ("PileTickets$Pile", "colour", "I", false)
  | 2 => ("PileTickets$Pile", "weight", "I", false)
  | 3 => ("PileTickets$Pile", "time", "I", false)
  | 4 => ("PileTickets$Pile", "promise", "I", false)
  | 5 => ("PileTickets$Pile", "isRush", "Z", false)
  | 6 => ("PileTickets$Pile", "state", "I", false)
  | 7 => ("PileTickets$Pile", "where", "I", false)
  | _ => ("PileTickets$Pile", "shelvedAt", "I", false)
def tyX5 : Nat → FieldType := fun k => match k with
  | 0 => .int
  | 1 => .int
  | 2 => .int
  | 3 => .int
  | 4 => .int
  | 5 => .boolean
  | 6 => .int
  | 7 => .int
  | _ => .int
abbrev wsX50 : List Cond := u_ws RX5 TX5 9
theorem nmX5 : ∀ a, a < 9 → ∀ b, b < 9 → a ≠ b → (TX5 a).2.1 ≠ (TX5 b).2.1 := by decide +kernel
theorem tyX5_ok : ∀ k, k < 9 → parseFieldDescriptor (TX5 k).2.2.1 = some (tyX5 k) := by decide +kernel
abbrev cX5_init : ByteArray := prog_7_method_1_code
def yX5_init : MethodName := ⟨RX5, "<init>", "()V"⟩
abbrev cX5_isHere : ByteArray := prog_7_method_2_code
def yX5_isHere : MethodName := ⟨RX5, "isHere", "()Z"⟩
abbrev cX5_stands : ByteArray := prog_7_method_3_code
def yX5_stands : MethodName := ⟨RX5, "stands", "(II)Z"⟩
abbrev cX5_isLate : ByteArray := prog_7_method_4_code
def yX5_isLate : MethodName := ⟨RX5, "isLate", "()Z"⟩
abbrev cX5_feeAt : ByteArray := prog_7_method_5_code
def yX5_feeAt : MethodName := ⟨RX5, "feeAt", "(I)I"⟩
abbrev cX5_isAheadOf : ByteArray := prog_7_method_6_code
def yX5_isAheadOf : MethodName := ⟨RX5, "isAheadOf", "(LPileTickets$Pile;Z)Z"⟩
abbrev cX5_copyFrom : ByteArray := prog_7_method_7_code
def yX5_copyFrom : MethodName := ⟨RX5, "copyFrom", "(LPileTickets$Pile;)V"⟩
def RX6 : String := "PileTickets$Scanner"
def TX6 : u_T := fun k => match k with
  | 0 => ("PileTickets$Scanner", "part", "I", false)
  | 1 => ("PileTickets$Scanner", "colour", "I", false)
  | 2 => ("PileTickets$Scanner", "weight", "I", false)
  | 3 => ("PileTickets$Scanner", "time", "I", false)
  | _ => ("PileTickets$Scanner", "number", "I", false)
def tyX6 : Nat → FieldType := fun k => match k with
  | 0 => .int
  | 1 => .int
  | 2 => .int
  | 3 => .int
  | _ => .int
abbrev wsX60 : List Cond := u_ws RX6 TX6 5
theorem nmX6 : ∀ a, a < 5 → ∀ b, b < 5 → a ≠ b → (TX6 a).2.1 ≠ (TX6 b).2.1 := by decide +kernel
theorem tyX6_ok : ∀ k, k < 5 → parseFieldDescriptor (TX6 k).2.2.1 = some (tyX6 k) := by decide +kernel
abbrev cX6_init : ByteArray := prog_8_method_1_code
def yX6_init : MethodName := ⟨RX6, "<init>", "()V"⟩
def RX7 : String := "PileTickets$Text"
def TX7 : u_T := fun k => match k with
  | 0 => ("PileTickets$Text", "codes", "[I", true)
  | 1 => ("PileTickets$Text", "length", "I", false)
  | _ => ("PileTickets$Text", "scanner", "LPileTickets$Scanner;", true)
def tyX7 : Nat → FieldType := fun k => match k with
  | 0 => .array .int
  | 1 => .int
  | _ => .object "PileTickets$Scanner"
abbrev wsX70 : List Cond := u_ws RX7 TX7 3
theorem nmX7 : ∀ a, a < 3 → ∀ b, b < 3 → a ≠ b → (TX7 a).2.1 ≠ (TX7 b).2.1 := by decide +kernel
theorem tyX7_ok : ∀ k, k < 3 → parseFieldDescriptor (TX7 k).2.2.1 = some (tyX7 k) := by decide +kernel
abbrev cX7_init : ByteArray := prog_9_method_1_code
def yX7_init : MethodName := ⟨RX7, "<init>", "()V"⟩
def RX8 : String := "PileTickets"
def TX8 : u_T := fun k => match k with
  | 0 => ("PileTickets", "house", "LPileTickets$House;", true)
  | 1 => ("PileTickets", "slots", "[LPileTickets$House;", true)
  | 2 => ("PileTickets", "isKept", "[Z", true)
  | 3 => ("PileTickets", "history", "LPileTickets$History;", true)
  | 4 => ("PileTickets", "text", "LPileTickets$Text;", true)
  | 5 => ("PileTickets", "line", "LPileTickets$Line;", true)
  | _ => ("PileTickets", "forecast", "LPileTickets$Forecast;", true)
def tyX8 : Nat → FieldType := fun k => match k with
  | 0 => .object "PileTickets$House"
  | 1 => .array (.object "PileTickets$House")
  | 2 => .array .boolean
  | 3 => .object "PileTickets$History"
  | 4 => .object "PileTickets$Text"
  | 5 => .object "PileTickets$Line"
  | _ => .object "PileTickets$Forecast"
abbrev wsX80 : List Cond := u_ws RX8 TX8 7
theorem nmX8 : ∀ a, a < 7 → ∀ b, b < 7 → a ≠ b → (TX8 a).2.1 ≠ (TX8 b).2.1 := by decide +kernel
theorem tyX8_ok : ∀ k, k < 7 → parseFieldDescriptor (TX8 k).2.2.1 = some (tyX8 k) := by decide +kernel
abbrev cX8_init : ByteArray := prog_1_method_1_code
def yX8_init : MethodName := ⟨RX8, "<init>", "()V"⟩
abbrev cX8_takeIn : ByteArray := prog_1_method_2_code
def yX8_takeIn : MethodName := ⟨RX8, "takeIn", "(IIIIZ)I"⟩
abbrev cX8_handOut : ByteArray := prog_1_method_3_code
def yX8_handOut : MethodName := ⟨RX8, "handOut", "(II)I"⟩
abbrev cX8_rush : ByteArray := prog_1_method_4_code
def yX8_rush : MethodName := ⟨RX8, "rush", "(I)I"⟩
abbrev cX8_load : ByteArray := prog_1_method_5_code
def yX8_load : MethodName := ⟨RX8, "load", "(I)I"⟩
abbrev cX8_room : ByteArray := prog_1_method_6_code
def yX8_room : MethodName := ⟨RX8, "room", "(II)I"⟩
abbrev cX8_pass : ByteArray := prog_1_method_7_code
def yX8_pass : MethodName := ⟨RX8, "pass", "(I)I"⟩
abbrev cX8_set : ByteArray := prog_1_method_8_code
def yX8_set : MethodName := ⟨RX8, "set", "(II)I"⟩
abbrev cX8_fitsSetting : ByteArray := prog_1_method_9_code
def yX8_fitsSetting : MethodName := ⟨RX8, "fitsSetting", "(II)Z"⟩
abbrev cX8_undo : ByteArray := prog_1_method_16_code
def yX8_undo : MethodName := ⟨RX8, "undo", "()I"⟩
abbrev cX8_pileOf : ByteArray := prog_1_method_17_code
def yX8_pileOf : MethodName := ⟨RX8, "pileOf", "(II)I"⟩
abbrev cX8_rankOf : ByteArray := prog_1_method_18_code
def yX8_rankOf : MethodName := ⟨RX8, "rankOf", "(I)I"⟩
abbrev cX8_machineOf : ByteArray := prog_1_method_19_code
def yX8_machineOf : MethodName := ⟨RX8, "machineOf", "(II)I"⟩
abbrev cX8_shelf : ByteArray := prog_1_method_20_code
def yX8_shelf : MethodName := ⟨RX8, "shelf", "(I)I"⟩
abbrev cX8_count : ByteArray := prog_1_method_21_code
def yX8_count : MethodName := ⟨RX8, "count", "(I)I"⟩
abbrev cX8_setting : ByteArray := prog_1_method_22_code
def yX8_setting : MethodName := ⟨RX8, "setting", "(I)I"⟩
abbrev cX8_waiting : ByteArray := prog_1_method_23_code
def yX8_waiting : MethodName := ⟨RX8, "waiting", "(I)I"⟩
abbrev cX8_ifLoaded : ByteArray := prog_1_method_24_code
def yX8_ifLoaded : MethodName := ⟨RX8, "ifLoaded", "(I)I"⟩
abbrev cX8_endsIn : ByteArray := prog_1_method_25_code
def yX8_endsIn : MethodName := ⟨RX8, "endsIn", "()I"⟩
abbrev cX8_fewestLate : ByteArray := prog_1_method_26_code
def yX8_fewestLate : MethodName := ⟨RX8, "fewestLate", "(I)I"⟩
abbrev cX8_lateShare : ByteArray := prog_1_method_27_code
def yX8_lateShare : MethodName := ⟨RX8, "lateShare", "()D"⟩
def RX9 : String := "PileTicketsModel"
def TX9 : u_T := fun k => match k with
  | _ => ("", "", "", false)
def tyX9 : Nat → FieldType := fun k => match k with
  | _ => .int
abbrev wsX90 : List Cond := u_ws RX9 TX9 0
theorem nmX9 : ∀ a, a < 0 → ∀ b, b < 0 → a ≠ b → (TX9 a).2.1 ≠ (TX9 b).2.1 := by decide +kernel
theorem tyX9_ok : ∀ k, k < 0 → parseFieldDescriptor (TX9 k).2.2.1 = some (tyX9 k) := by decide +kernel
def RJ6 : String := "java/lang/Integer"
def TJ6 : u_T := fun k => match k with
  | _ => ("", "", "", false)
def tyJ6 : Nat → FieldType := fun k => match k with
  | _ => .int
abbrev wsJ60 : List Cond := u_ws RJ6 TJ6 0
theorem nmJ6 : ∀ a, a < 0 → ∀ b, b < 0 → a ≠ b → (TJ6 a).2.1 ≠ (TJ6 b).2.1 := by decide +kernel
theorem tyJ6_ok : ∀ k, k < 0 → parseFieldDescriptor (TJ6 k).2.2.1 = some (tyJ6 k) := by decide +kernel
abbrev cJ6_bitCount_0f7a4 : ByteArray := prog_16_method_49_code
def yJ6_bitCount_0f7a4 : MethodName := ⟨RJ6, "bitCount", "(I)I"⟩
def RJ9 : String := "java/lang/Math"
def TJ9 : u_T := fun k => match k with
  | _ => ("", "", "", false)
def tyJ9 : Nat → FieldType := fun k => match k with
  | _ => .int
abbrev wsJ90 : List Cond := u_ws RJ9 TJ9 0
theorem nmJ9 : ∀ a, a < 0 → ∀ b, b < 0 → a ≠ b → (TJ9 a).2.1 ≠ (TJ9 b).2.1 := by decide +kernel
theorem tyJ9_ok : ∀ k, k < 0 → parseFieldDescriptor (TJ9 k).2.2.1 = some (tyJ9 k) := by decide +kernel
abbrev cJ9_max_7cf53 : ByteArray := prog_17_method_65_code
def yJ9_max_7cf53 : MethodName := ⟨RJ9, "max", "(II)I"⟩
def RJ0 : String := "java/lang/String"
def TJ0 : u_T := fun k => match k with
  | _ => ("", "", "", false)
def tyJ0 : Nat → FieldType := fun k => match k with
  | _ => .int
abbrev wsJ00 : List Cond := u_ws RJ0 TJ0 0
theorem nmJ0 : ∀ a, a < 0 → ∀ b, b < 0 → a ≠ b → (TJ0 a).2.1 ≠ (TJ0 b).2.1 := by decide +kernel
theorem tyJ0_ok : ∀ k, k < 0 → parseFieldDescriptor (TJ0 k).2.2.1 = some (tyJ0 k) := by decide +kernel
def RJ10 : String := "java/lang/System"
def TJ10 : u_T := fun k => match k with
  | _ => ("", "", "", false)
def tyJ10 : Nat → FieldType := fun k => match k with
  | _ => .int
abbrev wsJ100 : List Cond := u_ws RJ10 TJ10 0
theorem nmJ10 : ∀ a, a < 0 → ∀ b, b < 0 → a ≠ b → (TJ10 a).2.1 ≠ (TJ10 b).2.1 := by decide +kernel
theorem tyJ10_ok : ∀ k, k < 0 → parseFieldDescriptor (TJ10 k).2.2.1 = some (tyJ10 k) := by decide +kernel
def RL : String := "PileTicketsLaw"
abbrev cL_cell : ByteArray := method_2_code
def yL_cell : MethodName := ⟨RL, "cell", "([II)I"⟩
abbrev cL_low : ByteArray := method_3_code
def yL_low : MethodName := ⟨RL, "low", "(II)I"⟩
abbrev cL_changes : ByteArray := method_4_code
def yL_changes : MethodName := ⟨RL, "changes", "(LPileTickets;III[I)I"⟩
abbrev cL_takes : ByteArray := method_5_code
def yL_takes : MethodName := ⟨RL, "takes", "(LPileTickets;IZ[I)I"⟩
abbrev cL_act : ByteArray := method_6_code
def yL_act : MethodName := ⟨RL, "act", "(LPileTickets;I[I)I"⟩
abbrev cL_areAlike : ByteArray := method_7_code
def yL_areAlike : MethodName := ⟨RL, "areAlike", "(LPileTickets;LPileTickets;)Z"⟩
abbrev cL_areSums : ByteArray := method_8_code
def yL_areSums : MethodName := ⟨RL, "areSums", "(LPileTickets;)Z"⟩
abbrev cL_areMachinesSo : ByteArray := method_9_code
def yL_areMachinesSo : MethodName := ⟨RL, "areMachinesSo", "(LPileTickets;)Z"⟩
abbrev cL_isOrderSo : ByteArray := method_10_code
def yL_isOrderSo : MethodName := ⟨RL, "isOrderSo", "(LPileTickets;I)Z"⟩
abbrev cL_law : ByteArray := code
def yL_law : MethodName := ⟨RL, "law", "([I)Z"⟩
