def RX0 : String := "SpongeClerks$Hunt"
def TX0 : u_T := fun k => match k with
  | 0 => ("SpongeClerks$Hunt", "office", "LSpongeClerks$Office;", true)
  | 1 => ("SpongeClerks$Hunt", "ways", "LSpongeClerks$Ways;", true)
  | 2 => ("SpongeClerks$Hunt", "now", "LSpongeClerks$State;", true)
  | 3 => ("SpongeClerks$Hunt", "trial", "LSpongeClerks$State;", true)
  | 4 => ("SpongeClerks$Hunt", "seen", "LSpongeClerks$Row;", true)
  | 5 => ("SpongeClerks$Hunt", "paths", "[I", true)
  | 6 => ("SpongeClerks$Hunt", "day", "I", false)
  | 7 => ("SpongeClerks$Hunt", "clerk", "I", false)
  | _ => ("SpongeClerks$Hunt", "left", "I", false)
def tyX0 : Nat → FieldType := fun k => match k with
  | 0 => .object "SpongeClerks$Office"
  | 1 => .object "SpongeClerks$Ways"
  | 2 => .object "SpongeClerks$State"
  | 3 => .object "SpongeClerks$State"
  | 4 => .object "SpongeClerks$Row"
  | 5 => .array .int
  | 6 => .int
  | 7 => .int
  | _ => .int
theorem nmX0 : ∀ a, a < 9 → ∀ b, b < 9 → a ≠ b → (TX0 a).2.1 ≠ (TX0 b).2.1 := by decide +kernel
theorem tyX0_ok : ∀ k, k < 9 → parseFieldDescriptor (TX0 k).2.2.1 = some (tyX0 k) := by decide +kernel
abbrev cX0_init : ByteArray := prog_2_method_1_code
def yX0_init : MethodName := ⟨RX0, "<init>", "(LSpongeClerks$Office;LSpongeClerks$Ways;LSpongeClerks$State;LSpongeClerks$State;LSpongeClerks$Row;)V"⟩
abbrev cX0_areRows : ByteArray := prog_2_method_2_code
def yX0_areRows : MethodName := ⟨RX0, "areRows", "(LSpongeClerks$Row;)Z"⟩
abbrev cX0_findSources : ByteArray := prog_2_method_3_code
def yX0_findSources : MethodName := ⟨RX0, "findSources", "(II)I"⟩
abbrev cX0_lastSeen : ByteArray := prog_2_method_4_code
def yX0_lastSeen : MethodName := ⟨RX0, "lastSeen", "()I"⟩
abbrev cX0_isSource : ByteArray := prog_2_method_5_code
def yX0_isSource : MethodName := ⟨RX0, "isSource", "(IIII)Z"⟩
abbrev cX0_isAsSeen : ByteArray := prog_2_method_6_code
def yX0_isAsSeen : MethodName := ⟨RX0, "isAsSeen", "(I)Z"⟩
abbrev cX0_findTelling : ByteArray := prog_2_method_7_code
def yX0_findTelling : MethodName := ⟨RX0, "findTelling", "(III)V"⟩
abbrev cX0_tracePath : ByteArray := prog_2_method_8_code
def yX0_tracePath : MethodName := ⟨RX0, "tracePath", "(IIII)V"⟩
abbrev cX0_pathCell : ByteArray := prog_2_method_9_code
def yX0_pathCell : MethodName := ⟨RX0, "pathCell", "(III)I"⟩
abbrev cX0_mostLeft : ByteArray := prog_2_method_10_code
def yX0_mostLeft : MethodName := ⟨RX0, "mostLeft", "(III)I"⟩
def RX1 : String := "SpongeClerks$Mill"
def TX1 : u_T := fun k => match k with
  | 0 => ("SpongeClerks$Mill", "office", "LSpongeClerks$Office;", true)
  | _ => ("SpongeClerks$Mill", "stack", "[I", true)
def tyX1 : Nat → FieldType := fun k => match k with
  | 0 => .object "SpongeClerks$Office"
  | _ => .array .int
theorem nmX1 : ∀ a, a < 2 → ∀ b, b < 2 → a ≠ b → (TX1 a).2.1 ≠ (TX1 b).2.1 := by decide +kernel
theorem tyX1_ok : ∀ k, k < 2 → parseFieldDescriptor (TX1 k).2.2.1 = some (tyX1 k) := by decide +kernel
abbrev cX1_init : ByteArray := prog_3_method_1_code
def yX1_init : MethodName := ⟨RX1, "<init>", "(LSpongeClerks$Office;)V"⟩
abbrev cX1_worth : ByteArray := prog_3_method_2_code
def yX1_worth : MethodName := ⟨RX1, "worth", "(LSpongeClerks$Row;LSpongeClerks$State;III)I"⟩
abbrev cX1_needsOf : ByteArray := prog_3_method_3_code
def yX1_needsOf : MethodName := ⟨RX1, "needsOf", "(I)I"⟩
abbrev cX1_look : ByteArray := prog_3_method_4_code
def yX1_look : MethodName := ⟨RX1, "look", "(ILSpongeClerks$State;III)I"⟩
abbrev cX1_turn : ByteArray := prog_3_method_5_code
def yX1_turn : MethodName := ⟨RX1, "turn", "(IILSpongeClerks$State;I)I"⟩
abbrev cX1_join : ByteArray := prog_3_method_6_code
def yX1_join : MethodName := ⟨RX1, "join", "(III)I"⟩
def RX2 : String := "SpongeClerks$Office"
def TX2 : u_T := fun k => match k with
  | 0 => ("SpongeClerks$Office", "open", "Z", false)
  | 1 => ("SpongeClerks$Office", "statements", "I", false)
  | 2 => ("SpongeClerks$Office", "seats", "I", false)
  | 3 => ("SpongeClerks$Office", "matters", "I", false)
  | 4 => ("SpongeClerks$Office", "clerks", "I", false)
  | 5 => ("SpongeClerks$Office", "hand", "I", false)
  | 6 => ("SpongeClerks$Office", "leaksTold", "Z", false)
  | 7 => ("SpongeClerks$Office", "shakesTold", "Z", false)
  | 8 => ("SpongeClerks$Office", "leaksByDay", "Z", false)
  | 9 => ("SpongeClerks$Office", "names", "[I", true)
  | 10 => ("SpongeClerks$Office", "rooms", "[I", true)
  | 11 => ("SpongeClerks$Office", "seatsAtFirst", "[I", true)
  | 12 => ("SpongeClerks$Office", "dropsAtFirst", "[I", true)
  | 13 => ("SpongeClerks$Office", "fullAtFirst", "[I", true)
  | 14 => ("SpongeClerks$Office", "leaks", "LSpongeClerks$Row;", true)
  | _ => ("SpongeClerks$Office", "shakes", "LSpongeClerks$Row;", true)
def tyX2 : Nat → FieldType := fun k => match k with
  | 0 => .boolean
  | 1 => .int
  | 2 => .int
  | 3 => .int
  | 4 => .int
  | 5 => .int
  | 6 => .boolean
  | 7 => .boolean
  | 8 => .boolean
  | 9 => .array .int
  | 10 => .array .int
  | 11 => .array .int
  | 12 => .array .int
  | 13 => .array .int
  | 14 => .object "SpongeClerks$Row"
  | _ => .object "SpongeClerks$Row"
theorem nmX2 : ∀ a, a < 16 → ∀ b, b < 16 → a ≠ b → (TX2 a).2.1 ≠ (TX2 b).2.1 := by decide +kernel
theorem tyX2_ok : ∀ k, k < 16 → parseFieldDescriptor (TX2 k).2.2.1 = some (tyX2 k) := by decide +kernel
abbrev cX2_init : ByteArray := prog_4_method_1_code
def yX2_init : MethodName := ⟨RX2, "<init>", "()V"⟩
abbrev cX2_begin : ByteArray := prog_4_method_2_code
def yX2_begin : MethodName := ⟨RX2, "begin", "()V"⟩
abbrev cX2_copyFrom : ByteArray := prog_4_method_3_code
def yX2_copyFrom : MethodName := ⟨RX2, "copyFrom", "(LSpongeClerks$Office;)V"⟩
abbrev cX2_isSeat : ByteArray := prog_4_method_4_code
def yX2_isSeat : MethodName := ⟨RX2, "isSeat", "(I)Z"⟩
abbrev cX2_isClerk : ByteArray := prog_4_method_5_code
def yX2_isClerk : MethodName := ⟨RX2, "isClerk", "(I)Z"⟩
abbrev cX2_isMatter : ByteArray := prog_4_method_6_code
def yX2_isMatter : MethodName := ⟨RX2, "isMatter", "(I)Z"⟩
abbrev cX2_areThere : ByteArray := prog_4_method_7_code
def yX2_areThere : MethodName := ⟨RX2, "areThere", "(II)Z"⟩
abbrev cX2_isTaken : ByteArray := prog_4_method_8_code
def yX2_isTaken : MethodName := ⟨RX2, "isTaken", "(I)Z"⟩
def RX3 : String := "SpongeClerks$Past"
def TX3 : u_T := fun k => match k with
  | 0 => ("SpongeClerks$Past", "states", "[LSpongeClerks$State;", true)
  | 1 => ("SpongeClerks$Past", "next", "I", false)
  | _ => ("SpongeClerks$Past", "count", "I", false)
def tyX3 : Nat → FieldType := fun k => match k with
  | 0 => .array (.object "SpongeClerks$State")
  | 1 => .int
  | _ => .int
theorem nmX3 : ∀ a, a < 3 → ∀ b, b < 3 → a ≠ b → (TX3 a).2.1 ≠ (TX3 b).2.1 := by decide +kernel
theorem tyX3_ok : ∀ k, k < 3 → parseFieldDescriptor (TX3 k).2.2.1 = some (tyX3 k) := by decide +kernel
abbrev cX3_init : ByteArray := prog_5_method_1_code
def yX3_init : MethodName := ⟨RX3, "<init>", "()V"⟩
abbrev cX3_clear : ByteArray := prog_5_method_2_code
def yX3_clear : MethodName := ⟨RX3, "clear", "()V"⟩
abbrev cX3_keep : ByteArray := prog_5_method_3_code
def yX3_keep : MethodName := ⟨RX3, "keep", "(LSpongeClerks$State;)V"⟩
abbrev cX3_goBack : ByteArray := prog_5_method_4_code
def yX3_goBack : MethodName := ⟨RX3, "goBack", "(LSpongeClerks$State;)Z"⟩
def RX4 : String := "SpongeClerks$Plans"
def TX4 : u_T := fun k => match k with
  | 0 => ("SpongeClerks$Plans", "office", "LSpongeClerks$Office;", true)
  | 1 => ("SpongeClerks$Plans", "ways", "LSpongeClerks$Ways;", true)
  | 2 => ("SpongeClerks$Plans", "now", "LSpongeClerks$State;", true)
  | 3 => ("SpongeClerks$Plans", "trial", "LSpongeClerks$State;", true)
  | 4 => ("SpongeClerks$Plans", "heldOf", "[I", true)
  | 5 => ("SpongeClerks$Plans", "deskOf", "[I", true)
  | 6 => ("SpongeClerks$Plans", "lessSeat", "I", false)
  | 7 => ("SpongeClerks$Plans", "moreSeat", "I", false)
  | _ => ("SpongeClerks$Plans", "fewest", "I", false)
def tyX4 : Nat → FieldType := fun k => match k with
  | 0 => .object "SpongeClerks$Office"
  | 1 => .object "SpongeClerks$Ways"
  | 2 => .object "SpongeClerks$State"
  | 3 => .object "SpongeClerks$State"
  | 4 => .array .int
  | 5 => .array .int
  | 6 => .int
  | 7 => .int
  | _ => .int
theorem nmX4 : ∀ a, a < 9 → ∀ b, b < 9 → a ≠ b → (TX4 a).2.1 ≠ (TX4 b).2.1 := by decide +kernel
theorem tyX4_ok : ∀ k, k < 9 → parseFieldDescriptor (TX4 k).2.2.1 = some (tyX4 k) := by decide +kernel
abbrev cX4_init : ByteArray := prog_6_method_1_code
def yX4_init : MethodName := ⟨RX4, "<init>", "(LSpongeClerks$Office;LSpongeClerks$Ways;LSpongeClerks$State;LSpongeClerks$State;)V"⟩
abbrev cX4_powerOf : ByteArray := prog_6_method_2_code
def yX4_powerOf : MethodName := ⟨RX4, "powerOf", "(I)I"⟩
abbrev cX4_roomOf : ByteArray := prog_6_method_3_code
def yX4_roomOf : MethodName := ⟨RX4, "roomOf", "(I)I"⟩
abbrev cX4_findDiscreet : ByteArray := prog_6_method_4_code
def yX4_findDiscreet : MethodName := ⟨RX4, "findDiscreet", "(II)Z"⟩
abbrev cX4_countKnowing : ByteArray := prog_6_method_5_code
def yX4_countKnowing : MethodName := ⟨RX4, "countKnowing", "(IIII)I"⟩
abbrev cX4_findPressed : ByteArray := prog_6_method_6_code
def yX4_findPressed : MethodName := ⟨RX4, "findPressed", "(III)I"⟩
abbrev cX4_staysUnaware : ByteArray := prog_6_method_7_code
def yX4_staysUnaware : MethodName := ⟨RX4, "staysUnaware", "(IIII)Z"⟩
abbrev cX4_findMops : ByteArray := prog_6_method_8_code
def yX4_findMops : MethodName := ⟨RX4, "findMops", "()I"⟩
abbrev cX4_spaceOf : ByteArray := prog_6_method_9_code
def yX4_spaceOf : MethodName := ⟨RX4, "spaceOf", "(I)I"⟩
abbrev cX4_findDesk : ByteArray := prog_6_method_10_code
def yX4_findDesk : MethodName := ⟨RX4, "findDesk", "(I)I"⟩
abbrev cX4_findDesks : ByteArray := prog_6_method_11_code
def yX4_findDesks : MethodName := ⟨RX4, "findDesks", "(II)Z"⟩
def RX5 : String := "SpongeClerks$Reader"
def TX5 : u_T := fun k => match k with
  | 0 => ("SpongeClerks$Reader", "tokens", "LSpongeClerks$Tokens;", true)
  | 1 => ("SpongeClerks$Reader", "draft", "LSpongeClerks$Office;", true)
  | 2 => ("SpongeClerks$Reader", "question", "LSpongeClerks$Row;", true)
  | 3 => ("SpongeClerks$Reader", "code", "LSpongeClerks$Row;", false)
  | 4 => ("SpongeClerks$Reader", "tongue", "I", false)
  | 5 => ("SpongeClerks$Reader", "fault", "I", false)
  | _ => ("SpongeClerks$Reader", "place", "I", false)
def tyX5 : Nat → FieldType := fun k => match k with
  | 0 => .object "SpongeClerks$Tokens"
  | 1 => .object "SpongeClerks$Office"
  | 2 => .object "SpongeClerks$Row"
  | 3 => .object "SpongeClerks$Row"
  | 4 => .int
  | 5 => .int
  | _ => .int
theorem nmX5 : ∀ a, a < 7 → ∀ b, b < 7 → a ≠ b → (TX5 a).2.1 ≠ (TX5 b).2.1 := by decide +kernel
theorem tyX5_ok : ∀ k, k < 7 → parseFieldDescriptor (TX5 k).2.2.1 = some (tyX5 k) := by decide +kernel
abbrev cX5_init : ByteArray := prog_7_method_1_code
def yX5_init : MethodName := ⟨RX5, "<init>", "(LSpongeClerks$Row;LSpongeClerks$Office;LSpongeClerks$Row;)V"⟩
abbrev cX5_readRegistry : ByteArray := prog_7_method_2_code
def yX5_readRegistry : MethodName := ⟨RX5, "readRegistry", "()Z"⟩
abbrev cX5_readQuestion : ByteArray := prog_7_method_3_code
def yX5_readQuestion : MethodName := ⟨RX5, "readQuestion", "()I"⟩
abbrev cX5_begin : ByteArray := prog_7_method_4_code
def yX5_begin : MethodName := ⟨RX5, "begin", "()V"⟩
abbrev cX5_speak : ByteArray := prog_7_method_5_code
def yX5_speak : MethodName := ⟨RX5, "speak", "(LSpongeClerks$Row;I)V"⟩
abbrev cX5_refuse : ByteArray := prog_7_method_6_code
def yX5_refuse : MethodName := ⟨RX5, "refuse", "(II)Z"⟩
abbrev cX5_unfit : ByteArray := prog_7_method_7_code
def yX5_unfit : MethodName := ⟨RX5, "unfit", "()Z"⟩
abbrev cX5_takeSign : ByteArray := prog_7_method_8_code
def yX5_takeSign : MethodName := ⟨RX5, "takeSign", "(I)Z"⟩
abbrev cX5_takeWord : ByteArray := prog_7_method_9_code
def yX5_takeWord : MethodName := ⟨RX5, "takeWord", "(I)Z"⟩
abbrev cX5_readStatement : ByteArray := prog_7_method_10_code
def yX5_readStatement : MethodName := ⟨RX5, "readStatement", "(I)Z"⟩
abbrev cX5_readSeats : ByteArray := prog_7_method_11_code
def yX5_readSeats : MethodName := ⟨RX5, "readSeats", "()Z"⟩
abbrev cX5_readMatter : ByteArray := prog_7_method_12_code
def yX5_readMatter : MethodName := ⟨RX5, "readMatter", "()Z"⟩
abbrev cX5_readClerk : ByteArray := prog_7_method_13_code
def yX5_readClerk : MethodName := ⟨RX5, "readClerk", "()Z"⟩
abbrev cX5_readTold : ByteArray := prog_7_method_14_code
def yX5_readTold : MethodName := ⟨RX5, "readTold", "()Z"⟩
abbrev cX5_speakLeaks : ByteArray := prog_7_method_15_code
def yX5_speakLeaks : MethodName := ⟨RX5, "speakLeaks", "()Z"⟩
abbrev cX5_speakShakes : ByteArray := prog_7_method_16_code
def yX5_speakShakes : MethodName := ⟨RX5, "speakShakes", "()Z"⟩
abbrev cX5_readHand : ByteArray := prog_7_method_17_code
def yX5_readHand : MethodName := ⟨RX5, "readHand", "()Z"⟩
abbrev cX5_isNumber : ByteArray := prog_7_method_18_code
def yX5_isNumber : MethodName := ⟨RX5, "isNumber", "()Z"⟩
abbrev cX5_readNumber : ByteArray := prog_7_method_19_code
def yX5_readNumber : MethodName := ⟨RX5, "readNumber", "(II)I"⟩
abbrev cX5_isName : ByteArray := prog_7_method_20_code
def yX5_isName : MethodName := ⟨RX5, "isName", "()Z"⟩
abbrev cX5_findName : ByteArray := prog_7_method_21_code
def yX5_findName : MethodName := ⟨RX5, "findName", "(II)I"⟩
abbrev cX5_giveName : ByteArray := prog_7_method_22_code
def yX5_giveName : MethodName := ⟨RX5, "giveName", "(I)Z"⟩
abbrev cX5_readTest : ByteArray := prog_7_method_23_code
def yX5_readTest : MethodName := ⟨RX5, "readTest", "(I)Z"⟩
abbrev cX5_readBoth : ByteArray := prog_7_method_24_code
def yX5_readBoth : MethodName := ⟨RX5, "readBoth", "(I)Z"⟩
abbrev cX5_readFact : ByteArray := prog_7_method_25_code
def yX5_readFact : MethodName := ⟨RX5, "readFact", "(I)Z"⟩
abbrev cX5_readSum : ByteArray := prog_7_method_26_code
def yX5_readSum : MethodName := ⟨RX5, "readSum", "(I)Z"⟩
abbrev cX5_readProduct : ByteArray := prog_7_method_27_code
def yX5_readProduct : MethodName := ⟨RX5, "readProduct", "(I)Z"⟩
abbrev cX5_readPart : ByteArray := prog_7_method_28_code
def yX5_readPart : MethodName := ⟨RX5, "readPart", "(I)Z"⟩
abbrev cX5_readLiteral : ByteArray := prog_7_method_29_code
def yX5_readLiteral : MethodName := ⟨RX5, "readLiteral", "()Z"⟩
abbrev cX5_readPair : ByteArray := prog_7_method_30_code
def yX5_readPair : MethodName := ⟨RX5, "readPair", "(II)Z"⟩
abbrev cX5_readOfPart : ByteArray := prog_7_method_31_code
def yX5_readOfPart : MethodName := ⟨RX5, "readOfPart", "(II)Z"⟩
abbrev cX5_takeOpening : ByteArray := prog_7_method_32_code
def yX5_takeOpening : MethodName := ⟨RX5, "takeOpening", "(I)Z"⟩
abbrev cX5_isSpoken : ByteArray := prog_7_method_33_code
def yX5_isSpoken : MethodName := ⟨RX5, "isSpoken", "(I)Z"⟩
def RX6 : String := "SpongeClerks$Row"
def TX6 : u_T := fun k => match k with
  | 0 => ("SpongeClerks$Row", "cells", "[I", true)
  | _ => ("SpongeClerks$Row", "size", "I", false)
def tyX6 : Nat → FieldType := fun k => match k with
  | 0 => .array .int
  | _ => .int
theorem nmX6 : ∀ a, a < 2 → ∀ b, b < 2 → a ≠ b → (TX6 a).2.1 ≠ (TX6 b).2.1 := by decide +kernel
theorem tyX6_ok : ∀ k, k < 2 → parseFieldDescriptor (TX6 k).2.2.1 = some (tyX6 k) := by decide +kernel
abbrev cX6_init : ByteArray := prog_8_method_1_code
def yX6_init : MethodName := ⟨RX6, "<init>", "(I)V"⟩
abbrev cX6_at : ByteArray := prog_8_method_2_code
def yX6_at : MethodName := ⟨RX6, "at", "(I)I"⟩
abbrev cX6_put : ByteArray := prog_8_method_3_code
def yX6_put : MethodName := ⟨RX6, "put", "(I)V"⟩
abbrev cX6_clear : ByteArray := prog_8_method_4_code
def yX6_clear : MethodName := ⟨RX6, "clear", "()V"⟩
abbrev cX6_copyFrom : ByteArray := prog_8_method_5_code
def yX6_copyFrom : MethodName := ⟨RX6, "copyFrom", "(LSpongeClerks$Row;)V"⟩
abbrev cX6_holds : ByteArray := prog_8_method_6_code
def yX6_holds : MethodName := ⟨RX6, "holds", "(I)Z"⟩
abbrev cX6_checkOf : ByteArray := prog_8_method_7_code
def yX6_checkOf : MethodName := ⟨RX6, "checkOf", "(I)I"⟩
abbrev cX6_pairAt : ByteArray := prog_8_method_8_code
def yX6_pairAt : MethodName := ⟨RX6, "pairAt", "(I)I"⟩
def RX7 : String := "SpongeClerks$State"
def TX7 : u_T := fun k => match k with
  | 0 => ("SpongeClerks$State", "day", "I", false)
  | 1 => ("SpongeClerks$State", "seats", "[I", true)
  | 2 => ("SpongeClerks$State", "sitters", "[I", true)
  | 3 => ("SpongeClerks$State", "drops", "[I", true)
  | 4 => ("SpongeClerks$State", "full", "[I", true)
  | 5 => ("SpongeClerks$State", "pools", "[I", true)
  | 6 => ("SpongeClerks$State", "keptRows", "[I", true)
  | 7 => ("SpongeClerks$State", "keptFirst", "I", false)
  | 8 => ("SpongeClerks$State", "keptCount", "I", false)
  | 9 => ("SpongeClerks$State", "settled", "Z", false)
  | _ => ("SpongeClerks$State", "moved", "I", false)
def tyX7 : Nat → FieldType := fun k => match k with
  | 0 => .int
  | 1 => .array .int
  | 2 => .array .int
  | 3 => .array .int
  | 4 => .array .int
  | 5 => .array .int
  | 6 => .array .int
  | 7 => .int
  | 8 => .int
  | 9 => .boolean
  | _ => .int
theorem nmX7 : ∀ a, a < 11 → ∀ b, b < 11 → a ≠ b → (TX7 a).2.1 ≠ (TX7 b).2.1 := by decide +kernel
theorem tyX7_ok : ∀ k, k < 11 → parseFieldDescriptor (TX7 k).2.2.1 = some (tyX7 k) := by decide +kernel
abbrev cX7_init : ByteArray := prog_9_method_1_code
def yX7_init : MethodName := ⟨RX7, "<init>", "()V"⟩
abbrev cX7_begin : ByteArray := prog_9_method_2_code
def yX7_begin : MethodName := ⟨RX7, "begin", "(LSpongeClerks$Office;)V"⟩
abbrev cX7_seatAll : ByteArray := prog_9_method_3_code
def yX7_seatAll : MethodName := ⟨RX7, "seatAll", "(I)V"⟩
abbrev cX7_copyRoom : ByteArray := prog_9_method_4_code
def yX7_copyRoom : MethodName := ⟨RX7, "copyRoom", "(LSpongeClerks$State;)V"⟩
abbrev cX7_copyAll : ByteArray := prog_9_method_5_code
def yX7_copyAll : MethodName := ⟨RX7, "copyAll", "(LSpongeClerks$State;)V"⟩
abbrev cX7_sitterAt : ByteArray := prog_9_method_6_code
def yX7_sitterAt : MethodName := ⟨RX7, "sitterAt", "(I)I"⟩
abbrev cX7_dropsOf : ByteArray := prog_9_method_7_code
def yX7_dropsOf : MethodName := ⟨RX7, "dropsOf", "(II)I"⟩
abbrev cX7_farOff : ByteArray := prog_9_method_8_code
def yX7_farOff : MethodName := ⟨RX7, "farOff", "(II)I"⟩
abbrev cX7_gain : ByteArray := prog_9_method_9_code
def yX7_gain : MethodName := ⟨RX7, "gain", "(III)V"⟩
abbrev cX7_poolOf : ByteArray := prog_9_method_10_code
def yX7_poolOf : MethodName := ⟨RX7, "poolOf", "(II)I"⟩
abbrev cX7_addToPool : ByteArray := prog_9_method_11_code
def yX7_addToPool : MethodName := ⟨RX7, "addToPool", "(III)V"⟩
abbrev cX7_pooled : ByteArray := prog_9_method_12_code
def yX7_pooled : MethodName := ⟨RX7, "pooled", "(I)I"⟩
abbrev cX7_heldOf : ByteArray := prog_9_method_13_code
def yX7_heldOf : MethodName := ⟨RX7, "heldOf", "(I)I"⟩
abbrev cX7_knowing : ByteArray := prog_9_method_14_code
def yX7_knowing : MethodName := ⟨RX7, "knowing", "(I)I"⟩
abbrev cX7_mindOf : ByteArray := prog_9_method_15_code
def yX7_mindOf : MethodName := ⟨RX7, "mindOf", "(I)I"⟩
abbrev cX7_empty : ByteArray := prog_9_method_16_code
def yX7_empty : MethodName := ⟨RX7, "empty", "(II)I"⟩
abbrev cX7_swap : ByteArray := prog_9_method_17_code
def yX7_swap : MethodName := ⟨RX7, "swap", "(II)V"⟩
abbrev cX7_forgetKept : ByteArray := prog_9_method_18_code
def yX7_forgetKept : MethodName := ⟨RX7, "forgetKept", "()V"⟩
abbrev cX7_keepDay : ByteArray := prog_9_method_19_code
def yX7_keepDay : MethodName := ⟨RX7, "keepDay", "(III)V"⟩
abbrev cX7_keptAt : ByteArray := prog_9_method_20_code
def yX7_keptAt : MethodName := ⟨RX7, "keptAt", "(II)I"⟩
abbrev cX7_readPicture : ByteArray := prog_9_method_21_code
def yX7_readPicture : MethodName := ⟨RX7, "readPicture", "(LSpongeClerks$Row;LSpongeClerks$Office;)Z"⟩
abbrev cX7_readClerk : ByteArray := prog_9_method_22_code
def yX7_readClerk : MethodName := ⟨RX7, "readClerk", "(ILSpongeClerks$Row;ILSpongeClerks$Office;)Z"⟩
abbrev cX7_readPools : ByteArray := prog_9_method_23_code
def yX7_readPools : MethodName := ⟨RX7, "readPools", "(LSpongeClerks$Row;II)Z"⟩
def RX8 : String := "SpongeClerks$Tokens"
def TX8 : u_T := fun k => match k with
  | 0 => ("SpongeClerks$Tokens", "tape", "LSpongeClerks$Row;", true)
  | 1 => ("SpongeClerks$Tokens", "words", "[I", true)
  | 2 => ("SpongeClerks$Tokens", "kind", "I", false)
  | 3 => ("SpongeClerks$Tokens", "word", "I", false)
  | 4 => ("SpongeClerks$Tokens", "value", "I", false)
  | 5 => ("SpongeClerks$Tokens", "start", "I", false)
  | _ => ("SpongeClerks$Tokens", "next", "I", false)
def tyX8 : Nat → FieldType := fun k => match k with
  | 0 => .object "SpongeClerks$Row"
  | 1 => .array .int
  | 2 => .int
  | 3 => .int
  | 4 => .int
  | 5 => .int
  | _ => .int
theorem nmX8 : ∀ a, a < 7 → ∀ b, b < 7 → a ≠ b → (TX8 a).2.1 ≠ (TX8 b).2.1 := by decide +kernel
theorem tyX8_ok : ∀ k, k < 7 → parseFieldDescriptor (TX8 k).2.2.1 = some (tyX8 k) := by decide +kernel
abbrev cX8_init : ByteArray := prog_10_method_1_code
def yX8_init : MethodName := ⟨RX8, "<init>", "(LSpongeClerks$Row;)V"⟩
abbrev cX8_begin : ByteArray := prog_10_method_2_code
def yX8_begin : MethodName := ⟨RX8, "begin", "()V"⟩
abbrev cX8_scan : ByteArray := prog_10_method_3_code
def yX8_scan : MethodName := ⟨RX8, "scan", "()V"⟩
abbrev cX8_isWord : ByteArray := prog_10_method_4_code
def yX8_isWord : MethodName := ⟨RX8, "isWord", "(I)Z"⟩
abbrev cX8_isSign : ByteArray := prog_10_method_5_code
def yX8_isSign : MethodName := ⟨RX8, "isSign", "(I)Z"⟩
abbrev cX8_length : ByteArray := prog_10_method_6_code
def yX8_length : MethodName := ⟨RX8, "length", "()I"⟩
abbrev cX8_findWord : ByteArray := prog_10_method_7_code
def yX8_findWord : MethodName := ⟨RX8, "findWord", "()I"⟩
abbrev cX8_isBlank : ByteArray := prog_10_method_8_code
def yX8_isBlank : MethodName := ⟨RX8, "isBlank", "(I)Z"⟩
abbrev cX8_kindOf : ByteArray := prog_10_method_9_code
def yX8_kindOf : MethodName := ⟨RX8, "kindOf", "(I)I"⟩
def RX9 : String := "SpongeClerks$Ways"
def TX9 : u_T := fun k => match k with
  | 0 => ("SpongeClerks$Ways", "office", "LSpongeClerks$Office;", true)
  | 1 => ("SpongeClerks$Ways", "mill", "LSpongeClerks$Mill;", true)
  | _ => ("SpongeClerks$Ways", "dropsAhead", "[I", true)
def tyX9 : Nat → FieldType := fun k => match k with
  | 0 => .object "SpongeClerks$Office"
  | 1 => .object "SpongeClerks$Mill"
  | _ => .array .int
theorem nmX9 : ∀ a, a < 3 → ∀ b, b < 3 → a ≠ b → (TX9 a).2.1 ≠ (TX9 b).2.1 := by decide +kernel
theorem tyX9_ok : ∀ k, k < 3 → parseFieldDescriptor (TX9 k).2.2.1 = some (tyX9 k) := by decide +kernel
abbrev cX9_init : ByteArray := prog_11_method_1_code
def yX9_init : MethodName := ⟨RX9, "<init>", "(LSpongeClerks$Office;LSpongeClerks$Mill;)V"⟩
abbrev cX9_space : ByteArray := prog_11_method_2_code
def yX9_space : MethodName := ⟨RX9, "space", "(LSpongeClerks$State;I)I"⟩
abbrev cX9_countFull : ByteArray := prog_11_method_3_code
def yX9_countFull : MethodName := ⟨RX9, "countFull", "(LSpongeClerks$State;)I"⟩
abbrev cX9_flow : ByteArray := prog_11_method_4_code
def yX9_flow : MethodName := ⟨RX9, "flow", "(LSpongeClerks$State;III)I"⟩
abbrev cX9_passDay : ByteArray := prog_11_method_5_code
def yX9_passDay : MethodName := ⟨RX9, "passDay", "(LSpongeClerks$State;)I"⟩
abbrev cX9_isAsAhead : ByteArray := prog_11_method_6_code
def yX9_isAsAhead : MethodName := ⟨RX9, "isAsAhead", "(LSpongeClerks$State;)Z"⟩
abbrev cX9_hand : ByteArray := prog_11_method_7_code
def yX9_hand : MethodName := ⟨RX9, "hand", "(LSpongeClerks$State;IIII)V"⟩
abbrev cX9_shake : ByteArray := prog_11_method_8_code
def yX9_shake : MethodName := ⟨RX9, "shake", "(LSpongeClerks$State;II)I"⟩
abbrev cX9_canPour : ByteArray := prog_11_method_9_code
def yX9_canPour : MethodName := ⟨RX9, "canPour", "(LSpongeClerks$State;III)Z"⟩
abbrev cX9_pour : ByteArray := prog_11_method_10_code
def yX9_pour : MethodName := ⟨RX9, "pour", "(LSpongeClerks$State;III)I"⟩
abbrev cX9_takeFromFloor : ByteArray := prog_11_method_11_code
def yX9_takeFromFloor : MethodName := ⟨RX9, "takeFromFloor", "(LSpongeClerks$State;I)I"⟩
def RX10 : String := "SpongeClerks"
def TX10 : u_T := fun k => match k with
  | 0 => ("SpongeClerks", "tape", "LSpongeClerks$Row;", true)
  | 1 => ("SpongeClerks", "picture", "LSpongeClerks$Row;", true)
  | 2 => ("SpongeClerks", "seen", "LSpongeClerks$Row;", true)
  | 3 => ("SpongeClerks", "question", "LSpongeClerks$Row;", true)
  | 4 => ("SpongeClerks", "office", "LSpongeClerks$Office;", true)
  | 5 => ("SpongeClerks", "draft", "LSpongeClerks$Office;", true)
  | 6 => ("SpongeClerks", "now", "LSpongeClerks$State;", true)
  | 7 => ("SpongeClerks", "trial", "LSpongeClerks$State;", true)
  | 8 => ("SpongeClerks", "past", "LSpongeClerks$Past;", true)
  | 9 => ("SpongeClerks", "reader", "LSpongeClerks$Reader;", true)
  | 10 => ("SpongeClerks", "mill", "LSpongeClerks$Mill;", true)
  | 11 => ("SpongeClerks", "ways", "LSpongeClerks$Ways;", true)
  | 12 => ("SpongeClerks", "plans", "LSpongeClerks$Plans;", true)
  | 13 => ("SpongeClerks", "hunt", "LSpongeClerks$Hunt;", true)
  | 14 => ("SpongeClerks", "refused", "[I", true)
  | _ => ("SpongeClerks", "seed", "I", false)
def tyX10 : Nat → FieldType := fun k => match k with
  | 0 => .object "SpongeClerks$Row"
  | 1 => .object "SpongeClerks$Row"
  | 2 => .object "SpongeClerks$Row"
  | 3 => .object "SpongeClerks$Row"
  | 4 => .object "SpongeClerks$Office"
  | 5 => .object "SpongeClerks$Office"
  | 6 => .object "SpongeClerks$State"
  | 7 => .object "SpongeClerks$State"
  | 8 => .object "SpongeClerks$Past"
  | 9 => .object "SpongeClerks$Reader"
  | 10 => .object "SpongeClerks$Mill"
  | 11 => .object "SpongeClerks$Ways"
  | 12 => .object "SpongeClerks$Plans"
  | 13 => .object "SpongeClerks$Hunt"
  | 14 => .array .int
  | _ => .int
theorem nmX10 : ∀ a, a < 16 → ∀ b, b < 16 → a ≠ b → (TX10 a).2.1 ≠ (TX10 b).2.1 := by decide +kernel
theorem tyX10_ok : ∀ k, k < 16 → parseFieldDescriptor (TX10 k).2.2.1 = some (tyX10 k) := by decide +kernel
abbrev cX10_init : ByteArray := prog_1_method_1_code
def yX10_init : MethodName := ⟨RX10, "<init>", "()V"⟩
abbrev cX10_feed : ByteArray := prog_1_method_2_code
def yX10_feed : MethodName := ⟨RX10, "feed", "(IIIII)I"⟩
abbrev cX10_end : ByteArray := prog_1_method_3_code
def yX10_end : MethodName := ⟨RX10, "end", "(I)Z"⟩
abbrev cX10_registry : ByteArray := prog_1_method_4_code
def yX10_registry : MethodName := ⟨RX10, "registry", "()I"⟩
abbrev cX10_fault : ByteArray := prog_1_method_5_code
def yX10_fault : MethodName := ⟨RX10, "fault", "(I)I"⟩
abbrev cX10_has : ByteArray := prog_1_method_6_code
def yX10_has : MethodName := ⟨RX10, "has", "(I)I"⟩
abbrev cX10_letter : ByteArray := prog_1_method_7_code
def yX10_letter : MethodName := ⟨RX10, "letter", "(III)I"⟩
abbrev cX10_seat : ByteArray := prog_1_method_8_code
def yX10_seat : MethodName := ⟨RX10, "seat", "(I)I"⟩
abbrev cX10_clerk : ByteArray := prog_1_method_9_code
def yX10_clerk : MethodName := ⟨RX10, "clerk", "(II)I"⟩
abbrev cX10_drops : ByteArray := prog_1_method_10_code
def yX10_drops : MethodName := ⟨RX10, "drops", "(II)I"⟩
abbrev cX10_matter : ByteArray := prog_1_method_11_code
def yX10_matter : MethodName := ⟨RX10, "matter", "(II)I"⟩
abbrev cX10_leak : ByteArray := prog_1_method_12_code
def yX10_leak : MethodName := ⟨RX10, "leak", "(III)I"⟩
abbrev cX10_kept : ByteArray := prog_1_method_13_code
def yX10_kept : MethodName := ⟨RX10, "kept", "(II)I"⟩
abbrev cX10_later : ByteArray := prog_1_method_14_code
def yX10_later : MethodName := ⟨RX10, "later", "(III)I"⟩
abbrev cX10_knows : ByteArray := prog_1_method_15_code
def yX10_knows : MethodName := ⟨RX10, "knows", "(II)I"⟩
abbrev cX10_hears : ByteArray := prog_1_method_16_code
def yX10_hears : MethodName := ⟨RX10, "hears", "(II)I"⟩
abbrev cX10_discreet : ByteArray := prog_1_method_17_code
def yX10_discreet : MethodName := ⟨RX10, "discreet", "(III)I"⟩
abbrev cX10_pressed : ByteArray := prog_1_method_18_code
def yX10_pressed : MethodName := ⟨RX10, "pressed", "(III)I"⟩
abbrev cX10_mops : ByteArray := prog_1_method_19_code
def yX10_mops : MethodName := ⟨RX10, "mops", "()I"⟩
abbrev cX10_desks : ByteArray := prog_1_method_20_code
def yX10_desks : MethodName := ⟨RX10, "desks", "(I)I"⟩
abbrev cX10_see : ByteArray := prog_1_method_21_code
def yX10_see : MethodName := ⟨RX10, "see", "()I"⟩
abbrev cX10_sources : ByteArray := prog_1_method_22_code
def yX10_sources : MethodName := ⟨RX10, "sources", "(II)I"⟩
abbrev cX10_tells : ByteArray := prog_1_method_23_code
def yX10_tells : MethodName := ⟨RX10, "tells", "(III)I"⟩
abbrev cX10_tell : ByteArray := prog_1_method_24_code
def yX10_tell : MethodName := ⟨RX10, "tell", "(III)I"⟩
abbrev cX10_squeeze : ByteArray := prog_1_method_25_code
def yX10_squeeze : MethodName := ⟨RX10, "squeeze", "(I)I"⟩
abbrev cX10_rinse : ByteArray := prog_1_method_26_code
def yX10_rinse : MethodName := ⟨RX10, "rinse", "(I)I"⟩
abbrev cX10_mop : ByteArray := prog_1_method_27_code
def yX10_mop : MethodName := ⟨RX10, "mop", "(I)I"⟩
abbrev cX10_change : ByteArray := prog_1_method_28_code
def yX10_change : MethodName := ⟨RX10, "change", "(II)Z"⟩
abbrev cX10_days : ByteArray := prog_1_method_29_code
def yX10_days : MethodName := ⟨RX10, "days", "(I)I"⟩
abbrev cX10_chance : ByteArray := prog_1_method_30_code
def yX10_chance : MethodName := ⟨RX10, "chance", "(I)I"⟩
abbrev cX10_undo : ByteArray := prog_1_method_31_code
def yX10_undo : MethodName := ⟨RX10, "undo", "()Z"⟩
abbrev cX10_seed : ByteArray := prog_1_method_32_code
def yX10_seed : MethodName := ⟨RX10, "seed", "(I)Z"⟩
abbrev cX10_ask : ByteArray := prog_1_method_33_code
def yX10_ask : MethodName := ⟨RX10, "ask", "()J"⟩
abbrev cX10_image : ByteArray := prog_1_method_34_code
def yX10_image : MethodName := ⟨RX10, "image", "()I"⟩
abbrev cX10_octet : ByteArray := prog_1_method_35_code
def yX10_octet : MethodName := ⟨RX10, "octet", "(I)I"⟩
abbrev cX10_on : ByteArray := prog_1_method_36_code
def yX10_on : MethodName := ⟨RX10, "on", "()Z"⟩
abbrev cX10_status : ByteArray := prog_1_method_37_code
def yX10_status : MethodName := ⟨RX10, "status", "(I)I"⟩
abbrev cX10_refuse : ByteArray := prog_1_method_38_code
def yX10_refuse : MethodName := ⟨RX10, "refuse", "(I)I"⟩
abbrev cX10_deny : ByteArray := prog_1_method_39_code
def yX10_deny : MethodName := ⟨RX10, "deny", "(I)Z"⟩
abbrev cX10_feedNumber : ByteArray := prog_1_method_40_code
def yX10_feedNumber : MethodName := ⟨RX10, "feedNumber", "(I)V"⟩
abbrev cX10_putPair : ByteArray := prog_1_method_41_code
def yX10_putPair : MethodName := ⟨RX10, "putPair", "(I)V"⟩
abbrev cX10_canPass : ByteArray := prog_1_method_42_code
def yX10_canPass : MethodName := ⟨RX10, "canPass", "(III)Z"⟩
abbrev cX10_lookAhead : ByteArray := prog_1_method_43_code
def yX10_lookAhead : MethodName := ⟨RX10, "lookAhead", "(I)V"⟩
abbrev cX10_dry : ByteArray := prog_1_method_44_code
def yX10_dry : MethodName := ⟨RX10, "dry", "(II)I"⟩
abbrev cX10_liveDay : ByteArray := prog_1_method_45_code
def yX10_liveDay : MethodName := ⟨RX10, "liveDay", "(I)I"⟩
abbrev cX10_tryHands : ByteArray := prog_1_method_46_code
def yX10_tryHands : MethodName := ⟨RX10, "tryHands", "()I"⟩
abbrev cX10_draw : ByteArray := prog_1_method_47_code
def yX10_draw : MethodName := ⟨RX10, "draw", "(I)I"⟩
abbrev cX10_countHolding : ByteArray := prog_1_method_48_code
def yX10_countHolding : MethodName := ⟨RX10, "countHolding", "(I)J"⟩
abbrev cX10_gatherSums : ByteArray := prog_1_method_49_code
def yX10_gatherSums : MethodName := ⟨RX10, "gatherSums", "(I)J"⟩
abbrev cX10_pick : ByteArray := prog_1_method_50_code
def yX10_pick : MethodName := ⟨RX10, "pick", "([II)I"⟩
abbrev cX10_set : ByteArray := prog_1_method_51_code
def yX10_set : MethodName := ⟨RX10, "set", "([III)V"⟩
abbrev cX10_add : ByteArray := prog_1_method_52_code
def yX10_add : MethodName := ⟨RX10, "add", "([III)V"⟩
abbrev cX10_fill : ByteArray := prog_1_method_53_code
def yX10_fill : MethodName := ⟨RX10, "fill", "([II)V"⟩
abbrev cX10_copy : ByteArray := prog_1_method_54_code
def yX10_copy : MethodName := ⟨RX10, "copy", "([I[I)V"⟩
abbrev cX10_total : ByteArray := prog_1_method_55_code
def yX10_total : MethodName := ⟨RX10, "total", "([I)I"⟩
abbrev cX10_within : ByteArray := prog_1_method_56_code
def yX10_within : MethodName := ⟨RX10, "within", "(III)Z"⟩
abbrev cX10_letterOf : ByteArray := prog_1_method_57_code
def yX10_letterOf : MethodName := ⟨RX10, "letterOf", "(II)I"⟩
def RX11 : String := "SpongeClerksModel"
def TX11 : u_T := fun k => match k with
  | 0 => ("SpongeClerksModel", "tape", "[I", true)
  | 1 => ("SpongeClerksModel", "taped", "I", false)
  | 2 => ("SpongeClerksModel", "at", "I", false)
  | 3 => ("SpongeClerksModel", "end", "I", false)
  | 4 => ("SpongeClerksModel", "ended", "I", false)
  | 5 => ("SpongeClerksModel", "bad", "I", false)
  | 6 => ("SpongeClerksModel", "badPlace", "I", false)
  | 7 => ("SpongeClerksModel", "fault", "I", false)
  | 8 => ("SpongeClerksModel", "faultPlace", "I", false)
  | 9 => ("SpongeClerksModel", "refused", "[I", true)
  | 10 => ("SpongeClerksModel", "numberPlace", "I", false)
  | 11 => ("SpongeClerksModel", "seatsWord", "[C", true)
  | 12 => ("SpongeClerksModel", "matterWord", "[C", true)
  | 13 => ("SpongeClerksModel", "clerkWord", "[C", true)
  | 14 => ("SpongeClerksModel", "atWord", "[C", true)
  | 15 => ("SpongeClerksModel", "roomWord", "[C", true)
  | 16 => ("SpongeClerksModel", "toldWord", "[C", true)
  | 17 => ("SpongeClerksModel", "ofWord", "[C", true)
  | 18 => ("SpongeClerksModel", "leaksWord", "[C", true)
  | 19 => ("SpongeClerksModel", "shakesWord", "[C", true)
  | 20 => ("SpongeClerksModel", "handWord", "[C", true)
  | 21 => ("SpongeClerksModel", "fullWord", "[C", true)
  | 22 => ("SpongeClerksModel", "seatWord", "[C", true)
  | 23 => ("SpongeClerksModel", "dayWord", "[C", true)
  | 24 => ("SpongeClerksModel", "dropsWord", "[C", true)
  | 25 => ("SpongeClerksModel", "spaceWord", "[C", true)
  | 26 => ("SpongeClerksModel", "offWord", "[C", true)
  | 27 => ("SpongeClerksModel", "numberWord", "[C", true)
  | 28 => ("SpongeClerksModel", "mindWord", "[C", true)
  | 29 => ("SpongeClerksModel", "orWord", "[C", true)
  | 30 => ("SpongeClerksModel", "andWord", "[C", true)
  | 31 => ("SpongeClerksModel", "notWord", "[C", true)
  | 32 => ("SpongeClerksModel", "allWord", "[C", true)
  | 33 => ("SpongeClerksModel", "minWord", "[C", true)
  | 34 => ("SpongeClerksModel", "maxWord", "[C", true)
  | 35 => ("SpongeClerksModel", "namePlace", "I", false)
  | 36 => ("SpongeClerksModel", "seats", "[I", true)
  | 37 => ("SpongeClerksModel", "many", "[I", true)
  | 38 => ("SpongeClerksModel", "names", "[J", true)
  | 39 => ("SpongeClerksModel", "clerks", "[I", true)
  | 40 => ("SpongeClerksModel", "drops0", "[I", true)
  | 41 => ("SpongeClerksModel", "codeFrom", "[I", true)
  | 42 => ("SpongeClerksModel", "codeEnd", "[I", true)
  | 43 => ("SpongeClerksModel", "codes", "[I", true)
  | 44 => ("SpongeClerksModel", "coded", "I", false)
  | 45 => ("SpongeClerksModel", "statements", "I", false)
  | 46 => ("SpongeClerksModel", "isRegistry", "Z", false)
  | 47 => ("SpongeClerksModel", "textKind", "I", false)
  | 48 => ("SpongeClerksModel", "now", "[I", true)
  | 49 => ("SpongeClerksModel", "aside", "[I", true)
  | 50 => ("SpongeClerksModel", "askMatter", "I", false)
  | 51 => ("SpongeClerksModel", "askOther", "I", false)
  | 52 => ("SpongeClerksModel", "isThought", "Z", false)
  | 53 => ("SpongeClerksModel", "overMany", "I", false)
  | 54 => ("SpongeClerksModel", "row", "[I", true)
  | 55 => ("SpongeClerksModel", "rowMany", "I", false)
  | 56 => ("SpongeClerksModel", "rows", "[I", true)
  | 57 => ("SpongeClerksModel", "ways", "[I", true)
  | 58 => ("SpongeClerksModel", "sourceSet", "I", false)
  | 59 => ("SpongeClerksModel", "kept0", "[I", true)
  | 60 => ("SpongeClerksModel", "undoable", "I", false)
  | 61 => ("SpongeClerksModel", "newest", "I", false)
  | 62 => ("SpongeClerksModel", "seeded", "J", false)
  | 63 => ("SpongeClerksModel", "firstAsked", "[C", true)
  | 64 => ("SpongeClerksModel", "lastAsked", "[C", true)
  | 65 => ("SpongeClerksModel", "oftenAsked", "[C", true)
  | 66 => ("SpongeClerksModel", "totalAsked", "[C", true)
  | 67 => ("SpongeClerksModel", "mostAsked", "[C", true)
  | 68 => ("SpongeClerksModel", "leastAsked", "[C", true)
  | 69 => ("SpongeClerksModel", "notAsked", "[C", true)
  | 70 => ("SpongeClerksModel", "andAsked", "[C", true)
  | 71 => ("SpongeClerksModel", "orAsked", "[C", true)
  | 72 => ("SpongeClerksModel", "allAsked", "[C", true)
  | 73 => ("SpongeClerksModel", "minAsked", "[C", true)
  | 74 => ("SpongeClerksModel", "maxAsked", "[C", true)
  | 75 => ("SpongeClerksModel", "fullAsked", "[C", true)
  | 76 => ("SpongeClerksModel", "roomAsked", "[C", true)
  | 77 => ("SpongeClerksModel", "seatAsked", "[C", true)
  | 78 => ("SpongeClerksModel", "dayAsked", "[C", true)
  | 79 => ("SpongeClerksModel", "dropsAsked", "[C", true)
  | 80 => ("SpongeClerksModel", "spaceAsked", "[C", true)
  | 81 => ("SpongeClerksModel", "matterAsked", "[C", true)
  | 82 => ("SpongeClerksModel", "offAsked", "[C", true)
  | 83 => ("SpongeClerksModel", "numberAsked", "[C", true)
  | 84 => ("SpongeClerksModel", "mindAsked", "[C", true)
  | 85 => ("SpongeClerksModel", "dropsofAsked", "[C", true)
  | 86 => ("SpongeClerksModel", "offofAsked", "[C", true)
  | 87 => ("SpongeClerksModel", "qCodes", "[I", true)
  | 88 => ("SpongeClerksModel", "qCoded", "I", false)
  | 89 => ("SpongeClerksModel", "qWait", "[I", true)
  | 90 => ("SpongeClerksModel", "qWaits", "I", false)
  | 91 => ("SpongeClerksModel", "qOpened", "I", false)
  | 92 => ("SpongeClerksModel", "qBase", "I", false)
  | 93 => ("SpongeClerksModel", "qPile", "[J", true)
  | 94 => ("SpongeClerksModel", "qPiled", "I", false)
  | 95 => ("SpongeClerksModel", "qAnswer", "J", false)
  | 96 => ("SpongeClerksModel", "qIsNew", "Z", false)
  | 97 => ("SpongeClerksModel", "octet", "[I", true)
  | _ => ("SpongeClerksModel", "octets", "I", false)
def tyX11 : Nat → FieldType := fun k => match k with
  | 0 => .array .int
  | 1 => .int
  | 2 => .int
  | 3 => .int
  | 4 => .int
  | 5 => .int
  | 6 => .int
  | 7 => .int
  | 8 => .int
  | 9 => .array .int
  | 10 => .int
  | 11 => .array .char
  | 12 => .array .char
  | 13 => .array .char
  | 14 => .array .char
  | 15 => .array .char
  | 16 => .array .char
  | 17 => .array .char
  | 18 => .array .char
  | 19 => .array .char
  | 20 => .array .char
  | 21 => .array .char
  | 22 => .array .char
  | 23 => .array .char
  | 24 => .array .char
  | 25 => .array .char
  | 26 => .array .char
  | 27 => .array .char
  | 28 => .array .char
  | 29 => .array .char
  | 30 => .array .char
  | 31 => .array .char
  | 32 => .array .char
  | 33 => .array .char
  | 34 => .array .char
  | 35 => .int
  | 36 => .array .int
  | 37 => .array .int
  | 38 => .array .long
  | 39 => .array .int
  | 40 => .array .int
  | 41 => .array .int
  | 42 => .array .int
  | 43 => .array .int
  | 44 => .int
  | 45 => .int
  | 46 => .boolean
  | 47 => .int
  | 48 => .array .int
  | 49 => .array .int
  | 50 => .int
  | 51 => .int
  | 52 => .boolean
  | 53 => .int
  | 54 => .array .int
  | 55 => .int
  | 56 => .array .int
  | 57 => .array .int
  | 58 => .int
  | 59 => .array .int
  | 60 => .int
  | 61 => .int
  | 62 => .long
  | 63 => .array .char
  | 64 => .array .char
  | 65 => .array .char
  | 66 => .array .char
  | 67 => .array .char
  | 68 => .array .char
  | 69 => .array .char
  | 70 => .array .char
  | 71 => .array .char
  | 72 => .array .char
  | 73 => .array .char
  | 74 => .array .char
  | 75 => .array .char
  | 76 => .array .char
  | 77 => .array .char
  | 78 => .array .char
  | 79 => .array .char
  | 80 => .array .char
  | 81 => .array .char
  | 82 => .array .char
  | 83 => .array .char
  | 84 => .array .char
  | 85 => .array .char
  | 86 => .array .char
  | 87 => .array .int
  | 88 => .int
  | 89 => .array .int
  | 90 => .int
  | 91 => .int
  | 92 => .int
  | 93 => .array .long
  | 94 => .int
  | 95 => .long
  | 96 => .boolean
  | 97 => .array .int
  | _ => .int
theorem nmX11 : ∀ a, a < 99 → ∀ b, b < 99 → a ≠ b → (TX11 a).2.1 ≠ (TX11 b).2.1 := by decide +kernel
theorem tyX11_ok : ∀ k, k < 99 → parseFieldDescriptor (TX11 k).2.2.1 = some (tyX11 k) := by decide +kernel
abbrev cX11_init : ByteArray := prog_13_method_1_code
def yX11_init : MethodName := ⟨RX11, "<init>", "()V"⟩
abbrev cX11_isIn : ByteArray := prog_13_method_2_code
def yX11_isIn : MethodName := ⟨RX11, "isIn", "(JJJ)Z"⟩
abbrev cX11_feed : ByteArray := prog_13_method_3_code
def yX11_feed : MethodName := ⟨RX11, "feed", "(IIIII)I"⟩
abbrev cX11_end : ByteArray := prog_13_method_4_code
def yX11_end : MethodName := ⟨RX11, "end", "(I)Z"⟩
abbrev cX11_fail : ByteArray := prog_13_method_5_code
def yX11_fail : MethodName := ⟨RX11, "fail", "(II)V"⟩
abbrev cX11_isLetter : ByteArray := prog_13_method_6_code
def yX11_isLetter : MethodName := ⟨RX11, "isLetter", "(I)Z"⟩
abbrev cX11_isDigit : ByteArray := prog_13_method_7_code
def yX11_isDigit : MethodName := ⟨RX11, "isDigit", "(I)Z"⟩
abbrev cX11_look : ByteArray := prog_13_method_8_code
def yX11_look : MethodName := ⟨RX11, "look", "()I"⟩
abbrev cX11_isHere : ByteArray := prog_13_method_9_code
def yX11_isHere : MethodName := ⟨RX11, "isHere", "([C)Z"⟩
abbrev cX11_takes : ByteArray := prog_13_method_10_code
def yX11_takes : MethodName := ⟨RX11, "takes", "([C)Z"⟩
abbrev cX11_asks : ByteArray := prog_13_method_11_code
def yX11_asks : MethodName := ⟨RX11, "asks", "([C)V"⟩
abbrev cX11_takesSign : ByteArray := prog_13_method_12_code
def yX11_takesSign : MethodName := ⟨RX11, "takesSign", "(I)Z"⟩
abbrev cX11_asksSign : ByteArray := prog_13_method_13_code
def yX11_asksSign : MethodName := ⟨RX11, "asksSign", "(I)V"⟩
abbrev cX11_number : ByteArray := prog_13_method_14_code
def yX11_number : MethodName := ⟨RX11, "number", "(II)I"⟩
abbrev cX11_isOwnHere : ByteArray := prog_13_method_15_code
def yX11_isOwnHere : MethodName := ⟨RX11, "isOwnHere", "()Z"⟩
abbrev cX11_name : ByteArray := prog_13_method_16_code
def yX11_name : MethodName := ⟨RX11, "name", "()J"⟩
abbrev cX11_isAllowed : ByteArray := prog_13_method_17_code
def yX11_isAllowed : MethodName := ⟨RX11, "isAllowed", "(I)Z"⟩
abbrev cX11_isFull : ByteArray := prog_13_method_18_code
def yX11_isFull : MethodName := ⟨RX11, "isFull", "(III)Z"⟩
abbrev cX11_newName : ByteArray := prog_13_method_19_code
def yX11_newName : MethodName := ⟨RX11, "newName", "()J"⟩
abbrev cX11_named : ByteArray := prog_13_method_20_code
def yX11_named : MethodName := ⟨RX11, "named", "(I)I"⟩
abbrev cX11_seatsTold : ByteArray := prog_13_method_21_code
def yX11_seatsTold : MethodName := ⟨RX11, "seatsTold", "()V"⟩
abbrev cX11_matterTold : ByteArray := prog_13_method_22_code
def yX11_matterTold : MethodName := ⟨RX11, "matterTold", "(I)V"⟩
abbrev cX11_clerkTold : ByteArray := prog_13_method_23_code
def yX11_clerkTold : MethodName := ⟨RX11, "clerkTold", "(I)V"⟩
abbrev cX11_toldTold : ByteArray := prog_13_method_24_code
def yX11_toldTold : MethodName := ⟨RX11, "toldTold", "()V"⟩
abbrev cX11_codesTold : ByteArray := prog_13_method_25_code
def yX11_codesTold : MethodName := ⟨RX11, "codesTold", "(II)V"⟩
abbrev cX11_statementTold : ByteArray := prog_13_method_26_code
def yX11_statementTold : MethodName := ⟨RX11, "statementTold", "()V"⟩
abbrev cX11_registry : ByteArray := prog_13_method_27_code
def yX11_registry : MethodName := ⟨RX11, "registry", "()I"⟩
abbrev cX11_stands : ByteArray := prog_13_method_28_code
def yX11_stands : MethodName := ⟨RX11, "stands", "()V"⟩
abbrev cX11_fault : ByteArray := prog_13_method_29_code
def yX11_fault : MethodName := ⟨RX11, "fault", "(I)I"⟩
abbrev cX11_matterMany : ByteArray := prog_13_method_30_code
def yX11_matterMany : MethodName := ⟨RX11, "matterMany", "()I"⟩
abbrev cX11_clerkMany : ByteArray := prog_13_method_31_code
def yX11_clerkMany : MethodName := ⟨RX11, "clerkMany", "()I"⟩
abbrev cX11_isMatter : ByteArray := prog_13_method_32_code
def yX11_isMatter : MethodName := ⟨RX11, "isMatter", "(J)Z"⟩
abbrev cX11_isClerk : ByteArray := prog_13_method_33_code
def yX11_isClerk : MethodName := ⟨RX11, "isClerk", "(J)Z"⟩
abbrev cX11_areBoth : ByteArray := prog_13_method_34_code
def yX11_areBoth : MethodName := ⟨RX11, "areBoth", "(II)Z"⟩
abbrev cX11_seatOf : ByteArray := prog_13_method_35_code
def yX11_seatOf : MethodName := ⟨RX11, "seatOf", "(I)I"⟩
abbrev cX11_dropsOf : ByteArray := prog_13_method_36_code
def yX11_dropsOf : MethodName := ⟨RX11, "dropsOf", "(II)I"⟩
abbrev cX11_roomOf : ByteArray := prog_13_method_37_code
def yX11_roomOf : MethodName := ⟨RX11, "roomOf", "(I)I"⟩
abbrev cX11_fullOf : ByteArray := prog_13_method_38_code
def yX11_fullOf : MethodName := ⟨RX11, "fullOf", "(I)I"⟩
abbrev cX11_spaceOf : ByteArray := prog_13_method_39_code
def yX11_spaceOf : MethodName := ⟨RX11, "spaceOf", "(I)I"⟩
abbrev cX11_apart : ByteArray := prog_13_method_40_code
def yX11_apart : MethodName := ⟨RX11, "apart", "(II)I"⟩
abbrev cX11_mindOf : ByteArray := prog_13_method_41_code
def yX11_mindOf : MethodName := ⟨RX11, "mindOf", "(I)I"⟩
abbrev cX11_sitterOf : ByteArray := prog_13_method_42_code
def yX11_sitterOf : MethodName := ⟨RX11, "sitterOf", "(I)I"⟩
abbrev cX11_floorOf : ByteArray := prog_13_method_43_code
def yX11_floorOf : MethodName := ⟨RX11, "floorOf", "(I)I"⟩
abbrev cX11_floorAll : ByteArray := prog_13_method_44_code
def yX11_floorAll : MethodName := ⟨RX11, "floorAll", "()I"⟩
abbrev cX11_bits : ByteArray := prog_13_method_45_code
def yX11_bits : MethodName := ⟨RX11, "bits", "(I)I"⟩
abbrev cX11_codesTell : ByteArray := prog_13_method_46_code
def yX11_codesTell : MethodName := ⟨RX11, "codesTell", "(II)J"⟩
abbrev cX11_leaksFrom : ByteArray := prog_13_method_47_code
def yX11_leaksFrom : MethodName := ⟨RX11, "leaksFrom", "(III)I"⟩
abbrev cX11_goesOver : ByteArray := prog_13_method_48_code
def yX11_goesOver : MethodName := ⟨RX11, "goesOver", "(IIII)V"⟩
abbrev cX11_fullMany : ByteArray := prog_13_method_49_code
def yX11_fullMany : MethodName := ⟨RX11, "fullMany", "()I"⟩
abbrev cX11_isKept : ByteArray := prog_13_method_50_code
def yX11_isKept : MethodName := ⟨RX11, "isKept", "(I)V"⟩
abbrev cX11_dayGoes : ByteArray := prog_13_method_51_code
def yX11_dayGoes : MethodName := ⟨RX11, "dayGoes", "(I)V"⟩
abbrev cX11_daysGo : ByteArray := prog_13_method_52_code
def yX11_daysGo : MethodName := ⟨RX11, "daysGo", "(I)V"⟩
abbrev cX11_putsAside : ByteArray := prog_13_method_53_code
def yX11_putsAside : MethodName := ⟨RX11, "putsAside", "()V"⟩
abbrev cX11_triesAnew : ByteArray := prog_13_method_54_code
def yX11_triesAnew : MethodName := ⟨RX11, "triesAnew", "()V"⟩
abbrev cX11_takesBack : ByteArray := prog_13_method_55_code
def yX11_takesBack : MethodName := ⟨RX11, "takesBack", "()V"⟩
abbrev cX11_isAhead : ByteArray := prog_13_method_56_code
def yX11_isAhead : MethodName := ⟨RX11, "isAhead", "(III)Z"⟩
abbrev cX11_knowersOf : ByteArray := prog_13_method_57_code
def yX11_knowersOf : MethodName := ⟨RX11, "knowersOf", "(I)I"⟩
abbrev cX11_inClerks : ByteArray := prog_13_method_58_code
def yX11_inClerks : MethodName := ⟨RX11, "inClerks", "(I)I"⟩
abbrev cX11_dropAll : ByteArray := prog_13_method_59_code
def yX11_dropAll : MethodName := ⟨RX11, "dropAll", "()I"⟩
abbrev cX11_has : ByteArray := prog_13_method_60_code
def yX11_has : MethodName := ⟨RX11, "has", "(I)I"⟩
abbrev cX11_letter : ByteArray := prog_13_method_61_code
def yX11_letter : MethodName := ⟨RX11, "letter", "(III)I"⟩
abbrev cX11_seat : ByteArray := prog_13_method_62_code
def yX11_seat : MethodName := ⟨RX11, "seat", "(I)I"⟩
abbrev cX11_powerOf : ByteArray := prog_13_method_63_code
def yX11_powerOf : MethodName := ⟨RX11, "powerOf", "(I)I"⟩
abbrev cX11_clerk : ByteArray := prog_13_method_64_code
def yX11_clerk : MethodName := ⟨RX11, "clerk", "(II)I"⟩
abbrev cX11_drops : ByteArray := prog_13_method_65_code
def yX11_drops : MethodName := ⟨RX11, "drops", "(II)I"⟩
abbrev cX11_matter : ByteArray := prog_13_method_66_code
def yX11_matter : MethodName := ⟨RX11, "matter", "(II)I"⟩
abbrev cX11_leak : ByteArray := prog_13_method_67_code
def yX11_leak : MethodName := ⟨RX11, "leak", "(III)I"⟩
abbrev cX11_kept : ByteArray := prog_13_method_68_code
def yX11_kept : MethodName := ⟨RX11, "kept", "(II)I"⟩
abbrev cX11_later : ByteArray := prog_13_method_69_code
def yX11_later : MethodName := ⟨RX11, "later", "(III)I"⟩
abbrev cX11_knows : ByteArray := prog_13_method_70_code
def yX11_knows : MethodName := ⟨RX11, "knows", "(II)I"⟩
abbrev cX11_hears : ByteArray := prog_13_method_71_code
def yX11_hears : MethodName := ⟨RX11, "hears", "(II)I"⟩
abbrev cX11_changes : ByteArray := prog_13_method_72_code
def yX11_changes : MethodName := ⟨RX11, "changes", "(II)V"⟩
abbrev cX11_knowMany : ByteArray := prog_13_method_73_code
def yX11_knowMany : MethodName := ⟨RX11, "knowMany", "(II)I"⟩
abbrev cX11_discreet : ByteArray := prog_13_method_74_code
def yX11_discreet : MethodName := ⟨RX11, "discreet", "(III)I"⟩
abbrev cX11_isPressed : ByteArray := prog_13_method_75_code
def yX11_isPressed : MethodName := ⟨RX11, "isPressed", "(IIII)Z"⟩
abbrev cX11_pressed : ByteArray := prog_13_method_76_code
def yX11_pressed : MethodName := ⟨RX11, "pressed", "(III)I"⟩
abbrev cX11_mops : ByteArray := prog_13_method_77_code
def yX11_mops : MethodName := ⟨RX11, "mops", "()I"⟩
abbrev cX11_canHave : ByteArray := prog_13_method_78_code
def yX11_canHave : MethodName := ⟨RX11, "canHave", "(II)Z"⟩
abbrev cX11_isRow : ByteArray := prog_13_method_79_code
def yX11_isRow : MethodName := ⟨RX11, "isRow", "()Z"⟩
abbrev cX11_desks : ByteArray := prog_13_method_80_code
def yX11_desks : MethodName := ⟨RX11, "desks", "(I)I"⟩
abbrev cX11_refuses : ByteArray := prog_13_method_81_code
def yX11_refuses : MethodName := ⟨RX11, "refuses", "(I)I"⟩
abbrev cX11_see : ByteArray := prog_13_method_82_code
def yX11_see : MethodName := ⟨RX11, "see", "()I"⟩
abbrev cX11_isAsSeen : ByteArray := prog_13_method_83_code
def yX11_isAsSeen : MethodName := ⟨RX11, "isAsSeen", "(I)Z"⟩
abbrev cX11_spillOf : ByteArray := prog_13_method_84_code
def yX11_spillOf : MethodName := ⟨RX11, "spillOf", "(II)I"⟩
abbrev cX11_isTold : ByteArray := prog_13_method_85_code
def yX11_isTold : MethodName := ⟨RX11, "isTold", "(III)I"⟩
abbrev cX11_laysSources : ByteArray := prog_13_method_86_code
def yX11_laysSources : MethodName := ⟨RX11, "laysSources", "(II)V"⟩
abbrev cX11_sources : ByteArray := prog_13_method_87_code
def yX11_sources : MethodName := ⟨RX11, "sources", "(II)I"⟩
abbrev cX11_mostAlike : ByteArray := prog_13_method_88_code
def yX11_mostAlike : MethodName := ⟨RX11, "mostAlike", "(II)I"⟩
abbrev cX11_tells : ByteArray := prog_13_method_89_code
def yX11_tells : MethodName := ⟨RX11, "tells", "(III)I"⟩
abbrev cX11_keeps : ByteArray := prog_13_method_90_code
def yX11_keeps : MethodName := ⟨RX11, "keeps", "()V"⟩
abbrev cX11_undo : ByteArray := prog_13_method_91_code
def yX11_undo : MethodName := ⟨RX11, "undo", "()Z"⟩
abbrev cX11_tell : ByteArray := prog_13_method_92_code
def yX11_tell : MethodName := ⟨RX11, "tell", "(III)I"⟩
abbrev cX11_goesOut : ByteArray := prog_13_method_93_code
def yX11_goesOut : MethodName := ⟨RX11, "goesOut", "(II)I"⟩
abbrev cX11_squeeze : ByteArray := prog_13_method_94_code
def yX11_squeeze : MethodName := ⟨RX11, "squeeze", "(I)I"⟩
abbrev cX11_rinse : ByteArray := prog_13_method_95_code
def yX11_rinse : MethodName := ⟨RX11, "rinse", "(I)I"⟩
abbrev cX11_mop : ByteArray := prog_13_method_96_code
def yX11_mop : MethodName := ⟨RX11, "mop", "(I)I"⟩
abbrev cX11_change : ByteArray := prog_13_method_97_code
def yX11_change : MethodName := ⟨RX11, "change", "(II)Z"⟩
abbrev cX11_days : ByteArray := prog_13_method_98_code
def yX11_days : MethodName := ⟨RX11, "days", "(I)I"⟩
abbrev cX11_seed : ByteArray := prog_13_method_99_code
def yX11_seed : MethodName := ⟨RX11, "seed", "(I)Z"⟩
abbrev cX11_drawOf : ByteArray := prog_13_method_100_code
def yX11_drawOf : MethodName := ⟨RX11, "drawOf", "(I)I"⟩
abbrev cX11_canShake : ByteArray := prog_13_method_101_code
def yX11_canShake : MethodName := ⟨RX11, "canShake", "(II)Z"⟩
abbrev cX11_shake : ByteArray := prog_13_method_102_code
def yX11_shake : MethodName := ⟨RX11, "shake", "(II)V"⟩
abbrev cX11_chance : ByteArray := prog_13_method_103_code
def yX11_chance : MethodName := ⟨RX11, "chance", "(I)I"⟩
abbrev cX11_qCode : ByteArray := prog_13_method_104_code
def yX11_qCode : MethodName := ⟨RX11, "qCode", "(I)V"⟩
abbrev cX11_qOpens : ByteArray := prog_13_method_105_code
def yX11_qOpens : MethodName := ⟨RX11, "qOpens", "(II)V"⟩
abbrev cX11_qIsOn : ByteArray := prog_13_method_106_code
def yX11_qIsOn : MethodName := ⟨RX11, "qIsOn", "(I)Z"⟩
abbrev cX11_qDrops : ByteArray := prog_13_method_107_code
def yX11_qDrops : MethodName := ⟨RX11, "qDrops", "()V"⟩
abbrev cX11_qIsBracket : ByteArray := prog_13_method_108_code
def yX11_qIsBracket : MethodName := ⟨RX11, "qIsBracket", "(I)Z"⟩
abbrev cX11_qBracket : ByteArray := prog_13_method_109_code
def yX11_qBracket : MethodName := ⟨RX11, "qBracket", "()I"⟩
abbrev cX11_qDropsToBracket : ByteArray := prog_13_method_110_code
def yX11_qDropsToBracket : MethodName := ⟨RX11, "qDropsToBracket", "()V"⟩
abbrev cX11_qWordHere : ByteArray := prog_13_method_111_code
def yX11_qWordHere : MethodName := ⟨RX11, "qWordHere", "()I"⟩
abbrev cX11_qWordOf : ByteArray := prog_13_method_112_code
def yX11_qWordOf : MethodName := ⟨RX11, "qWordOf", "(II)I"⟩
abbrev cX11_qAsksWord : ByteArray := prog_13_method_113_code
def yX11_qAsksWord : MethodName := ⟨RX11, "qAsksWord", "(I)V"⟩
abbrev cX11_qEndsPart : ByteArray := prog_13_method_114_code
def yX11_qEndsPart : MethodName := ⟨RX11, "qEndsPart", "()V"⟩
abbrev cX11_qPartTold : ByteArray := prog_13_method_115_code
def yX11_qPartTold : MethodName := ⟨RX11, "qPartTold", "()V"⟩
abbrev cX11_qGoesOn : ByteArray := prog_13_method_116_code
def yX11_qGoesOn : MethodName := ⟨RX11, "qGoesOn", "()Z"⟩
abbrev cX11_qSums : ByteArray := prog_13_method_117_code
def yX11_qSums : MethodName := ⟨RX11, "qSums", "()V"⟩
abbrev cX11_qFact : ByteArray := prog_13_method_118_code
def yX11_qFact : MethodName := ⟨RX11, "qFact", "()V"⟩
abbrev cX11_qHasSquare : ByteArray := prog_13_method_119_code
def yX11_qHasSquare : MethodName := ⟨RX11, "qHasSquare", "()Z"⟩
abbrev cX11_qDropsNots : ByteArray := prog_13_method_120_code
def yX11_qDropsNots : MethodName := ⟨RX11, "qDropsNots", "()V"⟩
abbrev cX11_qTest : ByteArray := prog_13_method_121_code
def yX11_qTest : MethodName := ⟨RX11, "qTest", "()V"⟩
abbrev cX11_qGoesOnTest : ByteArray := prog_13_method_122_code
def yX11_qGoesOnTest : MethodName := ⟨RX11, "qGoesOnTest", "()Z"⟩
abbrev cX11_qClip : ByteArray := prog_13_method_123_code
def yX11_qClip : MethodName := ⟨RX11, "qClip", "(J)J"⟩
abbrev cX11_qFloor : ByteArray := prog_13_method_124_code
def yX11_qFloor : MethodName := ⟨RX11, "qFloor", "(JJ)J"⟩
abbrev cX11_qPuts : ByteArray := prog_13_method_125_code
def yX11_qPuts : MethodName := ⟨RX11, "qPuts", "(J)V"⟩
abbrev cX11_qJoins : ByteArray := prog_13_method_126_code
def yX11_qJoins : MethodName := ⟨RX11, "qJoins", "(I)V"⟩
abbrev cX11_qPartOf : ByteArray := prog_13_method_127_code
def yX11_qPartOf : MethodName := ⟨RX11, "qPartOf", "(II)J"⟩
abbrev cX11_qOf : ByteArray := prog_13_method_128_code
def yX11_qOf : MethodName := ⟨RX11, "qOf", "(IJI)J"⟩
abbrev cX11_qTold : ByteArray := prog_13_method_129_code
def yX11_qTold : MethodName := ⟨RX11, "qTold", "(I)J"⟩
abbrev cX11_qKind : ByteArray := prog_13_method_130_code
def yX11_qKind : MethodName := ⟨RX11, "qKind", "()I"⟩
abbrev cX11_qTakes : ByteArray := prog_13_method_131_code
def yX11_qTakes : MethodName := ⟨RX11, "qTakes", "(IJI)V"⟩
abbrev cX11_ask : ByteArray := prog_13_method_132_code
def yX11_ask : MethodName := ⟨RX11, "ask", "()J"⟩
abbrev cX11_checked : ByteArray := prog_13_method_133_code
def yX11_checked : MethodName := ⟨RX11, "checked", "([II)I"⟩
abbrev cX11_writes : ByteArray := prog_13_method_134_code
def yX11_writes : MethodName := ⟨RX11, "writes", "(I)V"⟩
abbrev cX11_writesTwo : ByteArray := prog_13_method_135_code
def yX11_writesTwo : MethodName := ⟨RX11, "writesTwo", "(I)V"⟩
abbrev cX11_image : ByteArray := prog_13_method_136_code
def yX11_image : MethodName := ⟨RX11, "image", "()I"⟩
abbrev cX11_octet : ByteArray := prog_13_method_137_code
def yX11_octet : MethodName := ⟨RX11, "octet", "(I)I"⟩
abbrev cX11_twoAt : ByteArray := prog_13_method_138_code
def yX11_twoAt : MethodName := ⟨RX11, "twoAt", "(I)I"⟩
abbrev cX11_isClerkTold : ByteArray := prog_13_method_139_code
def yX11_isClerkTold : MethodName := ⟨RX11, "isClerkTold", "(I)Z"⟩
abbrev cX11_isImage : ByteArray := prog_13_method_140_code
def yX11_isImage : MethodName := ⟨RX11, "isImage", "(I)Z"⟩
abbrev cX11_on : ByteArray := prog_13_method_141_code
def yX11_on : MethodName := ⟨RX11, "on", "()Z"⟩
abbrev cX11_status : ByteArray := prog_13_method_142_code
def yX11_status : MethodName := ⟨RX11, "status", "(I)I"⟩
def RJ6 : String := "java/lang/Integer"
abbrev cJ6_bitCount_0f7a4 : ByteArray := prog_14_method_49_code
def yJ6_bitCount_0f7a4 : MethodName := ⟨RJ6, "bitCount", "(I)I"⟩
def RJ9 : String := "java/lang/Math"
abbrev cJ9_floorDiv_7cf53 : ByteArray := prog_15_method_47_code
def yJ9_floorDiv_7cf53 : MethodName := ⟨RJ9, "floorDiv", "(II)I"⟩
abbrev cJ9_max_7cf53 : ByteArray := prog_15_method_65_code
def yJ9_max_7cf53 : MethodName := ⟨RJ9, "max", "(II)I"⟩
abbrev cJ9_max_f86c9 : ByteArray := prog_15_method_66_code
def yJ9_max_f86c9 : MethodName := ⟨RJ9, "max", "(JJ)J"⟩
abbrev cJ9_min_7cf53 : ByteArray := prog_15_method_69_code
def yJ9_min_7cf53 : MethodName := ⟨RJ9, "min", "(II)I"⟩
abbrev cJ9_min_f86c9 : ByteArray := prog_15_method_70_code
def yJ9_min_f86c9 : MethodName := ⟨RJ9, "min", "(JJ)J"⟩
def RJ0 : String := "java/lang/String"
abbrev cJ0_length_8abf5 : ByteArray := prog_16_method_54_code
def yJ0_length_8abf5 : MethodName := ⟨RJ0, "length", "()I"⟩
abbrev cJ0_charAt_5068e : ByteArray := prog_16_method_56_code
def yJ0_charAt_5068e : MethodName := ⟨RJ0, "charAt", "(I)C"⟩
abbrev cJ0_coder_7d493 : ByteArray := prog_16_method_152_code
def yJ0_coder_7d493 : MethodName := ⟨RJ0, "coder", "()B"⟩
abbrev cJ0_isLatin1_aae02 : ByteArray := prog_16_method_154_code
def yJ0_isLatin1_aae02 : MethodName := ⟨RJ0, "isLatin1", "()Z"⟩
abbrev cJ0_checkIndex_df160 : ByteArray := prog_16_method_155_code
def yJ0_checkIndex_df160 : MethodName := ⟨RJ0, "checkIndex", "(II)V"⟩
def RJ1 : String := "java/lang/StringLatin1"
abbrev cJ1_charAt_3b067 : ByteArray := prog_17_method_2_code
def yJ1_charAt_3b067 : MethodName := ⟨RJ1, "charAt", "([BI)C"⟩
def RJ2 : String := "java/lang/StringUTF16"
abbrev cJ2_getChar_3b067 : ByteArray := prog_18_method_5_code
def yJ2_getChar_3b067 : MethodName := ⟨RJ2, "getChar", "([BI)C"⟩
abbrev cJ2_length_9d52b : ByteArray := prog_18_method_6_code
def yJ2_length_9d52b : MethodName := ⟨RJ2, "length", "([B)I"⟩
abbrev cJ2_charAt_3b067 : ByteArray := prog_18_method_83_code
def yJ2_charAt_3b067 : MethodName := ⟨RJ2, "charAt", "([BI)C"⟩
abbrev cJ2_checkIndex_2214a : ByteArray := prog_18_method_91_code
def yJ2_checkIndex_2214a : MethodName := ⟨RJ2, "checkIndex", "(I[B)V"⟩
def RJ10 : String := "java/lang/System"
def RJ3 : String := "jdk/internal/util/Preconditions"
abbrev cJ3_checkIndex_8e157 : ByteArray := prog_20_method_11_code
def yJ3_checkIndex_8e157 : MethodName := ⟨RJ3, "checkIndex", "(IILjava/util/function/BiFunction;)I"⟩
def RL : String := "SpongeClerksLaw"
abbrev cL_law : ByteArray := code
def yL_law : MethodName := ⟨RL, "law", "([I)Z"⟩
def vCl : List vw_C := [(RX0, TX0, 9), (RX1, TX1, 2), (RX2, TX2, 16), (RX3, TX3, 3), (RX4, TX4, 9), (RX5, TX5, 7), (RX6, TX6, 2), (RX7, TX7, 11), (RX8, TX8, 7), (RX9, TX9, 3), (RX10, TX10, 16), (RX11, TX11, 99)]
def fNo (c : Nat) : Nat := match c with
  | 0 => 9
  | 1 => 2
  | 2 => 16
  | 3 => 3
  | 4 => 9
  | 5 => 7
  | 6 => 2
  | 7 => 11
  | 8 => 7
  | 9 => 3
  | 10 => 16
  | 11 => 99
  | _ => 0
def fTy (c : Nat) : Nat → FieldType := match c with
  | 0 => tyX0
  | 1 => tyX1
  | 2 => tyX2
  | 3 => tyX3
  | 4 => tyX4
  | 5 => tyX5
  | 6 => tyX6
  | 7 => tyX7
  | 8 => tyX8
  | 9 => tyX9
  | 10 => tyX10
  | 11 => tyX11
  | _ => fun _ => .int
def fT (c k : Nat) : Nat := fTag (fTy c k)
theorem sub_ix {big : List Cond} (ws : List Cond) (ps : List Nat) (hp : ws = ps.filterMap (fun i => big[i]?)) : ∀ w ∈ ws, w ∈ big := by
  intro w hw
  rw [hp] at hw
  obtain ⟨i, -, hi⟩ := List.mem_filterMap.mp hw
  exact List.mem_of_getElem? hi
theorem tb1 {w : Cond} (h : w ∈ tables_1_1) : w ∈ lw_tbl := List.mem_append_right _ (List.mem_append_left _ h)
theorem tb2 {w : Cond} (h : w ∈ tables_1_2) : w ∈ lw_tbl := List.mem_append_right _ (List.mem_append_right _ (List.mem_append_left _ h))
theorem tb3 {w : Cond} (h : w ∈ tables_1_3) : w ∈ lw_tbl := List.mem_append_right _ (List.mem_append_right _ (List.mem_append_right _ (List.mem_append_left _ h)))
theorem tb4 {w : Cond} (h : w ∈ tables_1_4) : w ∈ lw_tbl := List.mem_append_right _ (List.mem_append_right _ (List.mem_append_right _ (List.mem_append_right _ (List.mem_append_left _ h))))
theorem tb5 {w : Cond} (h : w ∈ tables_1_5) : w ∈ lw_tbl := List.mem_append_right _ (List.mem_append_right _ (List.mem_append_right _ (List.mem_append_right _ (List.mem_append_right _ (List.mem_append_left _ h)))))
theorem tb6 {w : Cond} (h : w ∈ tables_1_6) : w ∈ lw_tbl := List.mem_append_right _ (List.mem_append_right _ (List.mem_append_right _ (List.mem_append_right _ (List.mem_append_right _ (List.mem_append_right _ (List.mem_append_left _ h))))))
theorem tb7 {w : Cond} (h : w ∈ tables_1_7) : w ∈ lw_tbl := List.mem_append_right _ (List.mem_append_right _ (List.mem_append_right _ (List.mem_append_right _ (List.mem_append_right _ (List.mem_append_right _ (List.mem_append_right _ (List.mem_append_left _ h)))))))
theorem tb8 {w : Cond} (h : w ∈ tables_1_8) : w ∈ lw_tbl := List.mem_append_right _ (List.mem_append_right _ (List.mem_append_right _ (List.mem_append_right _ (List.mem_append_right _ (List.mem_append_right _ (List.mem_append_right _ (List.mem_append_right _ (List.mem_append_left _ h))))))))
theorem tb9 {w : Cond} (h : w ∈ tables_1_9) : w ∈ lw_tbl := List.mem_append_right _ (List.mem_append_right _ (List.mem_append_right _ (List.mem_append_right _ (List.mem_append_right _ (List.mem_append_right _ (List.mem_append_right _ (List.mem_append_right _ (List.mem_append_right _ (h)))))))))
theorem lyX0_0 : u_lay RX0 TX0 0 ∈ lw_tbl := tb2 (List.mem_of_getElem? (i := 184) rfl)
theorem lyX0_1 : u_lay RX0 TX0 1 ∈ lw_tbl := tb2 (List.mem_of_getElem? (i := 186) rfl)
theorem lyX0_2 : u_lay RX0 TX0 2 ∈ lw_tbl := tb2 (List.mem_of_getElem? (i := 188) rfl)
theorem lyX0_3 : u_lay RX0 TX0 3 ∈ lw_tbl := tb2 (List.mem_of_getElem? (i := 190) rfl)
theorem lyX0_4 : u_lay RX0 TX0 4 ∈ lw_tbl := tb2 (List.mem_of_getElem? (i := 192) rfl)
theorem lyX0_5 : u_lay RX0 TX0 5 ∈ lw_tbl := tb2 (List.mem_of_getElem? (i := 194) rfl)
theorem lyX0_6 : u_lay RX0 TX0 6 ∈ lw_tbl := tb2 (List.mem_of_getElem? (i := 196) rfl)
theorem lyX0_7 : u_lay RX0 TX0 7 ∈ lw_tbl := tb2 (List.mem_of_getElem? (i := 198) rfl)
theorem lyX0_8 : u_lay RX0 TX0 8 ∈ lw_tbl := tb2 (List.mem_of_getElem? (i := 200) rfl)
theorem lysX0 : ∀ w ∈ u_ws RX0 TX0 9, w ∈ lw_tbl := by
  intro w h
  obtain ⟨k, hk, rfl⟩ := List.mem_map.mp h
  have hk := List.mem_range.mp hk
  match k, hk with
  | 0, _ => exact lyX0_0
  | 1, _ => exact lyX0_1
  | 2, _ => exact lyX0_2
  | 3, _ => exact lyX0_3
  | 4, _ => exact lyX0_4
  | 5, _ => exact lyX0_5
  | 6, _ => exact lyX0_6
  | 7, _ => exact lyX0_7
  | 8, _ => exact lyX0_8
  | n + 9, h => exact absurd h (by omega)
theorem lyX1_0 : u_lay RX1 TX1 0 ∈ lw_tbl := tb2 (List.mem_of_getElem? (i := 108) rfl)
theorem lyX1_1 : u_lay RX1 TX1 1 ∈ lw_tbl := tb2 (List.mem_of_getElem? (i := 110) rfl)
theorem lysX1 : ∀ w ∈ u_ws RX1 TX1 2, w ∈ lw_tbl := by
  intro w h
  obtain ⟨k, hk, rfl⟩ := List.mem_map.mp h
  have hk := List.mem_range.mp hk
  match k, hk with
  | 0, _ => exact lyX1_0
  | 1, _ => exact lyX1_1
  | n + 2, h => exact absurd h (by omega)
theorem lyX2_0 : u_lay RX2 TX2 0 ∈ lw_tbl := tb1 (List.mem_of_getElem? (i := 115) rfl)
theorem lyX2_1 : u_lay RX2 TX2 1 ∈ lw_tbl := tb1 (List.mem_of_getElem? (i := 117) rfl)
theorem lyX2_2 : u_lay RX2 TX2 2 ∈ lw_tbl := tb1 (List.mem_of_getElem? (i := 119) rfl)
theorem lyX2_3 : u_lay RX2 TX2 3 ∈ lw_tbl := tb1 (List.mem_of_getElem? (i := 121) rfl)
theorem lyX2_4 : u_lay RX2 TX2 4 ∈ lw_tbl := tb1 (List.mem_of_getElem? (i := 123) rfl)
theorem lyX2_5 : u_lay RX2 TX2 5 ∈ lw_tbl := tb1 (List.mem_of_getElem? (i := 125) rfl)
theorem lyX2_6 : u_lay RX2 TX2 6 ∈ lw_tbl := tb1 (List.mem_of_getElem? (i := 127) rfl)
theorem lyX2_7 : u_lay RX2 TX2 7 ∈ lw_tbl := tb1 (List.mem_of_getElem? (i := 129) rfl)
theorem lyX2_8 : u_lay RX2 TX2 8 ∈ lw_tbl := tb1 (List.mem_of_getElem? (i := 131) rfl)
theorem lyX2_9 : u_lay RX2 TX2 9 ∈ lw_tbl := tb1 (List.mem_of_getElem? (i := 133) rfl)
theorem lyX2_10 : u_lay RX2 TX2 10 ∈ lw_tbl := tb1 (List.mem_of_getElem? (i := 135) rfl)
theorem lyX2_11 : u_lay RX2 TX2 11 ∈ lw_tbl := tb1 (List.mem_of_getElem? (i := 137) rfl)
theorem lyX2_12 : u_lay RX2 TX2 12 ∈ lw_tbl := tb1 (List.mem_of_getElem? (i := 139) rfl)
theorem lyX2_13 : u_lay RX2 TX2 13 ∈ lw_tbl := tb1 (List.mem_of_getElem? (i := 141) rfl)
theorem lyX2_14 : u_lay RX2 TX2 14 ∈ lw_tbl := tb1 (List.mem_of_getElem? (i := 143) rfl)
theorem lyX2_15 : u_lay RX2 TX2 15 ∈ lw_tbl := tb1 (List.mem_of_getElem? (i := 145) rfl)
theorem lysX2 : ∀ w ∈ u_ws RX2 TX2 16, w ∈ lw_tbl := by
  intro w h
  obtain ⟨k, hk, rfl⟩ := List.mem_map.mp h
  have hk := List.mem_range.mp hk
  match k, hk with
  | 0, _ => exact lyX2_0
  | 1, _ => exact lyX2_1
  | 2, _ => exact lyX2_2
  | 3, _ => exact lyX2_3
  | 4, _ => exact lyX2_4
  | 5, _ => exact lyX2_5
  | 6, _ => exact lyX2_6
  | 7, _ => exact lyX2_7
  | 8, _ => exact lyX2_8
  | 9, _ => exact lyX2_9
  | 10, _ => exact lyX2_10
  | 11, _ => exact lyX2_11
  | 12, _ => exact lyX2_12
  | 13, _ => exact lyX2_13
  | 14, _ => exact lyX2_14
  | 15, _ => exact lyX2_15
  | n + 16, h => exact absurd h (by omega)
theorem lyX3_0 : u_lay RX3 TX3 0 ∈ lw_tbl := tb1 (List.mem_of_getElem? (i := 218) rfl)
theorem lyX3_1 : u_lay RX3 TX3 1 ∈ lw_tbl := tb1 (List.mem_of_getElem? (i := 220) rfl)
theorem lyX3_2 : u_lay RX3 TX3 2 ∈ lw_tbl := tb1 (List.mem_of_getElem? (i := 222) rfl)
theorem lysX3 : ∀ w ∈ u_ws RX3 TX3 3, w ∈ lw_tbl := by
  intro w h
  obtain ⟨k, hk, rfl⟩ := List.mem_map.mp h
  have hk := List.mem_range.mp hk
  match k, hk with
  | 0, _ => exact lyX3_0
  | 1, _ => exact lyX3_1
  | 2, _ => exact lyX3_2
  | n + 3, h => exact absurd h (by omega)
theorem lyX4_0 : u_lay RX4 TX4 0 ∈ lw_tbl := tb2 (List.mem_of_getElem? (i := 147) rfl)
theorem lyX4_1 : u_lay RX4 TX4 1 ∈ lw_tbl := tb2 (List.mem_of_getElem? (i := 149) rfl)
theorem lyX4_2 : u_lay RX4 TX4 2 ∈ lw_tbl := tb2 (List.mem_of_getElem? (i := 151) rfl)
theorem lyX4_3 : u_lay RX4 TX4 3 ∈ lw_tbl := tb2 (List.mem_of_getElem? (i := 153) rfl)
theorem lyX4_4 : u_lay RX4 TX4 4 ∈ lw_tbl := tb2 (List.mem_of_getElem? (i := 155) rfl)
theorem lyX4_5 : u_lay RX4 TX4 5 ∈ lw_tbl := tb2 (List.mem_of_getElem? (i := 157) rfl)
theorem lyX4_6 : u_lay RX4 TX4 6 ∈ lw_tbl := tb2 (List.mem_of_getElem? (i := 159) rfl)
theorem lyX4_7 : u_lay RX4 TX4 7 ∈ lw_tbl := tb2 (List.mem_of_getElem? (i := 161) rfl)
theorem lyX4_8 : u_lay RX4 TX4 8 ∈ lw_tbl := tb2 (List.mem_of_getElem? (i := 163) rfl)
theorem lysX4 : ∀ w ∈ u_ws RX4 TX4 9, w ∈ lw_tbl := by
  intro w h
  obtain ⟨k, hk, rfl⟩ := List.mem_map.mp h
  have hk := List.mem_range.mp hk
  match k, hk with
  | 0, _ => exact lyX4_0
  | 1, _ => exact lyX4_1
  | 2, _ => exact lyX4_2
  | 3, _ => exact lyX4_3
  | 4, _ => exact lyX4_4
  | 5, _ => exact lyX4_5
  | 6, _ => exact lyX4_6
  | 7, _ => exact lyX4_7
  | 8, _ => exact lyX4_8
  | n + 9, h => exact absurd h (by omega)
theorem lyX5_0 : u_lay RX5 TX5 0 ∈ lw_tbl := tb2 (List.mem_of_getElem? (i := 85) rfl)
theorem lyX5_1 : u_lay RX5 TX5 1 ∈ lw_tbl := tb2 (List.mem_of_getElem? (i := 87) rfl)
theorem lyX5_2 : u_lay RX5 TX5 2 ∈ lw_tbl := tb2 (List.mem_of_getElem? (i := 89) rfl)
theorem lyX5_3 : u_lay RX5 TX5 3 ∈ lw_tbl := tb2 (List.mem_of_getElem? (i := 91) rfl)
theorem lyX5_4 : u_lay RX5 TX5 4 ∈ lw_tbl := tb2 (List.mem_of_getElem? (i := 93) rfl)
theorem lyX5_5 : u_lay RX5 TX5 5 ∈ lw_tbl := tb2 (List.mem_of_getElem? (i := 95) rfl)
theorem lyX5_6 : u_lay RX5 TX5 6 ∈ lw_tbl := tb2 (List.mem_of_getElem? (i := 97) rfl)
theorem lysX5 : ∀ w ∈ u_ws RX5 TX5 7, w ∈ lw_tbl := by
  intro w h
  obtain ⟨k, hk, rfl⟩ := List.mem_map.mp h
  have hk := List.mem_range.mp hk
  match k, hk with
  | 0, _ => exact lyX5_0
  | 1, _ => exact lyX5_1
  | 2, _ => exact lyX5_2
  | 3, _ => exact lyX5_3
  | 4, _ => exact lyX5_4
  | 5, _ => exact lyX5_5
  | 6, _ => exact lyX5_6
  | n + 7, h => exact absurd h (by omega)
theorem lyX6_0 : u_lay RX6 TX6 0 ∈ lw_tbl := tb1 (List.mem_of_getElem? (i := 44) rfl)
theorem lyX6_1 : u_lay RX6 TX6 1 ∈ lw_tbl := tb1 (List.mem_of_getElem? (i := 46) rfl)
theorem lysX6 : ∀ w ∈ u_ws RX6 TX6 2, w ∈ lw_tbl := by
  intro w h
  obtain ⟨k, hk, rfl⟩ := List.mem_map.mp h
  have hk := List.mem_range.mp hk
  match k, hk with
  | 0, _ => exact lyX6_0
  | 1, _ => exact lyX6_1
  | n + 2, h => exact absurd h (by omega)
theorem lyX7_0 : u_lay RX7 TX7 0 ∈ lw_tbl := tb1 (List.mem_of_getElem? (i := 182) rfl)
theorem lyX7_1 : u_lay RX7 TX7 1 ∈ lw_tbl := tb1 (List.mem_of_getElem? (i := 184) rfl)
theorem lyX7_2 : u_lay RX7 TX7 2 ∈ lw_tbl := tb1 (List.mem_of_getElem? (i := 186) rfl)
theorem lyX7_3 : u_lay RX7 TX7 3 ∈ lw_tbl := tb1 (List.mem_of_getElem? (i := 188) rfl)
theorem lyX7_4 : u_lay RX7 TX7 4 ∈ lw_tbl := tb1 (List.mem_of_getElem? (i := 190) rfl)
theorem lyX7_5 : u_lay RX7 TX7 5 ∈ lw_tbl := tb1 (List.mem_of_getElem? (i := 192) rfl)
theorem lyX7_6 : u_lay RX7 TX7 6 ∈ lw_tbl := tb1 (List.mem_of_getElem? (i := 194) rfl)
theorem lyX7_7 : u_lay RX7 TX7 7 ∈ lw_tbl := tb1 (List.mem_of_getElem? (i := 196) rfl)
theorem lyX7_8 : u_lay RX7 TX7 8 ∈ lw_tbl := tb1 (List.mem_of_getElem? (i := 198) rfl)
theorem lyX7_9 : u_lay RX7 TX7 9 ∈ lw_tbl := tb1 (List.mem_of_getElem? (i := 200) rfl)
theorem lyX7_10 : u_lay RX7 TX7 10 ∈ lw_tbl := tb1 (List.mem_of_getElem? (i := 202) rfl)
theorem lysX7 : ∀ w ∈ u_ws RX7 TX7 11, w ∈ lw_tbl := by
  intro w h
  obtain ⟨k, hk, rfl⟩ := List.mem_map.mp h
  have hk := List.mem_range.mp hk
  match k, hk with
  | 0, _ => exact lyX7_0
  | 1, _ => exact lyX7_1
  | 2, _ => exact lyX7_2
  | 3, _ => exact lyX7_3
  | 4, _ => exact lyX7_4
  | 5, _ => exact lyX7_5
  | 6, _ => exact lyX7_6
  | 7, _ => exact lyX7_7
  | 8, _ => exact lyX7_8
  | 9, _ => exact lyX7_9
  | 10, _ => exact lyX7_10
  | n + 11, h => exact absurd h (by omega)
theorem lyX8_0 : u_lay RX8 TX8 0 ∈ lw_tbl := tb2 (List.mem_of_getElem? (i := 60) rfl)
theorem lyX8_1 : u_lay RX8 TX8 1 ∈ lw_tbl := tb2 (List.mem_of_getElem? (i := 62) rfl)
theorem lyX8_2 : u_lay RX8 TX8 2 ∈ lw_tbl := tb2 (List.mem_of_getElem? (i := 64) rfl)
theorem lyX8_3 : u_lay RX8 TX8 3 ∈ lw_tbl := tb2 (List.mem_of_getElem? (i := 66) rfl)
theorem lyX8_4 : u_lay RX8 TX8 4 ∈ lw_tbl := tb2 (List.mem_of_getElem? (i := 68) rfl)
theorem lyX8_5 : u_lay RX8 TX8 5 ∈ lw_tbl := tb2 (List.mem_of_getElem? (i := 70) rfl)
theorem lyX8_6 : u_lay RX8 TX8 6 ∈ lw_tbl := tb2 (List.mem_of_getElem? (i := 72) rfl)
theorem lysX8 : ∀ w ∈ u_ws RX8 TX8 7, w ∈ lw_tbl := by
  intro w h
  obtain ⟨k, hk, rfl⟩ := List.mem_map.mp h
  have hk := List.mem_range.mp hk
  match k, hk with
  | 0, _ => exact lyX8_0
  | 1, _ => exact lyX8_1
  | 2, _ => exact lyX8_2
  | 3, _ => exact lyX8_3
  | 4, _ => exact lyX8_4
  | 5, _ => exact lyX8_5
  | 6, _ => exact lyX8_6
  | n + 7, h => exact absurd h (by omega)
theorem lyX9_0 : u_lay RX9 TX9 0 ∈ lw_tbl := tb2 (List.mem_of_getElem? (i := 122) rfl)
theorem lyX9_1 : u_lay RX9 TX9 1 ∈ lw_tbl := tb2 (List.mem_of_getElem? (i := 124) rfl)
theorem lyX9_2 : u_lay RX9 TX9 2 ∈ lw_tbl := tb2 (List.mem_of_getElem? (i := 126) rfl)
theorem lysX9 : ∀ w ∈ u_ws RX9 TX9 3, w ∈ lw_tbl := by
  intro w h
  obtain ⟨k, hk, rfl⟩ := List.mem_map.mp h
  have hk := List.mem_range.mp hk
  match k, hk with
  | 0, _ => exact lyX9_0
  | 1, _ => exact lyX9_1
  | 2, _ => exact lyX9_2
  | n + 3, h => exact absurd h (by omega)
theorem lyX10_0 : u_lay RX10 TX10 0 ∈ lw_tbl := tb2 (List.mem_of_getElem? (i := 219) rfl)
theorem lyX10_1 : u_lay RX10 TX10 1 ∈ lw_tbl := tb2 (List.mem_of_getElem? (i := 221) rfl)
theorem lyX10_2 : u_lay RX10 TX10 2 ∈ lw_tbl := tb2 (List.mem_of_getElem? (i := 223) rfl)
theorem lyX10_3 : u_lay RX10 TX10 3 ∈ lw_tbl := tb2 (List.mem_of_getElem? (i := 225) rfl)
theorem lyX10_4 : u_lay RX10 TX10 4 ∈ lw_tbl := tb2 (List.mem_of_getElem? (i := 227) rfl)
theorem lyX10_5 : u_lay RX10 TX10 5 ∈ lw_tbl := tb2 (List.mem_of_getElem? (i := 229) rfl)
theorem lyX10_6 : u_lay RX10 TX10 6 ∈ lw_tbl := tb2 (List.mem_of_getElem? (i := 231) rfl)
theorem lyX10_7 : u_lay RX10 TX10 7 ∈ lw_tbl := tb2 (List.mem_of_getElem? (i := 233) rfl)
theorem lyX10_8 : u_lay RX10 TX10 8 ∈ lw_tbl := tb2 (List.mem_of_getElem? (i := 235) rfl)
theorem lyX10_9 : u_lay RX10 TX10 9 ∈ lw_tbl := tb2 (List.mem_of_getElem? (i := 237) rfl)
theorem lyX10_10 : u_lay RX10 TX10 10 ∈ lw_tbl := tb2 (List.mem_of_getElem? (i := 239) rfl)
theorem lyX10_11 : u_lay RX10 TX10 11 ∈ lw_tbl := tb3 (List.mem_of_getElem? (i := 1) rfl)
theorem lyX10_12 : u_lay RX10 TX10 12 ∈ lw_tbl := tb3 (List.mem_of_getElem? (i := 3) rfl)
theorem lyX10_13 : u_lay RX10 TX10 13 ∈ lw_tbl := tb3 (List.mem_of_getElem? (i := 5) rfl)
theorem lyX10_14 : u_lay RX10 TX10 14 ∈ lw_tbl := tb3 (List.mem_of_getElem? (i := 7) rfl)
theorem lyX10_15 : u_lay RX10 TX10 15 ∈ lw_tbl := tb3 (List.mem_of_getElem? (i := 9) rfl)
theorem lysX10 : ∀ w ∈ u_ws RX10 TX10 16, w ∈ lw_tbl := by
  intro w h
  obtain ⟨k, hk, rfl⟩ := List.mem_map.mp h
  have hk := List.mem_range.mp hk
  match k, hk with
  | 0, _ => exact lyX10_0
  | 1, _ => exact lyX10_1
  | 2, _ => exact lyX10_2
  | 3, _ => exact lyX10_3
  | 4, _ => exact lyX10_4
  | 5, _ => exact lyX10_5
  | 6, _ => exact lyX10_6
  | 7, _ => exact lyX10_7
  | 8, _ => exact lyX10_8
  | 9, _ => exact lyX10_9
  | 10, _ => exact lyX10_10
  | 11, _ => exact lyX10_11
  | 12, _ => exact lyX10_12
  | 13, _ => exact lyX10_13
  | 14, _ => exact lyX10_14
  | 15, _ => exact lyX10_15
  | n + 16, h => exact absurd h (by omega)
theorem lyX11_0 : u_lay RX11 TX11 0 ∈ lw_tbl := tb6 (List.mem_of_getElem? (i := 159) rfl)
theorem lyX11_1 : u_lay RX11 TX11 1 ∈ lw_tbl := tb6 (List.mem_of_getElem? (i := 161) rfl)
theorem lyX11_2 : u_lay RX11 TX11 2 ∈ lw_tbl := tb6 (List.mem_of_getElem? (i := 163) rfl)
theorem lyX11_3 : u_lay RX11 TX11 3 ∈ lw_tbl := tb6 (List.mem_of_getElem? (i := 165) rfl)
theorem lyX11_4 : u_lay RX11 TX11 4 ∈ lw_tbl := tb6 (List.mem_of_getElem? (i := 167) rfl)
theorem lyX11_5 : u_lay RX11 TX11 5 ∈ lw_tbl := tb6 (List.mem_of_getElem? (i := 169) rfl)
theorem lyX11_6 : u_lay RX11 TX11 6 ∈ lw_tbl := tb6 (List.mem_of_getElem? (i := 171) rfl)
theorem lyX11_7 : u_lay RX11 TX11 7 ∈ lw_tbl := tb6 (List.mem_of_getElem? (i := 173) rfl)
theorem lyX11_8 : u_lay RX11 TX11 8 ∈ lw_tbl := tb6 (List.mem_of_getElem? (i := 175) rfl)
theorem lyX11_9 : u_lay RX11 TX11 9 ∈ lw_tbl := tb6 (List.mem_of_getElem? (i := 177) rfl)
theorem lyX11_10 : u_lay RX11 TX11 10 ∈ lw_tbl := tb6 (List.mem_of_getElem? (i := 179) rfl)
theorem lyX11_11 : u_lay RX11 TX11 11 ∈ lw_tbl := tb6 (List.mem_of_getElem? (i := 181) rfl)
theorem lyX11_12 : u_lay RX11 TX11 12 ∈ lw_tbl := tb6 (List.mem_of_getElem? (i := 183) rfl)
theorem lyX11_13 : u_lay RX11 TX11 13 ∈ lw_tbl := tb6 (List.mem_of_getElem? (i := 185) rfl)
theorem lyX11_14 : u_lay RX11 TX11 14 ∈ lw_tbl := tb6 (List.mem_of_getElem? (i := 187) rfl)
theorem lyX11_15 : u_lay RX11 TX11 15 ∈ lw_tbl := tb6 (List.mem_of_getElem? (i := 189) rfl)
theorem lyX11_16 : u_lay RX11 TX11 16 ∈ lw_tbl := tb6 (List.mem_of_getElem? (i := 191) rfl)
theorem lyX11_17 : u_lay RX11 TX11 17 ∈ lw_tbl := tb6 (List.mem_of_getElem? (i := 193) rfl)
theorem lyX11_18 : u_lay RX11 TX11 18 ∈ lw_tbl := tb6 (List.mem_of_getElem? (i := 195) rfl)
theorem lyX11_19 : u_lay RX11 TX11 19 ∈ lw_tbl := tb6 (List.mem_of_getElem? (i := 197) rfl)
theorem lyX11_20 : u_lay RX11 TX11 20 ∈ lw_tbl := tb6 (List.mem_of_getElem? (i := 199) rfl)
theorem lyX11_21 : u_lay RX11 TX11 21 ∈ lw_tbl := tb6 (List.mem_of_getElem? (i := 201) rfl)
theorem lyX11_22 : u_lay RX11 TX11 22 ∈ lw_tbl := tb6 (List.mem_of_getElem? (i := 203) rfl)
theorem lyX11_23 : u_lay RX11 TX11 23 ∈ lw_tbl := tb6 (List.mem_of_getElem? (i := 205) rfl)
theorem lyX11_24 : u_lay RX11 TX11 24 ∈ lw_tbl := tb6 (List.mem_of_getElem? (i := 207) rfl)
theorem lyX11_25 : u_lay RX11 TX11 25 ∈ lw_tbl := tb6 (List.mem_of_getElem? (i := 209) rfl)
theorem lyX11_26 : u_lay RX11 TX11 26 ∈ lw_tbl := tb6 (List.mem_of_getElem? (i := 211) rfl)
theorem lyX11_27 : u_lay RX11 TX11 27 ∈ lw_tbl := tb6 (List.mem_of_getElem? (i := 213) rfl)
theorem lyX11_28 : u_lay RX11 TX11 28 ∈ lw_tbl := tb6 (List.mem_of_getElem? (i := 215) rfl)
theorem lyX11_29 : u_lay RX11 TX11 29 ∈ lw_tbl := tb6 (List.mem_of_getElem? (i := 217) rfl)
theorem lyX11_30 : u_lay RX11 TX11 30 ∈ lw_tbl := tb6 (List.mem_of_getElem? (i := 219) rfl)
theorem lyX11_31 : u_lay RX11 TX11 31 ∈ lw_tbl := tb6 (List.mem_of_getElem? (i := 221) rfl)
theorem lyX11_32 : u_lay RX11 TX11 32 ∈ lw_tbl := tb6 (List.mem_of_getElem? (i := 223) rfl)
theorem lyX11_33 : u_lay RX11 TX11 33 ∈ lw_tbl := tb6 (List.mem_of_getElem? (i := 225) rfl)
theorem lyX11_34 : u_lay RX11 TX11 34 ∈ lw_tbl := tb6 (List.mem_of_getElem? (i := 227) rfl)
theorem lyX11_35 : u_lay RX11 TX11 35 ∈ lw_tbl := tb6 (List.mem_of_getElem? (i := 229) rfl)
theorem lyX11_36 : u_lay RX11 TX11 36 ∈ lw_tbl := tb6 (List.mem_of_getElem? (i := 231) rfl)
theorem lyX11_37 : u_lay RX11 TX11 37 ∈ lw_tbl := tb6 (List.mem_of_getElem? (i := 233) rfl)
theorem lyX11_38 : u_lay RX11 TX11 38 ∈ lw_tbl := tb6 (List.mem_of_getElem? (i := 235) rfl)
theorem lyX11_39 : u_lay RX11 TX11 39 ∈ lw_tbl := tb6 (List.mem_of_getElem? (i := 237) rfl)
theorem lyX11_40 : u_lay RX11 TX11 40 ∈ lw_tbl := tb6 (List.mem_of_getElem? (i := 239) rfl)
theorem lyX11_41 : u_lay RX11 TX11 41 ∈ lw_tbl := tb7 (List.mem_of_getElem? (i := 1) rfl)
theorem lyX11_42 : u_lay RX11 TX11 42 ∈ lw_tbl := tb7 (List.mem_of_getElem? (i := 3) rfl)
theorem lyX11_43 : u_lay RX11 TX11 43 ∈ lw_tbl := tb7 (List.mem_of_getElem? (i := 5) rfl)
theorem lyX11_44 : u_lay RX11 TX11 44 ∈ lw_tbl := tb7 (List.mem_of_getElem? (i := 7) rfl)
theorem lyX11_45 : u_lay RX11 TX11 45 ∈ lw_tbl := tb7 (List.mem_of_getElem? (i := 9) rfl)
theorem lyX11_46 : u_lay RX11 TX11 46 ∈ lw_tbl := tb7 (List.mem_of_getElem? (i := 11) rfl)
theorem lyX11_47 : u_lay RX11 TX11 47 ∈ lw_tbl := tb7 (List.mem_of_getElem? (i := 13) rfl)
theorem lyX11_48 : u_lay RX11 TX11 48 ∈ lw_tbl := tb7 (List.mem_of_getElem? (i := 15) rfl)
theorem lyX11_49 : u_lay RX11 TX11 49 ∈ lw_tbl := tb7 (List.mem_of_getElem? (i := 17) rfl)
theorem lyX11_50 : u_lay RX11 TX11 50 ∈ lw_tbl := tb7 (List.mem_of_getElem? (i := 19) rfl)
theorem lyX11_51 : u_lay RX11 TX11 51 ∈ lw_tbl := tb7 (List.mem_of_getElem? (i := 21) rfl)
theorem lyX11_52 : u_lay RX11 TX11 52 ∈ lw_tbl := tb7 (List.mem_of_getElem? (i := 23) rfl)
theorem lyX11_53 : u_lay RX11 TX11 53 ∈ lw_tbl := tb7 (List.mem_of_getElem? (i := 25) rfl)
theorem lyX11_54 : u_lay RX11 TX11 54 ∈ lw_tbl := tb7 (List.mem_of_getElem? (i := 27) rfl)
theorem lyX11_55 : u_lay RX11 TX11 55 ∈ lw_tbl := tb7 (List.mem_of_getElem? (i := 29) rfl)
theorem lyX11_56 : u_lay RX11 TX11 56 ∈ lw_tbl := tb7 (List.mem_of_getElem? (i := 31) rfl)
theorem lyX11_57 : u_lay RX11 TX11 57 ∈ lw_tbl := tb7 (List.mem_of_getElem? (i := 33) rfl)
theorem lyX11_58 : u_lay RX11 TX11 58 ∈ lw_tbl := tb7 (List.mem_of_getElem? (i := 35) rfl)
theorem lyX11_59 : u_lay RX11 TX11 59 ∈ lw_tbl := tb7 (List.mem_of_getElem? (i := 37) rfl)
theorem lyX11_60 : u_lay RX11 TX11 60 ∈ lw_tbl := tb7 (List.mem_of_getElem? (i := 39) rfl)
theorem lyX11_61 : u_lay RX11 TX11 61 ∈ lw_tbl := tb7 (List.mem_of_getElem? (i := 41) rfl)
theorem lyX11_62 : u_lay RX11 TX11 62 ∈ lw_tbl := tb7 (List.mem_of_getElem? (i := 43) rfl)
theorem lyX11_63 : u_lay RX11 TX11 63 ∈ lw_tbl := tb7 (List.mem_of_getElem? (i := 45) rfl)
theorem lyX11_64 : u_lay RX11 TX11 64 ∈ lw_tbl := tb7 (List.mem_of_getElem? (i := 47) rfl)
theorem lyX11_65 : u_lay RX11 TX11 65 ∈ lw_tbl := tb7 (List.mem_of_getElem? (i := 49) rfl)
theorem lyX11_66 : u_lay RX11 TX11 66 ∈ lw_tbl := tb7 (List.mem_of_getElem? (i := 51) rfl)
theorem lyX11_67 : u_lay RX11 TX11 67 ∈ lw_tbl := tb7 (List.mem_of_getElem? (i := 53) rfl)
theorem lyX11_68 : u_lay RX11 TX11 68 ∈ lw_tbl := tb7 (List.mem_of_getElem? (i := 55) rfl)
theorem lyX11_69 : u_lay RX11 TX11 69 ∈ lw_tbl := tb7 (List.mem_of_getElem? (i := 57) rfl)
theorem lyX11_70 : u_lay RX11 TX11 70 ∈ lw_tbl := tb7 (List.mem_of_getElem? (i := 59) rfl)
theorem lyX11_71 : u_lay RX11 TX11 71 ∈ lw_tbl := tb7 (List.mem_of_getElem? (i := 61) rfl)
theorem lyX11_72 : u_lay RX11 TX11 72 ∈ lw_tbl := tb7 (List.mem_of_getElem? (i := 63) rfl)
theorem lyX11_73 : u_lay RX11 TX11 73 ∈ lw_tbl := tb7 (List.mem_of_getElem? (i := 65) rfl)
theorem lyX11_74 : u_lay RX11 TX11 74 ∈ lw_tbl := tb7 (List.mem_of_getElem? (i := 67) rfl)
theorem lyX11_75 : u_lay RX11 TX11 75 ∈ lw_tbl := tb7 (List.mem_of_getElem? (i := 69) rfl)
theorem lyX11_76 : u_lay RX11 TX11 76 ∈ lw_tbl := tb7 (List.mem_of_getElem? (i := 71) rfl)
theorem lyX11_77 : u_lay RX11 TX11 77 ∈ lw_tbl := tb7 (List.mem_of_getElem? (i := 73) rfl)
theorem lyX11_78 : u_lay RX11 TX11 78 ∈ lw_tbl := tb7 (List.mem_of_getElem? (i := 75) rfl)
theorem lyX11_79 : u_lay RX11 TX11 79 ∈ lw_tbl := tb7 (List.mem_of_getElem? (i := 77) rfl)
theorem lyX11_80 : u_lay RX11 TX11 80 ∈ lw_tbl := tb7 (List.mem_of_getElem? (i := 79) rfl)
theorem lyX11_81 : u_lay RX11 TX11 81 ∈ lw_tbl := tb7 (List.mem_of_getElem? (i := 81) rfl)
theorem lyX11_82 : u_lay RX11 TX11 82 ∈ lw_tbl := tb7 (List.mem_of_getElem? (i := 83) rfl)
theorem lyX11_83 : u_lay RX11 TX11 83 ∈ lw_tbl := tb7 (List.mem_of_getElem? (i := 85) rfl)
theorem lyX11_84 : u_lay RX11 TX11 84 ∈ lw_tbl := tb7 (List.mem_of_getElem? (i := 87) rfl)
theorem lyX11_85 : u_lay RX11 TX11 85 ∈ lw_tbl := tb7 (List.mem_of_getElem? (i := 89) rfl)
theorem lyX11_86 : u_lay RX11 TX11 86 ∈ lw_tbl := tb7 (List.mem_of_getElem? (i := 91) rfl)
theorem lyX11_87 : u_lay RX11 TX11 87 ∈ lw_tbl := tb7 (List.mem_of_getElem? (i := 93) rfl)
theorem lyX11_88 : u_lay RX11 TX11 88 ∈ lw_tbl := tb7 (List.mem_of_getElem? (i := 95) rfl)
theorem lyX11_89 : u_lay RX11 TX11 89 ∈ lw_tbl := tb7 (List.mem_of_getElem? (i := 97) rfl)
theorem lyX11_90 : u_lay RX11 TX11 90 ∈ lw_tbl := tb7 (List.mem_of_getElem? (i := 99) rfl)
theorem lyX11_91 : u_lay RX11 TX11 91 ∈ lw_tbl := tb7 (List.mem_of_getElem? (i := 101) rfl)
theorem lyX11_92 : u_lay RX11 TX11 92 ∈ lw_tbl := tb7 (List.mem_of_getElem? (i := 103) rfl)
theorem lyX11_93 : u_lay RX11 TX11 93 ∈ lw_tbl := tb7 (List.mem_of_getElem? (i := 105) rfl)
theorem lyX11_94 : u_lay RX11 TX11 94 ∈ lw_tbl := tb7 (List.mem_of_getElem? (i := 107) rfl)
theorem lyX11_95 : u_lay RX11 TX11 95 ∈ lw_tbl := tb7 (List.mem_of_getElem? (i := 109) rfl)
theorem lyX11_96 : u_lay RX11 TX11 96 ∈ lw_tbl := tb7 (List.mem_of_getElem? (i := 111) rfl)
theorem lyX11_97 : u_lay RX11 TX11 97 ∈ lw_tbl := tb7 (List.mem_of_getElem? (i := 113) rfl)
theorem lyX11_98 : u_lay RX11 TX11 98 ∈ lw_tbl := tb7 (List.mem_of_getElem? (i := 115) rfl)
theorem lysX11 : ∀ w ∈ u_ws RX11 TX11 99, w ∈ lw_tbl := by
  intro w h
  obtain ⟨k, hk, rfl⟩ := List.mem_map.mp h
  have hk := List.mem_range.mp hk
  match k, hk with
  | 0, _ => exact lyX11_0
  | 1, _ => exact lyX11_1
  | 2, _ => exact lyX11_2
  | 3, _ => exact lyX11_3
  | 4, _ => exact lyX11_4
  | 5, _ => exact lyX11_5
  | 6, _ => exact lyX11_6
  | 7, _ => exact lyX11_7
  | 8, _ => exact lyX11_8
  | 9, _ => exact lyX11_9
  | 10, _ => exact lyX11_10
  | 11, _ => exact lyX11_11
  | 12, _ => exact lyX11_12
  | 13, _ => exact lyX11_13
  | 14, _ => exact lyX11_14
  | 15, _ => exact lyX11_15
  | 16, _ => exact lyX11_16
  | 17, _ => exact lyX11_17
  | 18, _ => exact lyX11_18
  | 19, _ => exact lyX11_19
  | 20, _ => exact lyX11_20
  | 21, _ => exact lyX11_21
  | 22, _ => exact lyX11_22
  | 23, _ => exact lyX11_23
  | 24, _ => exact lyX11_24
  | 25, _ => exact lyX11_25
  | 26, _ => exact lyX11_26
  | 27, _ => exact lyX11_27
  | 28, _ => exact lyX11_28
  | 29, _ => exact lyX11_29
  | 30, _ => exact lyX11_30
  | 31, _ => exact lyX11_31
  | 32, _ => exact lyX11_32
  | 33, _ => exact lyX11_33
  | 34, _ => exact lyX11_34
  | 35, _ => exact lyX11_35
  | 36, _ => exact lyX11_36
  | 37, _ => exact lyX11_37
  | 38, _ => exact lyX11_38
  | 39, _ => exact lyX11_39
  | 40, _ => exact lyX11_40
  | 41, _ => exact lyX11_41
  | 42, _ => exact lyX11_42
  | 43, _ => exact lyX11_43
  | 44, _ => exact lyX11_44
  | 45, _ => exact lyX11_45
  | 46, _ => exact lyX11_46
  | 47, _ => exact lyX11_47
  | 48, _ => exact lyX11_48
  | 49, _ => exact lyX11_49
  | 50, _ => exact lyX11_50
  | 51, _ => exact lyX11_51
  | 52, _ => exact lyX11_52
  | 53, _ => exact lyX11_53
  | 54, _ => exact lyX11_54
  | 55, _ => exact lyX11_55
  | 56, _ => exact lyX11_56
  | 57, _ => exact lyX11_57
  | 58, _ => exact lyX11_58
  | 59, _ => exact lyX11_59
  | 60, _ => exact lyX11_60
  | 61, _ => exact lyX11_61
  | 62, _ => exact lyX11_62
  | 63, _ => exact lyX11_63
  | 64, _ => exact lyX11_64
  | 65, _ => exact lyX11_65
  | 66, _ => exact lyX11_66
  | 67, _ => exact lyX11_67
  | 68, _ => exact lyX11_68
  | 69, _ => exact lyX11_69
  | 70, _ => exact lyX11_70
  | 71, _ => exact lyX11_71
  | 72, _ => exact lyX11_72
  | 73, _ => exact lyX11_73
  | 74, _ => exact lyX11_74
  | 75, _ => exact lyX11_75
  | 76, _ => exact lyX11_76
  | 77, _ => exact lyX11_77
  | 78, _ => exact lyX11_78
  | 79, _ => exact lyX11_79
  | 80, _ => exact lyX11_80
  | 81, _ => exact lyX11_81
  | 82, _ => exact lyX11_82
  | 83, _ => exact lyX11_83
  | 84, _ => exact lyX11_84
  | 85, _ => exact lyX11_85
  | 86, _ => exact lyX11_86
  | 87, _ => exact lyX11_87
  | 88, _ => exact lyX11_88
  | 89, _ => exact lyX11_89
  | 90, _ => exact lyX11_90
  | 91, _ => exact lyX11_91
  | 92, _ => exact lyX11_92
  | 93, _ => exact lyX11_93
  | 94, _ => exact lyX11_94
  | 95, _ => exact lyX11_95
  | 96, _ => exact lyX11_96
  | 97, _ => exact lyX11_97
  | 98, _ => exact lyX11_98
  | n + 99, h => exact absurd h (by omega)
