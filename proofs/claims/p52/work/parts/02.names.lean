def RX0 : String := "EchoPantry$Command"
def TX0 : u_T := fun k => match k with
  | 0 => ("EchoPantry$Command", "kind", "I", false)
  | 1 => ("EchoPantry$Command", "letter", "C", false)
  | 2 => ("EchoPantry$Command", "digit", "I", false)
  | 3 => ("EchoPantry$Command", "number", "I", false)
  | _ => ("EchoPantry$Command", "policy", "C", false)
def tyX0 : Nat → FieldType := fun k => match k with
  | 0 => .int
  | 1 => .char
  | 2 => .int
  | 3 => .int
  | _ => .char
abbrev wsX00 : List Cond := u_ws RX0 TX0 5
theorem nmX0 : ∀ a, a < 5 → ∀ b, b < 5 → a ≠ b → (TX0 a).2.1 ≠ (TX0 b).2.1 := by decide +kernel
theorem tyX0_ok : ∀ k, k < 5 → parseFieldDescriptor (TX0 k).2.2.1 = some (tyX0 k) := by decide +kernel
abbrev cX0_init : ByteArray := prog_2_method_1_code
def yX0_init : MethodName := ⟨RX0, "<init>", "()V"⟩
def RX1 : String := "EchoPantry$CommandText"
def TX1 : u_T := fun k => match k with
  | 0 => ("EchoPantry$CommandText", "characters", "[C", true)
  | 1 => ("EchoPantry$CommandText", "length", "I", false)
  | 2 => ("EchoPantry$CommandText", "at", "I", false)
  | 3 => ("EchoPantry$CommandText", "commands", "[LEchoPantry$Command;", true)
  | _ => ("EchoPantry$CommandText", "commandCount", "I", false)
def tyX1 : Nat → FieldType := fun k => match k with
  | 0 => .array .char
  | 1 => .int
  | 2 => .int
  | 3 => .array (.object "EchoPantry$Command")
  | _ => .int
abbrev wsX10 : List Cond := u_ws RX1 TX1 5
theorem nmX1 : ∀ a, a < 5 → ∀ b, b < 5 → a ≠ b → (TX1 a).2.1 ≠ (TX1 b).2.1 := by decide +kernel
theorem tyX1_ok : ∀ k, k < 5 → parseFieldDescriptor (TX1 k).2.2.1 = some (tyX1 k) := by decide +kernel
abbrev cX1_init : ByteArray := prog_3_method_1_code
def yX1_init : MethodName := ⟨RX1, "<init>", "()V"⟩
abbrev cX1_append : ByteArray := prog_3_method_2_code
def yX1_append : MethodName := ⟨RX1, "append", "(C)I"⟩
abbrev cX1_command : ByteArray := prog_3_method_3_code
def yX1_command : MethodName := ⟨RX1, "command", "(I)LEchoPantry$Command;"⟩
abbrev cX1_parse : ByteArray := prog_3_method_4_code
def yX1_parse : MethodName := ⟨RX1, "parse", "()Z"⟩
abbrev cX1_readCommand : ByteArray := prog_3_method_5_code
def yX1_readCommand : MethodName := ⟨RX1, "readCommand", "(LEchoPantry$Command;)Z"⟩
abbrev cX1_next : ByteArray := prog_3_method_6_code
def yX1_next : MethodName := ⟨RX1, "next", "()C"⟩
abbrev cX1_readKeyword : ByteArray := prog_3_method_7_code
def yX1_readKeyword : MethodName := ⟨RX1, "readKeyword", "()I"⟩
abbrev cX1_countSame : ByteArray := prog_3_method_8_code
def yX1_countSame : MethodName := ⟨RX1, "countSame", "(Ljava/lang/String;I)I"⟩
abbrev cX1_keywordOf : ByteArray := prog_3_method_9_code
def yX1_keywordOf : MethodName := ⟨RX1, "keywordOf", "(I)Ljava/lang/String;"⟩
abbrev cX1_readSign : ByteArray := prog_3_method_10_code
def yX1_readSign : MethodName := ⟨RX1, "readSign", "(C)Z"⟩
abbrev cX1_readLetter : ByteArray := prog_3_method_11_code
def yX1_readLetter : MethodName := ⟨RX1, "readLetter", "(LEchoPantry$Command;)Z"⟩
abbrev cX1_readPolicy : ByteArray := prog_3_method_12_code
def yX1_readPolicy : MethodName := ⟨RX1, "readPolicy", "(LEchoPantry$Command;)Z"⟩
abbrev cX1_readDigit : ByteArray := prog_3_method_13_code
def yX1_readDigit : MethodName := ⟨RX1, "readDigit", "(LEchoPantry$Command;)Z"⟩
abbrev cX1_readNumber : ByteArray := prog_3_method_14_code
def yX1_readNumber : MethodName := ⟨RX1, "readNumber", "(LEchoPantry$Command;)Z"⟩
abbrev cX1_isDigit : ByteArray := prog_3_method_15_code
def yX1_isDigit : MethodName := ⟨RX1, "isDigit", "(C)Z"⟩
def RX2 : String := "EchoPantry$Echo"
def TX2 : u_T := fun k => match k with
  | 0 => ("EchoPantry$Echo", "isThere", "Z", false)
  | 1 => ("EchoPantry$Echo", "letter", "C", false)
  | 2 => ("EchoPantry$Echo", "word", "I", false)
  | 3 => ("EchoPantry$Echo", "fetchMinute", "I", false)
  | 4 => ("EchoPantry$Echo", "fetchStep", "I", false)
  | 5 => ("EchoPantry$Echo", "heardStep", "I", false)
  | 6 => ("EchoPantry$Echo", "hitCount", "I", false)
  | 7 => ("EchoPantry$Echo", "timesSpoken", "I", false)
  | _ => ("EchoPantry$Echo", "hasOpenLid", "Z", false)
def tyX2 : Nat → FieldType := fun k => match k with
  | 0 => .boolean
  | 1 => .char
  | 2 => .int
  | 3 => .int
  | 4 => .int
  | 5 => .int
  | 6 => .int
  | 7 => .int
  | _ => .boolean
abbrev wsX20 : List Cond := u_ws RX2 TX2 9
theorem nmX2 : ∀ a, a < 9 → ∀ b, b < 9 → a ≠ b → (TX2 a).2.1 ≠ (TX2 b).2.1 := by decide +kernel
theorem tyX2_ok : ∀ k, k < 9 → parseFieldDescriptor (TX2 k).2.2.1 = some (tyX2 k) := by decide +kernel
abbrev cX2_init : ByteArray := prog_4_method_1_code
def yX2_init : MethodName := ⟨RX2, "<init>", "()V"⟩
abbrev cX2_copyFrom : ByteArray := prog_4_method_2_code
def yX2_copyFrom : MethodName := ⟨RX2, "copyFrom", "(LEchoPantry$Echo;)V"⟩
abbrev cX2_fill : ByteArray := prog_4_method_3_code
def yX2_fill : MethodName := ⟨RX2, "fill", "(CLEchoPantry$Jar;II)V"⟩
abbrev cX2_age : ByteArray := prog_4_method_4_code
def yX2_age : MethodName := ⟨RX2, "age", "(I)I"⟩
def RX3 : String := "EchoPantry$History"
def TX3 : u_T := fun k => match k with
  | 0 => ("EchoPantry$History", "rows", "[LEchoPantry$State;", true)
  | 1 => ("EchoPantry$History", "first", "I", false)
  | _ => ("EchoPantry$History", "count", "I", false)
def tyX3 : Nat → FieldType := fun k => match k with
  | 0 => .array (.object "EchoPantry$State")
  | 1 => .int
  | _ => .int
abbrev wsX30 : List Cond := u_ws RX3 TX3 3
theorem nmX3 : ∀ a, a < 3 → ∀ b, b < 3 → a ≠ b → (TX3 a).2.1 ≠ (TX3 b).2.1 := by decide +kernel
theorem tyX3_ok : ∀ k, k < 3 → parseFieldDescriptor (TX3 k).2.2.1 = some (tyX3 k) := by decide +kernel
abbrev cX3_init : ByteArray := prog_5_method_1_code
def yX3_init : MethodName := ⟨RX3, "<init>", "()V"⟩
abbrev cX3_row : ByteArray := prog_5_method_2_code
def yX3_row : MethodName := ⟨RX3, "row", "(I)LEchoPantry$State;"⟩
abbrev cX3_note : ByteArray := prog_5_method_3_code
def yX3_note : MethodName := ⟨RX3, "note", "(LEchoPantry$State;)V"⟩
abbrev cX3_keep : ByteArray := prog_5_method_4_code
def yX3_keep : MethodName := ⟨RX3, "keep", "(LEchoPantry$State;)V"⟩
abbrev cX3_takeBack : ByteArray := prog_5_method_5_code
def yX3_takeBack : MethodName := ⟨RX3, "takeBack", "(LEchoPantry$State;)V"⟩
abbrev cX3_confirm : ByteArray := prog_5_method_6_code
def yX3_confirm : MethodName := ⟨RX3, "confirm", "()V"⟩
abbrev cX3_goBack : ByteArray := prog_5_method_7_code
def yX3_goBack : MethodName := ⟨RX3, "goBack", "(LEchoPantry$State;)V"⟩
def RX4 : String := "EchoPantry$Jar"
def TX4 : u_T := fun k => match k with
  | 0 => ("EchoPantry$Jar", "isThere", "Z", false)
  | 1 => ("EchoPantry$Jar", "word", "I", false)
  | 2 => ("EchoPantry$Jar", "timesSpoken", "I", false)
  | _ => ("EchoPantry$Jar", "lastStep", "I", false)
def tyX4 : Nat → FieldType := fun k => match k with
  | 0 => .boolean
  | 1 => .int
  | 2 => .int
  | _ => .int
abbrev wsX40 : List Cond := u_ws RX4 TX4 4
theorem nmX4 : ∀ a, a < 4 → ∀ b, b < 4 → a ≠ b → (TX4 a).2.1 ≠ (TX4 b).2.1 := by decide +kernel
theorem tyX4_ok : ∀ k, k < 4 → parseFieldDescriptor (TX4 k).2.2.1 = some (tyX4 k) := by decide +kernel
abbrev cX4_init : ByteArray := prog_6_method_1_code
def yX4_init : MethodName := ⟨RX4, "<init>", "()V"⟩
abbrev cX4_copyFrom : ByteArray := prog_6_method_2_code
def yX4_copyFrom : MethodName := ⟨RX4, "copyFrom", "(LEchoPantry$Jar;)V"⟩
abbrev cX4_speak : ByteArray := prog_6_method_3_code
def yX4_speak : MethodName := ⟨RX4, "speak", "(II)V"⟩
def RX5 : String := "EchoPantry$Shelf"
def TX5 : u_T := fun k => match k with
  | 0 => ("EchoPantry$Shelf", "isThere", "Z", false)
  | 1 => ("EchoPantry$Shelf", "capacity", "I", false)
  | 2 => ("EchoPantry$Shelf", "lifetime", "I", false)
  | 3 => ("EchoPantry$Shelf", "policy", "C", false)
  | 4 => ("EchoPantry$Shelf", "listens", "Z", false)
  | 5 => ("EchoPantry$Shelf", "hitCount", "I", false)
  | _ => ("EchoPantry$Shelf", "order", "[LEchoPantry$Echo;", true)
def tyX5 : Nat → FieldType := fun k => match k with
  | 0 => .boolean
  | 1 => .int
  | 2 => .int
  | 3 => .char
  | 4 => .boolean
  | 5 => .int
  | _ => .array (.object "EchoPantry$Echo")
abbrev wsX50 : List Cond := u_ws RX5 TX5 7
theorem nmX5 : ∀ a, a < 7 → ∀ b, b < 7 → a ≠ b → (TX5 a).2.1 ≠ (TX5 b).2.1 := by decide +kernel
theorem tyX5_ok : ∀ k, k < 7 → parseFieldDescriptor (TX5 k).2.2.1 = some (tyX5 k) := by decide +kernel
abbrev cX5_init : ByteArray := prog_7_method_1_code
def yX5_init : MethodName := ⟨RX5, "<init>", "()V"⟩
abbrev cX5_copyFrom : ByteArray := prog_7_method_2_code
def yX5_copyFrom : MethodName := ⟨RX5, "copyFrom", "(LEchoPantry$Shelf;)V"⟩
abbrev cX5_fill : ByteArray := prog_7_method_3_code
def yX5_fill : MethodName := ⟨RX5, "fill", "(IIC)V"⟩
abbrev cX5_countEchoes : ByteArray := prog_7_method_4_code
def yX5_countEchoes : MethodName := ⟨RX5, "countEchoes", "()I"⟩
abbrev cX5_find : ByteArray := prog_7_method_5_code
def yX5_find : MethodName := ⟨RX5, "find", "(C)LEchoPantry$Echo;"⟩
abbrev cX5_letterAt : ByteArray := prog_7_method_6_code
def yX5_letterAt : MethodName := ⟨RX5, "letterAt", "(I)C"⟩
abbrev cX5_sumOfAges : ByteArray := prog_7_method_7_code
def yX5_sumOfAges : MethodName := ⟨RX5, "sumOfAges", "(I)I"⟩
abbrev cX5_hasOutlived : ByteArray := prog_7_method_8_code
def yX5_hasOutlived : MethodName := ⟨RX5, "hasOutlived", "(LEchoPantry$Echo;I)Z"⟩
abbrev cX5_outcome : ByteArray := prog_7_method_9_code
def yX5_outcome : MethodName := ⟨RX5, "outcome", "(CI)C"⟩
abbrev cX5_firstInOrder : ByteArray := prog_7_method_10_code
def yX5_firstInOrder : MethodName := ⟨RX5, "firstInOrder", "()LEchoPantry$Echo;"⟩
abbrev cX5_firstByScan : ByteArray := prog_7_method_11_code
def yX5_firstByScan : MethodName := ⟨RX5, "firstByScan", "()LEchoPantry$Echo;"⟩
abbrev cX5_isBefore : ByteArray := prog_7_method_12_code
def yX5_isBefore : MethodName := ⟨RX5, "isBefore", "(LEchoPantry$Echo;LEchoPantry$Echo;)Z"⟩
abbrev cX5_sort : ByteArray := prog_7_method_13_code
def yX5_sort : MethodName := ⟨RX5, "sort", "()V"⟩
abbrev cX5_remove : ByteArray := prog_7_method_14_code
def yX5_remove : MethodName := ⟨RX5, "remove", "(LEchoPantry$Echo;)Z"⟩
abbrev cX5_fetch : ByteArray := prog_7_method_15_code
def yX5_fetch : MethodName := ⟨RX5, "fetch", "(CLEchoPantry$Jar;II)V"⟩
abbrev cX5_hit : ByteArray := prog_7_method_16_code
def yX5_hit : MethodName := ⟨RX5, "hit", "(LEchoPantry$Echo;I)I"⟩
abbrev cX5_openLid : ByteArray := prog_7_method_17_code
def yX5_openLid : MethodName := ⟨RX5, "openLid", "(C)Z"⟩
def RX6 : String := "EchoPantry$State"
def TX6 : u_T := fun k => match k with
  | 0 => ("EchoPantry$State", "jars", "[LEchoPantry$Jar;", true)
  | 1 => ("EchoPantry$State", "shelves", "[LEchoPantry$Shelf;", true)
  | 2 => ("EchoPantry$State", "warmings", "[LEchoPantry$Warming;", true)
  | 3 => ("EchoPantry$State", "minute", "I", false)
  | 4 => ("EchoPantry$State", "nextStep", "I", false)
  | 5 => ("EchoPantry$State", "hitTotal", "I", false)
  | 6 => ("EchoPantry$State", "coldTotal", "I", false)
  | 7 => ("EchoPantry$State", "expiredTotal", "I", false)
  | _ => ("EchoPantry$State", "openTotal", "I", false)
def tyX6 : Nat → FieldType := fun k => match k with
  | 0 => .array (.object "EchoPantry$Jar")
  | 1 => .array (.object "EchoPantry$Shelf")
  | 2 => .array (.object "EchoPantry$Warming")
  | 3 => .int
  | 4 => .int
  | 5 => .int
  | 6 => .int
  | 7 => .int
  | _ => .int
abbrev wsX60 : List Cond := u_ws RX6 TX6 9
theorem nmX6 : ∀ a, a < 9 → ∀ b, b < 9 → a ≠ b → (TX6 a).2.1 ≠ (TX6 b).2.1 := by decide +kernel
theorem tyX6_ok : ∀ k, k < 9 → parseFieldDescriptor (TX6 k).2.2.1 = some (tyX6 k) := by decide +kernel
abbrev cX6_init : ByteArray := prog_8_method_1_code
def yX6_init : MethodName := ⟨RX6, "<init>", "()V"⟩
abbrev cX6_copyFrom : ByteArray := prog_8_method_2_code
def yX6_copyFrom : MethodName := ⟨RX6, "copyFrom", "(LEchoPantry$State;)V"⟩
abbrev cX6_jarRow : ByteArray := prog_8_method_3_code
def yX6_jarRow : MethodName := ⟨RX6, "jarRow", "(C)LEchoPantry$Jar;"⟩
abbrev cX6_findJar : ByteArray := prog_8_method_4_code
def yX6_findJar : MethodName := ⟨RX6, "findJar", "(C)LEchoPantry$Jar;"⟩
abbrev cX6_findShelf : ByteArray := prog_8_method_5_code
def yX6_findShelf : MethodName := ⟨RX6, "findShelf", "(I)LEchoPantry$Shelf;"⟩
abbrev cX6_findWarming : ByteArray := prog_8_method_6_code
def yX6_findWarming : MethodName := ⟨RX6, "findWarming", "(I)LEchoPantry$Warming;"⟩
abbrev cX6_newJarFault : ByteArray := prog_8_method_7_code
def yX6_newJarFault : MethodName := ⟨RX6, "newJarFault", "(CI)I"⟩
abbrev cX6_jarFault : ByteArray := prog_8_method_8_code
def yX6_jarFault : MethodName := ⟨RX6, "jarFault", "(C)I"⟩
abbrev cX6_wordFault : ByteArray := prog_8_method_9_code
def yX6_wordFault : MethodName := ⟨RX6, "wordFault", "(CI)I"⟩
abbrev cX6_newShelfFault : ByteArray := prog_8_method_10_code
def yX6_newShelfFault : MethodName := ⟨RX6, "newShelfFault", "(IIC)I"⟩
abbrev cX6_shelfFault : ByteArray := prog_8_method_11_code
def yX6_shelfFault : MethodName := ⟨RX6, "shelfFault", "(I)I"⟩
abbrev cX6_hearFault : ByteArray := prog_8_method_12_code
def yX6_hearFault : MethodName := ⟨RX6, "hearFault", "(IC)I"⟩
abbrev cX6_warmFault : ByteArray := prog_8_method_13_code
def yX6_warmFault : MethodName := ⟨RX6, "warmFault", "(ICI)I"⟩
abbrev cX6_passFault : ByteArray := prog_8_method_14_code
def yX6_passFault : MethodName := ⟨RX6, "passFault", "(I)I"⟩
abbrev cX6_countJars : ByteArray := prog_8_method_15_code
def yX6_countJars : MethodName := ⟨RX6, "countJars", "()I"⟩
abbrev cX6_jarLetter : ByteArray := prog_8_method_16_code
def yX6_jarLetter : MethodName := ⟨RX6, "jarLetter", "(I)C"⟩
abbrev cX6_putJar : ByteArray := prog_8_method_17_code
def yX6_putJar : MethodName := ⟨RX6, "putJar", "(CI)I"⟩
abbrev cX6_dropJar : ByteArray := prog_8_method_18_code
def yX6_dropJar : MethodName := ⟨RX6, "dropJar", "(C)I"⟩
abbrev cX6_speak : ByteArray := prog_8_method_19_code
def yX6_speak : MethodName := ⟨RX6, "speak", "(CI)I"⟩
abbrev cX6_countShelves : ByteArray := prog_8_method_20_code
def yX6_countShelves : MethodName := ⟨RX6, "countShelves", "()I"⟩
abbrev cX6_putShelf : ByteArray := prog_8_method_21_code
def yX6_putShelf : MethodName := ⟨RX6, "putShelf", "(IIC)I"⟩
abbrev cX6_tune : ByteArray := prog_8_method_22_code
def yX6_tune : MethodName := ⟨RX6, "tune", "(IZ)V"⟩
abbrev cX6_rankByHits : ByteArray := prog_8_method_23_code
def yX6_rankByHits : MethodName := ⟨RX6, "rankByHits", "(I)I"⟩
abbrev cX6_isTrueByCount : ByteArray := prog_8_method_24_code
def yX6_isTrueByCount : MethodName := ⟨RX6, "isTrueByCount", "(LEchoPantry$Echo;)Z"⟩
abbrev cX6_isTrueByOrder : ByteArray := prog_8_method_25_code
def yX6_isTrueByOrder : MethodName := ⟨RX6, "isTrueByOrder", "(LEchoPantry$Echo;)Z"⟩
abbrev cX6_isSound : ByteArray := prog_8_method_26_code
def yX6_isSound : MethodName := ⟨RX6, "isSound", "(LEchoPantry$Echo;)Z"⟩
abbrev cX6_listenTo : ByteArray := prog_8_method_27_code
def yX6_listenTo : MethodName := ⟨RX6, "listenTo", "(IC)I"⟩
abbrev cX6_countOutcome : ByteArray := prog_8_method_28_code
def yX6_countOutcome : MethodName := ⟨RX6, "countOutcome", "(C)V"⟩
abbrev cX6_fetch : ByteArray := prog_8_method_29_code
def yX6_fetch : MethodName := ⟨RX6, "fetch", "(IC)Z"⟩
abbrev cX6_countWarmings : ByteArray := prog_8_method_30_code
def yX6_countWarmings : MethodName := ⟨RX6, "countWarmings", "()I"⟩
abbrev cX6_planWarming : ByteArray := prog_8_method_31_code
def yX6_planWarming : MethodName := ⟨RX6, "planWarming", "(ICI)I"⟩
abbrev cX6_removeWarming : ByteArray := prog_8_method_32_code
def yX6_removeWarming : MethodName := ⟨RX6, "removeWarming", "(LEchoPantry$Warming;)V"⟩
abbrev cX6_sortWarmings : ByteArray := prog_8_method_33_code
def yX6_sortWarmings : MethodName := ⟨RX6, "sortWarmings", "()V"⟩
abbrev cX6_letPass : ByteArray := prog_8_method_34_code
def yX6_letPass : MethodName := ⟨RX6, "letPass", "(I)I"⟩
def RX7 : String := "EchoPantry$Warming"
def TX7 : u_T := fun k => match k with
  | 0 => ("EchoPantry$Warming", "isThere", "Z", false)
  | 1 => ("EchoPantry$Warming", "minute", "I", false)
  | 2 => ("EchoPantry$Warming", "shelf", "I", false)
  | _ => ("EchoPantry$Warming", "letter", "C", false)
def tyX7 : Nat → FieldType := fun k => match k with
  | 0 => .boolean
  | 1 => .int
  | 2 => .int
  | _ => .char
abbrev wsX70 : List Cond := u_ws RX7 TX7 4
theorem nmX7 : ∀ a, a < 4 → ∀ b, b < 4 → a ≠ b → (TX7 a).2.1 ≠ (TX7 b).2.1 := by decide +kernel
theorem tyX7_ok : ∀ k, k < 4 → parseFieldDescriptor (TX7 k).2.2.1 = some (tyX7 k) := by decide +kernel
abbrev cX7_init : ByteArray := prog_9_method_1_code
def yX7_init : MethodName := ⟨RX7, "<init>", "()V"⟩
abbrev cX7_copyFrom : ByteArray := prog_9_method_2_code
def yX7_copyFrom : MethodName := ⟨RX7, "copyFrom", "(LEchoPantry$Warming;)V"⟩
abbrev cX7_isBefore : ByteArray := prog_9_method_3_code
def yX7_isBefore : MethodName := ⟨RX7, "isBefore", "(LEchoPantry$Warming;)Z"⟩
def RX8 : String := "EchoPantry"
def TX8 : u_T := fun k => match k with
  | 0 => ("EchoPantry", "state", "LEchoPantry$State;", true)
  | 1 => ("EchoPantry", "history", "LEchoPantry$History;", true)
  | 2 => ("EchoPantry", "snapshot", "LEchoPantry$State;", true)
  | 3 => ("EchoPantry", "hasSnapshot", "Z", false)
  | 4 => ("EchoPantry", "text", "LEchoPantry$CommandText;", true)
  | 5 => ("EchoPantry", "malformedAt", "I", false)
  | 6 => ("EchoPantry", "failedAt", "I", false)
  | _ => ("EchoPantry", "line", "Ljava/lang/StringBuilder;", true)
def tyX8 : Nat → FieldType := fun k => match k with
  | 0 => .object "EchoPantry$State"
  | 1 => .object "EchoPantry$History"
  | 2 => .object "EchoPantry$State"
  | 3 => .boolean
  | 4 => .object "EchoPantry$CommandText"
  | 5 => .int
  | 6 => .int
  | _ => .object "java/lang/StringBuilder"
abbrev wsX80 : List Cond := u_ws RX8 TX8 8
theorem nmX8 : ∀ a, a < 8 → ∀ b, b < 8 → a ≠ b → (TX8 a).2.1 ≠ (TX8 b).2.1 := by decide +kernel
theorem tyX8_ok : ∀ k, k < 8 → parseFieldDescriptor (TX8 k).2.2.1 = some (tyX8 k) := by decide +kernel
abbrev cX8_init : ByteArray := prog_1_method_1_code
def yX8_init : MethodName := ⟨RX8, "<init>", "()V"⟩
abbrev cX8_addJar : ByteArray := prog_1_method_2_code
def yX8_addJar : MethodName := ⟨RX8, "addJar", "(CI)I"⟩
abbrev cX8_removeJar : ByteArray := prog_1_method_3_code
def yX8_removeJar : MethodName := ⟨RX8, "removeJar", "(C)I"⟩
abbrev cX8_say : ByteArray := prog_1_method_4_code
def yX8_say : MethodName := ⟨RX8, "say", "(CI)I"⟩
abbrev cX8_jarCount : ByteArray := prog_1_method_5_code
def yX8_jarCount : MethodName := ⟨RX8, "jarCount", "()I"⟩
abbrev cX8_jarAt : ByteArray := prog_1_method_6_code
def yX8_jarAt : MethodName := ⟨RX8, "jarAt", "(I)C"⟩
abbrev cX8_wordOf : ByteArray := prog_1_method_7_code
def yX8_wordOf : MethodName := ⟨RX8, "wordOf", "(C)I"⟩
abbrev cX8_addShelf : ByteArray := prog_1_method_8_code
def yX8_addShelf : MethodName := ⟨RX8, "addShelf", "(IIC)I"⟩
abbrev cX8_setListening : ByteArray := prog_1_method_9_code
def yX8_setListening : MethodName := ⟨RX8, "setListening", "(IZ)Z"⟩
abbrev cX8_shelfCount : ByteArray := prog_1_method_10_code
def yX8_shelfCount : MethodName := ⟨RX8, "shelfCount", "()I"⟩
abbrev cX8_capacityOf : ByteArray := prog_1_method_11_code
def yX8_capacityOf : MethodName := ⟨RX8, "capacityOf", "(I)I"⟩
abbrev cX8_lifetimeOf : ByteArray := prog_1_method_12_code
def yX8_lifetimeOf : MethodName := ⟨RX8, "lifetimeOf", "(I)I"⟩
abbrev cX8_policyOf : ByteArray := prog_1_method_13_code
def yX8_policyOf : MethodName := ⟨RX8, "policyOf", "(I)C"⟩
abbrev cX8_isListening : ByteArray := prog_1_method_14_code
def yX8_isListening : MethodName := ⟨RX8, "isListening", "(I)Z"⟩
abbrev cX8_echoCount : ByteArray := prog_1_method_15_code
def yX8_echoCount : MethodName := ⟨RX8, "echoCount", "(I)I"⟩
abbrev cX8_echoAt : ByteArray := prog_1_method_16_code
def yX8_echoAt : MethodName := ⟨RX8, "echoAt", "(II)C"⟩
abbrev cX8_hasEcho : ByteArray := prog_1_method_17_code
def yX8_hasEcho : MethodName := ⟨RX8, "hasEcho", "(IC)Z"⟩
abbrev cX8_echoOf : ByteArray := prog_1_method_18_code
def yX8_echoOf : MethodName := ⟨RX8, "echoOf", "(IC)I"⟩
abbrev cX8_ageOf : ByteArray := prog_1_method_19_code
def yX8_ageOf : MethodName := ⟨RX8, "ageOf", "(IC)I"⟩
abbrev cX8_hitsOf : ByteArray := prog_1_method_20_code
def yX8_hitsOf : MethodName := ⟨RX8, "hitsOf", "(IC)I"⟩
abbrev cX8_isExpired : ByteArray := prog_1_method_21_code
def yX8_isExpired : MethodName := ⟨RX8, "isExpired", "(IC)Z"⟩
abbrev cX8_isOpen : ByteArray := prog_1_method_22_code
def yX8_isOpen : MethodName := ⟨RX8, "isOpen", "(IC)Z"⟩
abbrev cX8_isTrue : ByteArray := prog_1_method_23_code
def yX8_isTrue : MethodName := ⟨RX8, "isTrue", "(IC)Z"⟩
abbrev cX8_isTrueBySteps : ByteArray := prog_1_method_24_code
def yX8_isTrueBySteps : MethodName := ⟨RX8, "isTrueBySteps", "(IC)Z"⟩
abbrev cX8_victimOf : ByteArray := prog_1_method_25_code
def yX8_victimOf : MethodName := ⟨RX8, "victimOf", "(I)C"⟩
abbrev cX8_victimByScan : ByteArray := prog_1_method_26_code
def yX8_victimByScan : MethodName := ⟨RX8, "victimByScan", "(I)C"⟩
abbrev cX8_hear : ByteArray := prog_1_method_27_code
def yX8_hear : MethodName := ⟨RX8, "hear", "(IC)I"⟩
abbrev cX8_outcomeOf : ByteArray := prog_1_method_28_code
def yX8_outcomeOf : MethodName := ⟨RX8, "outcomeOf", "(IC)C"⟩
abbrev cX8_warm : ByteArray := prog_1_method_29_code
def yX8_warm : MethodName := ⟨RX8, "warm", "(ICI)I"⟩
abbrev cX8_cancelWarming : ByteArray := prog_1_method_30_code
def yX8_cancelWarming : MethodName := ⟨RX8, "cancelWarming", "(I)I"⟩
abbrev cX8_pass : ByteArray := prog_1_method_31_code
def yX8_pass : MethodName := ⟨RX8, "pass", "(I)I"⟩
abbrev cX8_time : ByteArray := prog_1_method_32_code
def yX8_time : MethodName := ⟨RX8, "time", "()I"⟩
abbrev cX8_warmingCount : ByteArray := prog_1_method_33_code
def yX8_warmingCount : MethodName := ⟨RX8, "warmingCount", "()I"⟩
abbrev cX8_warmingMinute : ByteArray := prog_1_method_34_code
def yX8_warmingMinute : MethodName := ⟨RX8, "warmingMinute", "(I)I"⟩
abbrev cX8_warmingJar : ByteArray := prog_1_method_35_code
def yX8_warmingJar : MethodName := ⟨RX8, "warmingJar", "(I)C"⟩
abbrev cX8_hits : ByteArray := prog_1_method_36_code
def yX8_hits : MethodName := ⟨RX8, "hits", "()I"⟩
abbrev cX8_misses : ByteArray := prog_1_method_37_code
def yX8_misses : MethodName := ⟨RX8, "misses", "(C)I"⟩
abbrev cX8_hitShare : ByteArray := prog_1_method_38_code
def yX8_hitShare : MethodName := ⟨RX8, "hitShare", "()F"⟩
abbrev cX8_meanAge : ByteArray := prog_1_method_39_code
def yX8_meanAge : MethodName := ⟨RX8, "meanAge", "()D"⟩
abbrev cX8_shelfByHits : ByteArray := prog_1_method_40_code
def yX8_shelfByHits : MethodName := ⟨RX8, "shelfByHits", "(I)I"⟩
abbrev cX8_writeShelf : ByteArray := prog_1_method_41_code
def yX8_writeShelf : MethodName := ⟨RX8, "writeShelf", "(I)I"⟩
abbrev cX8_lineAt : ByteArray := prog_1_method_42_code
def yX8_lineAt : MethodName := ⟨RX8, "lineAt", "(I)C"⟩
abbrev cX8_isConsistent : ByteArray := prog_1_method_43_code
def yX8_isConsistent : MethodName := ⟨RX8, "isConsistent", "()Z"⟩
abbrev cX8_type : ByteArray := prog_1_method_44_code
def yX8_type : MethodName := ⟨RX8, "type", "(C)I"⟩
abbrev cX8_execute : ByteArray := prog_1_method_45_code
def yX8_execute : MethodName := ⟨RX8, "execute", "()I"⟩
abbrev cX8_undo : ByteArray := prog_1_method_48_code
def yX8_undo : MethodName := ⟨RX8, "undo", "()I"⟩
abbrev cX8_wantJar : ByteArray := prog_1_method_51_code
def yX8_wantJar : MethodName := ⟨RX8, "wantJar", "(C)LEchoPantry$Jar;"⟩
abbrev cX8_wantShelf : ByteArray := prog_1_method_52_code
def yX8_wantShelf : MethodName := ⟨RX8, "wantShelf", "(I)LEchoPantry$Shelf;"⟩
abbrev cX8_wantEcho : ByteArray := prog_1_method_53_code
def yX8_wantEcho : MethodName := ⟨RX8, "wantEcho", "(IC)LEchoPantry$Echo;"⟩
abbrev cX8_wantWarming : ByteArray := prog_1_method_54_code
def yX8_wantWarming : MethodName := ⟨RX8, "wantWarming", "(I)LEchoPantry$Warming;"⟩
abbrev cX8_refuse : ByteArray := prog_1_method_55_code
def yX8_refuse : MethodName := ⟨RX8, "refuse", "(I)V"⟩
abbrev cX8_writeEcho : ByteArray := prog_1_method_56_code
def yX8_writeEcho : MethodName := ⟨RX8, "writeEcho", "(LEchoPantry$Echo;Z)V"⟩
abbrev cX8_faultOf : ByteArray := prog_1_method_57_code
def yX8_faultOf : MethodName := ⟨RX8, "faultOf", "(LEchoPantry$Command;)I"⟩
abbrev cX8_carryOut : ByteArray := prog_1_method_58_code
def yX8_carryOut : MethodName := ⟨RX8, "carryOut", "(LEchoPantry$Command;)V"⟩
def RX9 : String := "EchoPantryModel"
def TX9 : u_T := fun k => match k with
  | _ => ("", "", "", false)
def tyX9 : Nat → FieldType := fun k => match k with
  | _ => .int
abbrev wsX90 : List Cond := u_ws RX9 TX9 0
theorem nmX9 : ∀ a, a < 0 → ∀ b, b < 0 → a ≠ b → (TX9 a).2.1 ≠ (TX9 b).2.1 := by decide +kernel
theorem tyX9_ok : ∀ k, k < 0 → parseFieldDescriptor (TX9 k).2.2.1 = some (tyX9 k) := by decide +kernel
def RJx145de : String := "java/io/Serializable"
def TJx145de : u_T := fun k => match k with
  | _ => ("", "", "", false)
def tyJx145de : Nat → FieldType := fun k => match k with
  | _ => .int
abbrev wsJx145de0 : List Cond := u_ws RJx145de TJx145de 0
theorem nmJx145de : ∀ a, a < 0 → ∀ b, b < 0 → a ≠ b → (TJx145de a).2.1 ≠ (TJx145de b).2.1 := by decide +kernel
theorem tyJx145de_ok : ∀ k, k < 0 → parseFieldDescriptor (TJx145de k).2.2.1 = some (tyJx145de k) := by decide +kernel
def RJ5 : String := "java/lang/AbstractStringBuilder"
def TJ5 : u_T := fun k => match k with
  | _ => ("", "", "", false)
def tyJ5 : Nat → FieldType := fun k => match k with
  | _ => .int
abbrev wsJ50 : List Cond := u_ws RJ5 TJ5 0
theorem nmJ5 : ∀ a, a < 0 → ∀ b, b < 0 → a ≠ b → (TJ5 a).2.1 ≠ (TJ5 b).2.1 := by decide +kernel
theorem tyJ5_ok : ∀ k, k < 0 → parseFieldDescriptor (TJ5 k).2.2.1 = some (tyJ5 k) := by decide +kernel
abbrev cJ5_init_d00df : ByteArray := prog_13_method_2_code
def yJ5_init_d00df : MethodName := ⟨RJ5, "<init>", "(I)V"⟩
abbrev cJ5_length_8abf5 : ByteArray := prog_13_method_6_code
def yJ5_length_8abf5 : MethodName := ⟨RJ5, "length", "()I"⟩
abbrev cJ5_ensureCapacityInternal_d00df : ByteArray := prog_13_method_9_code
def yJ5_ensureCapacityInternal_d00df : MethodName := ⟨RJ5, "ensureCapacityInternal", "(I)V"⟩
abbrev cJ5_newCapacity_0f7a4 : ByteArray := prog_13_method_10_code
def yJ5_newCapacity_0f7a4 : MethodName := ⟨RJ5, "newCapacity", "(I)I"⟩
abbrev cJ5_inflate_da8c8 : ByteArray := prog_13_method_11_code
def yJ5_inflate_da8c8 : MethodName := ⟨RJ5, "inflate", "()V"⟩
abbrev cJ5_setLength_d00df : ByteArray := prog_13_method_13_code
def yJ5_setLength_d00df : MethodName := ⟨RJ5, "setLength", "(I)V"⟩
abbrev cJ5_charAt_5068e : ByteArray := prog_13_method_14_code
def yJ5_charAt_5068e : MethodName := ⟨RJ5, "charAt", "(I)C"⟩
abbrev cJ5_append_cf1ce : ByteArray := prog_13_method_22_code
def yJ5_append_cf1ce : MethodName := ⟨RJ5, "append", "(Ljava/lang/String;)Ljava/lang/AbstractStringBuilder;"⟩
abbrev cJ5_appendNull_278bc : ByteArray := prog_13_method_26_code
def yJ5_appendNull_278bc : MethodName := ⟨RJ5, "appendNull", "()Ljava/lang/AbstractStringBuilder;"⟩
abbrev cJ5_append_3fe6f : ByteArray := prog_13_method_31_code
def yJ5_append_3fe6f : MethodName := ⟨RJ5, "append", "(C)Ljava/lang/AbstractStringBuilder;"⟩
abbrev cJ5_append_c97b9 : ByteArray := prog_13_method_32_code
def yJ5_append_c97b9 : MethodName := ⟨RJ5, "append", "(I)Ljava/lang/AbstractStringBuilder;"⟩
abbrev cJ5_getValue_6d5f1 : ByteArray := prog_13_method_64_code
def yJ5_getValue_6d5f1 : MethodName := ⟨RJ5, "getValue", "()[B"⟩
abbrev cJ5_isLatin1_aae02 : ByteArray := prog_13_method_68_code
def yJ5_isLatin1_aae02 : MethodName := ⟨RJ5, "isLatin1", "()Z"⟩
abbrev cJ5_inflateIfNeededFor_a7421 : ByteArray := prog_13_method_71_code
def yJ5_inflateIfNeededFor_a7421 : MethodName := ⟨RJ5, "inflateIfNeededFor", "(Ljava/lang/String;)V"⟩
abbrev cJ5_putStringAt_47b60 : ByteArray := prog_13_method_73_code
def yJ5_putStringAt_47b60 : MethodName := ⟨RJ5, "putStringAt", "(ILjava/lang/String;)V"⟩
def RJx2cfe8 : String := "java/lang/Appendable"
def TJx2cfe8 : u_T := fun k => match k with
  | _ => ("", "", "", false)
def tyJx2cfe8 : Nat → FieldType := fun k => match k with
  | _ => .int
abbrev wsJx2cfe80 : List Cond := u_ws RJx2cfe8 TJx2cfe8 0
theorem nmJx2cfe8 : ∀ a, a < 0 → ∀ b, b < 0 → a ≠ b → (TJx2cfe8 a).2.1 ≠ (TJx2cfe8 b).2.1 := by decide +kernel
theorem tyJx2cfe8_ok : ∀ k, k < 0 → parseFieldDescriptor (TJx2cfe8 k).2.2.1 = some (tyJx2cfe8 k) := by decide +kernel
def RJx00060 : String := "java/lang/ArrayIndexOutOfBoundsException"
def TJx00060 : u_T := fun k => match k with
  | 0 => ("java/lang/Throwable", "backtrace", "Ljava/lang/Object;", false)
  | 1 => ("java/lang/Throwable", "detailMessage", "Ljava/lang/String;", false)
  | 2 => ("java/lang/Throwable", "cause", "Ljava/lang/Throwable;", false)
  | 3 => ("java/lang/Throwable", "stackTrace", "[Ljava/lang/StackTraceElement;", false)
  | 4 => ("java/lang/Throwable", "depth", "I", false)
  | _ => ("java/lang/Throwable", "suppressedExceptions", "Ljava/util/List;", false)
def tyJx00060 : Nat → FieldType := fun k => match k with
  | 0 => .object "java/lang/Object"
  | 1 => .object "java/lang/String"
  | 2 => .object "java/lang/Throwable"
  | 3 => .array (.object "java/lang/StackTraceElement")
  | 4 => .int
  | _ => .object "java/util/List"
abbrev wsJx000600 : List Cond := u_ws RJx00060 TJx00060 6
theorem nmJx00060 : ∀ a, a < 6 → ∀ b, b < 6 → a ≠ b → (TJx00060 a).2.1 ≠ (TJx00060 b).2.1 := by decide +kernel
theorem tyJx00060_ok : ∀ k, k < 6 → parseFieldDescriptor (TJx00060 k).2.2.1 = some (tyJx00060 k) := by decide +kernel
abbrev cJx00060_init_a7421 : ByteArray := prog_16_method_2_code
def yJx00060_init_a7421 : MethodName := ⟨RJx00060, "<init>", "(Ljava/lang/String;)V"⟩
abbrev cJx00060_init_d00df : ByteArray := prog_16_method_3_code
def yJx00060_init_d00df : MethodName := ⟨RJx00060, "<init>", "(I)V"⟩
def RJx9f9b0 : String := "java/lang/CharSequence"
def TJx9f9b0 : u_T := fun k => match k with
  | _ => ("", "", "", false)
def tyJx9f9b0 : Nat → FieldType := fun k => match k with
  | _ => .int
abbrev wsJx9f9b00 : List Cond := u_ws RJx9f9b0 TJx9f9b0 0
theorem nmJx9f9b0 : ∀ a, a < 0 → ∀ b, b < 0 → a ≠ b → (TJx9f9b0 a).2.1 ≠ (TJx9f9b0 b).2.1 := by decide +kernel
theorem tyJx9f9b0_ok : ∀ k, k < 0 → parseFieldDescriptor (TJx9f9b0 k).2.2.1 = some (tyJx9f9b0 k) := by decide +kernel
def RJx8e188 : String := "java/lang/Cloneable"
def TJx8e188 : u_T := fun k => match k with
  | _ => ("", "", "", false)
def tyJx8e188 : Nat → FieldType := fun k => match k with
  | _ => .int
abbrev wsJx8e1880 : List Cond := u_ws RJx8e188 TJx8e188 0
theorem nmJx8e188 : ∀ a, a < 0 → ∀ b, b < 0 → a ≠ b → (TJx8e188 a).2.1 ≠ (TJx8e188 b).2.1 := by decide +kernel
theorem tyJx8e188_ok : ∀ k, k < 0 → parseFieldDescriptor (TJx8e188 k).2.2.1 = some (tyJx8e188 k) := by decide +kernel
def RJxb160c : String := "java/lang/Comparable"
def TJxb160c : u_T := fun k => match k with
  | _ => ("", "", "", false)
def tyJxb160c : Nat → FieldType := fun k => match k with
  | _ => .int
abbrev wsJxb160c0 : List Cond := u_ws RJxb160c TJxb160c 0
theorem nmJxb160c : ∀ a, a < 0 → ∀ b, b < 0 → a ≠ b → (TJxb160c a).2.1 ≠ (TJxb160c b).2.1 := by decide +kernel
theorem tyJxb160c_ok : ∀ k, k < 0 → parseFieldDescriptor (TJxb160c k).2.2.1 = some (tyJxb160c k) := by decide +kernel
def RJ6 : String := "java/lang/Integer"
def TJ6 : u_T := fun k => match k with
  | _ => ("", "", "", false)
def tyJ6 : Nat → FieldType := fun k => match k with
  | _ => .int
abbrev wsJ60 : List Cond := u_ws RJ6 TJ6 0
theorem nmJ6 : ∀ a, a < 0 → ∀ b, b < 0 → a ≠ b → (TJ6 a).2.1 ≠ (TJ6 b).2.1 := by decide +kernel
theorem tyJ6_ok : ∀ k, k < 0 → parseFieldDescriptor (TJ6 k).2.2.1 = some (tyJ6 k) := by decide +kernel
abbrev cJ6_getChars_ba4f3 : ByteArray := prog_24_method_12_code
def yJ6_getChars_ba4f3 : MethodName := ⟨RJ6, "getChars", "(II[B)I"⟩
abbrev cJ6_stringSize_0f7a4 : ByteArray := prog_24_method_13_code
def yJ6_stringSize_0f7a4 : MethodName := ⟨RJ6, "stringSize", "(I)I"⟩
def RJ9 : String := "java/lang/Math"
def TJ9 : u_T := fun k => match k with
  | _ => ("", "", "", false)
def tyJ9 : Nat → FieldType := fun k => match k with
  | _ => .int
abbrev wsJ90 : List Cond := u_ws RJ9 TJ9 0
theorem nmJ9 : ∀ a, a < 0 → ∀ b, b < 0 → a ≠ b → (TJ9 a).2.1 ≠ (TJ9 b).2.1 := by decide +kernel
theorem tyJ9_ok : ∀ k, k < 0 → parseFieldDescriptor (TJ9 k).2.2.1 = some (tyJ9 k) := by decide +kernel
abbrev cJ9_floorMod_7cf53 : ByteArray := prog_25_method_50_code
def yJ9_floorMod_7cf53 : MethodName := ⟨RJ9, "floorMod", "(II)I"⟩
abbrev cJ9_max_7cf53 : ByteArray := prog_25_method_65_code
def yJ9_max_7cf53 : MethodName := ⟨RJ9, "max", "(II)I"⟩
abbrev cJ9_min_7cf53 : ByteArray := prog_25_method_69_code
def yJ9_min_7cf53 : MethodName := ⟨RJ9, "min", "(II)I"⟩
def RJxd2413 : String := "java/lang/Number"
def TJxd2413 : u_T := fun k => match k with
  | _ => ("", "", "", false)
def tyJxd2413 : Nat → FieldType := fun k => match k with
  | _ => .int
abbrev wsJxd24130 : List Cond := u_ws RJxd2413 TJxd2413 0
theorem nmJxd2413 : ∀ a, a < 0 → ∀ b, b < 0 → a ≠ b → (TJxd2413 a).2.1 ≠ (TJxd2413 b).2.1 := by decide +kernel
theorem tyJxd2413_ok : ∀ k, k < 0 → parseFieldDescriptor (TJxd2413 k).2.2.1 = some (tyJxd2413 k) := by decide +kernel
def RJ0 : String := "java/lang/String"
def TJ0 : u_T := fun k => match k with
  | 0 => ("java/lang/String", "value", "[B", true)
  | 1 => ("java/lang/String", "coder", "B", true)
  | 2 => ("java/lang/String", "hash", "I", false)
  | _ => ("java/lang/String", "hashIsZero", "Z", false)
def tyJ0 : Nat → FieldType := fun k => match k with
  | 0 => .array .byte
  | 1 => .byte
  | 2 => .int
  | _ => .boolean
abbrev wsJ00 : List Cond := u_ws RJ0 TJ0 4
theorem nmJ0 : ∀ a, a < 4 → ∀ b, b < 4 → a ≠ b → (TJ0 a).2.1 ≠ (TJ0 b).2.1 := by decide +kernel
theorem tyJ0_ok : ∀ k, k < 4 → parseFieldDescriptor (TJ0 k).2.2.1 = some (tyJ0 k) := by decide +kernel
abbrev cJ0_init_81219 : ByteArray := prog_28_method_53_code
def yJ0_init_81219 : MethodName := ⟨RJ0, "<init>", "(Ljava/lang/StringBuilder;)V"⟩
abbrev cJ0_length_8abf5 : ByteArray := prog_28_method_54_code
def yJ0_length_8abf5 : MethodName := ⟨RJ0, "length", "()I"⟩
abbrev cJ0_charAt_5068e : ByteArray := prog_28_method_56_code
def yJ0_charAt_5068e : MethodName := ⟨RJ0, "charAt", "(I)C"⟩
abbrev cJ0_getBytes_840e7 : ByteArray := prog_28_method_147_code
def yJ0_getBytes_840e7 : MethodName := ⟨RJ0, "getBytes", "([BIB)V"⟩
abbrev cJ0_init_db425 : ByteArray := prog_28_method_150_code
def yJ0_init_db425 : MethodName := ⟨RJ0, "<init>", "(Ljava/lang/AbstractStringBuilder;Ljava/lang/Void;)V"⟩
abbrev cJ0_coder_7d493 : ByteArray := prog_28_method_152_code
def yJ0_coder_7d493 : MethodName := ⟨RJ0, "coder", "()B"⟩
abbrev cJ0_isLatin1_aae02 : ByteArray := prog_28_method_154_code
def yJ0_isLatin1_aae02 : MethodName := ⟨RJ0, "isLatin1", "()Z"⟩
abbrev cJ0_checkIndex_df160 : ByteArray := prog_28_method_155_code
def yJ0_checkIndex_df160 : MethodName := ⟨RJ0, "checkIndex", "(II)V"⟩
abbrev cJ0_checkBoundsOffCount_cabcc : ByteArray := prog_28_method_157_code
def yJ0_checkBoundsOffCount_cabcc : MethodName := ⟨RJ0, "checkBoundsOffCount", "(III)I"⟩
abbrev cJ0_checkBoundsBeginEnd_23922 : ByteArray := prog_28_method_158_code
def yJ0_checkBoundsBeginEnd_23922 : MethodName := ⟨RJ0, "checkBoundsBeginEnd", "(III)V"⟩
def RJ4 : String := "java/lang/StringBuilder"
def TJ4 : u_T := fun k => match k with
  | 0 => ("java/lang/AbstractStringBuilder", "value", "[B", false)
  | 1 => ("java/lang/AbstractStringBuilder", "coder", "B", false)
  | 2 => ("java/lang/AbstractStringBuilder", "maybeLatin1", "Z", false)
  | _ => ("java/lang/AbstractStringBuilder", "count", "I", false)
def tyJ4 : Nat → FieldType := fun k => match k with
  | 0 => .array .byte
  | 1 => .byte
  | 2 => .boolean
  | _ => .int
abbrev wsJ40 : List Cond := u_ws RJ4 TJ4 4
theorem nmJ4 : ∀ a, a < 4 → ∀ b, b < 4 → a ≠ b → (TJ4 a).2.1 ≠ (TJ4 b).2.1 := by decide +kernel
theorem tyJ4_ok : ∀ k, k < 4 → parseFieldDescriptor (TJ4 k).2.2.1 = some (tyJ4 k) := by decide +kernel
abbrev cJ4_init_da8c8 : ByteArray := prog_29_method_1_code
def yJ4_init_da8c8 : MethodName := ⟨RJ4, "<init>", "()V"⟩
abbrev cJ4_append_15ec4 : ByteArray := prog_29_method_7_code
def yJ4_append_15ec4 : MethodName := ⟨RJ4, "append", "(Ljava/lang/String;)Ljava/lang/StringBuilder;"⟩
abbrev cJ4_append_cf468 : ByteArray := prog_29_method_14_code
def yJ4_append_cf468 : MethodName := ⟨RJ4, "append", "(C)Ljava/lang/StringBuilder;"⟩
abbrev cJ4_append_bf812 : ByteArray := prog_29_method_15_code
def yJ4_append_bf812 : MethodName := ⟨RJ4, "append", "(I)Ljava/lang/StringBuilder;"⟩
abbrev cJ4_toString_0e30d : ByteArray := prog_29_method_42_code
def yJ4_toString_0e30d : MethodName := ⟨RJ4, "toString", "()Ljava/lang/String;"⟩
abbrev cJ4_charAt_5068e : ByteArray := prog_29_method_88_code
def yJ4_charAt_5068e : MethodName := ⟨RJ4, "charAt", "(I)C"⟩
abbrev cJ4_setLength_d00df : ByteArray := prog_29_method_89_code
def yJ4_setLength_d00df : MethodName := ⟨RJ4, "setLength", "(I)V"⟩
abbrev cJ4_length_8abf5 : ByteArray := prog_29_method_93_code
def yJ4_length_8abf5 : MethodName := ⟨RJ4, "length", "()I"⟩
def RJx7c733 : String := "java/lang/StringIndexOutOfBoundsException"
def TJx7c733 : u_T := fun k => match k with
  | 0 => ("java/lang/Throwable", "backtrace", "Ljava/lang/Object;", false)
  | 1 => ("java/lang/Throwable", "detailMessage", "Ljava/lang/String;", false)
  | 2 => ("java/lang/Throwable", "cause", "Ljava/lang/Throwable;", false)
  | 3 => ("java/lang/Throwable", "stackTrace", "[Ljava/lang/StackTraceElement;", false)
  | 4 => ("java/lang/Throwable", "depth", "I", false)
  | _ => ("java/lang/Throwable", "suppressedExceptions", "Ljava/util/List;", false)
def tyJx7c733 : Nat → FieldType := fun k => match k with
  | 0 => .object "java/lang/Object"
  | 1 => .object "java/lang/String"
  | 2 => .object "java/lang/Throwable"
  | 3 => .array (.object "java/lang/StackTraceElement")
  | 4 => .int
  | _ => .object "java/util/List"
abbrev wsJx7c7330 : List Cond := u_ws RJx7c733 TJx7c733 6
theorem nmJx7c733 : ∀ a, a < 6 → ∀ b, b < 6 → a ≠ b → (TJx7c733 a).2.1 ≠ (TJx7c733 b).2.1 := by decide +kernel
theorem tyJx7c733_ok : ∀ k, k < 6 → parseFieldDescriptor (TJx7c733 k).2.2.1 = some (tyJx7c733 k) := by decide +kernel
abbrev cJx7c733_init_d00df : ByteArray := prog_30_method_3_code
def yJx7c733_init_d00df : MethodName := ⟨RJx7c733, "<init>", "(I)V"⟩
def RJ1 : String := "java/lang/StringLatin1"
def TJ1 : u_T := fun k => match k with
  | _ => ("", "", "", false)
def tyJ1 : Nat → FieldType := fun k => match k with
  | _ => .int
abbrev wsJ10 : List Cond := u_ws RJ1 TJ1 0
theorem nmJ1 : ∀ a, a < 0 → ∀ b, b < 0 → a ≠ b → (TJ1 a).2.1 ≠ (TJ1 b).2.1 := by decide +kernel
theorem tyJ1_ok : ∀ k, k < 0 → parseFieldDescriptor (TJ1 k).2.2.1 = some (tyJ1 k) := by decide +kernel
abbrev cJ1_charAt_3b067 : ByteArray := prog_31_method_2_code
def yJ1_charAt_3b067 : MethodName := ⟨RJ1, "charAt", "([BI)C"⟩
abbrev cJ1_canEncode_fc78d : ByteArray := prog_31_method_3_code
def yJ1_canEncode_fc78d : MethodName := ⟨RJ1, "canEncode", "(C)Z"⟩
abbrev cJ1_fillNull_b72d1 : ByteArray := prog_31_method_48_code
def yJ1_fillNull_b72d1 : MethodName := ⟨RJ1, "fillNull", "([BII)V"⟩
abbrev cJ1_inflate_0e8fd : ByteArray := prog_31_method_50_code
def yJ1_inflate_0e8fd : MethodName := ⟨RJ1, "inflate", "([BI[BII)V"⟩
def RJ2 : String := "java/lang/StringUTF16"
def TJ2 : u_T := fun k => match k with
  | _ => ("", "", "", false)
def tyJ2 : Nat → FieldType := fun k => match k with
  | _ => .int
abbrev wsJ20 : List Cond := u_ws RJ2 TJ2 0
theorem nmJ2 : ∀ a, a < 0 → ∀ b, b < 0 → a ≠ b → (TJ2 a).2.1 ≠ (TJ2 b).2.1 := by decide +kernel
theorem tyJ2_ok : ∀ k, k < 0 → parseFieldDescriptor (TJ2 k).2.2.1 = some (tyJ2 k) := by decide +kernel
abbrev cJ2_newBytesFor_77867 : ByteArray := prog_32_method_2_code
def yJ2_newBytesFor_77867 : MethodName := ⟨RJ2, "newBytesFor", "(I)[B"⟩
abbrev cJ2_newBytesLength_0f7a4 : ByteArray := prog_32_method_3_code
def yJ2_newBytesLength_0f7a4 : MethodName := ⟨RJ2, "newBytesLength", "(I)I"⟩
abbrev cJ2_putChar_b72d1 : ByteArray := prog_32_method_4_code
def yJ2_putChar_b72d1 : MethodName := ⟨RJ2, "putChar", "([BII)V"⟩
abbrev cJ2_getChar_3b067 : ByteArray := prog_32_method_5_code
def yJ2_getChar_3b067 : MethodName := ⟨RJ2, "getChar", "([BI)C"⟩
abbrev cJ2_length_9d52b : ByteArray := prog_32_method_6_code
def yJ2_length_9d52b : MethodName := ⟨RJ2, "length", "([B)I"⟩
abbrev cJ2_coderFromArrayLen_85cad : ByteArray := prog_32_method_15_code
def yJ2_coderFromArrayLen_85cad : MethodName := ⟨RJ2, "coderFromArrayLen", "([BI)B"⟩
abbrev cJ2_compress_39247 : ByteArray := prog_32_method_17_code
def yJ2_compress_39247 : MethodName := ⟨RJ2, "compress", "([BII)[B"⟩
abbrev cJ2_compress_5af95 : ByteArray := prog_32_method_22_code
def yJ2_compress_5af95 : MethodName := ⟨RJ2, "compress", "([BI[BII)I"⟩
abbrev cJ2_fillNull_b72d1 : ByteArray := prog_32_method_70_code
def yJ2_fillNull_b72d1 : MethodName := ⟨RJ2, "fillNull", "([BII)V"⟩
abbrev cJ2_putCharSB_b72d1 : ByteArray := prog_32_method_71_code
def yJ2_putCharSB_b72d1 : MethodName := ⟨RJ2, "putCharSB", "([BII)V"⟩
abbrev cJ2_getChars_46870 : ByteArray := prog_32_method_77_code
def yJ2_getChars_46870 : MethodName := ⟨RJ2, "getChars", "(III[B)I"⟩
abbrev cJ2_putCharsAt_cd4e5 : ByteArray := prog_32_method_81_code
def yJ2_putCharsAt_cd4e5 : MethodName := ⟨RJ2, "putCharsAt", "([BICCCC)I"⟩
abbrev cJ2_charAt_3b067 : ByteArray := prog_32_method_83_code
def yJ2_charAt_3b067 : MethodName := ⟨RJ2, "charAt", "([BI)C"⟩
abbrev cJ2_inflate_0e8fd : ByteArray := prog_32_method_86_code
def yJ2_inflate_0e8fd : MethodName := ⟨RJ2, "inflate", "([BI[BII)V"⟩
abbrev cJ2_getChars_ba4f3 : ByteArray := prog_32_method_89_code
def yJ2_getChars_ba4f3 : MethodName := ⟨RJ2, "getChars", "(II[B)I"⟩
abbrev cJ2_checkIndex_2214a : ByteArray := prog_32_method_91_code
def yJ2_checkIndex_2214a : MethodName := ⟨RJ2, "checkIndex", "(I[B)V"⟩
abbrev cJ2_checkBoundsBeginEnd_d044e : ByteArray := prog_32_method_93_code
def yJ2_checkBoundsBeginEnd_d044e : MethodName := ⟨RJ2, "checkBoundsBeginEnd", "(II[B)V"⟩
abbrev cJ2_checkBoundsOffCount_d044e : ByteArray := prog_32_method_94_code
def yJ2_checkBoundsOffCount_d044e : MethodName := ⟨RJ2, "checkBoundsOffCount", "(II[B)V"⟩
def RJ10 : String := "java/lang/System"
def TJ10 : u_T := fun k => match k with
  | _ => ("", "", "", false)
def tyJ10 : Nat → FieldType := fun k => match k with
  | _ => .int
abbrev wsJ100 : List Cond := u_ws RJ10 TJ10 0
theorem nmJ10 : ∀ a, a < 0 → ∀ b, b < 0 → a ≠ b → (TJ10 a).2.1 ≠ (TJ10 b).2.1 := by decide +kernel
theorem tyJ10_ok : ∀ k, k < 0 → parseFieldDescriptor (TJ10 k).2.2.1 = some (tyJ10 k) := by decide +kernel
def RJxfd54e : String := "java/lang/constant/Constable"
def TJxfd54e : u_T := fun k => match k with
  | _ => ("", "", "", false)
def tyJxfd54e : Nat → FieldType := fun k => match k with
  | _ => .int
abbrev wsJxfd54e0 : List Cond := u_ws RJxfd54e TJxfd54e 0
theorem nmJxfd54e : ∀ a, a < 0 → ∀ b, b < 0 → a ≠ b → (TJxfd54e a).2.1 ≠ (TJxfd54e b).2.1 := by decide +kernel
theorem tyJxfd54e_ok : ∀ k, k < 0 → parseFieldDescriptor (TJxfd54e k).2.2.1 = some (tyJxfd54e k) := by decide +kernel
def RJx3cf43 : String := "java/lang/constant/ConstantDesc"
def TJx3cf43 : u_T := fun k => match k with
  | _ => ("", "", "", false)
def tyJx3cf43 : Nat → FieldType := fun k => match k with
  | _ => .int
abbrev wsJx3cf430 : List Cond := u_ws RJx3cf43 TJx3cf43 0
theorem nmJx3cf43 : ∀ a, a < 0 → ∀ b, b < 0 → a ≠ b → (TJx3cf43 a).2.1 ≠ (TJx3cf43 b).2.1 := by decide +kernel
theorem tyJx3cf43_ok : ∀ k, k < 0 → parseFieldDescriptor (TJx3cf43 k).2.2.1 = some (tyJx3cf43 k) := by decide +kernel
def RJ7 : String := "java/util/Arrays"
def TJ7 : u_T := fun k => match k with
  | _ => ("", "", "", false)
def tyJ7 : Nat → FieldType := fun k => match k with
  | _ => .int
abbrev wsJ70 : List Cond := u_ws RJ7 TJ7 0
theorem nmJ7 : ∀ a, a < 0 → ∀ b, b < 0 → a ≠ b → (TJ7 a).2.1 ≠ (TJ7 b).2.1 := by decide +kernel
theorem tyJ7_ok : ∀ k, k < 0 → parseFieldDescriptor (TJ7 k).2.2.1 = some (tyJ7 k) := by decide +kernel
abbrev cJ7_rangeCheck_23922 : ByteArray := prog_37_method_30_code
def yJ7_rangeCheck_23922 : MethodName := ⟨RJ7, "rangeCheck", "(III)V"⟩
abbrev cJ7_fill_eb02e : ByteArray := prog_37_method_110_code
def yJ7_fill_eb02e : MethodName := ⟨RJ7, "fill", "([BIIB)V"⟩
abbrev cJ7_copyOf_9075b : ByteArray := prog_37_method_121_code
def yJ7_copyOf_9075b : MethodName := ⟨RJ7, "copyOf", "([BI)[B"⟩
abbrev cJ7_checkLength_df160 : ByteArray := prog_37_method_131_code
def yJ7_checkLength_df160 : MethodName := ⟨RJ7, "checkLength", "(II)V"⟩
abbrev cJ7_copyOfRange_39247 : ByteArray := prog_37_method_132_code
def yJ7_copyOfRange_39247 : MethodName := ⟨RJ7, "copyOfRange", "([BII)[B"⟩
abbrev cJ7_copyOfRangeByte_39247 : ByteArray := prog_37_method_133_code
def yJ7_copyOfRangeByte_39247 : MethodName := ⟨RJ7, "copyOfRangeByte", "([BII)[B"⟩
def RJ8 : String := "jdk/internal/util/ArraysSupport"
def TJ8 : u_T := fun k => match k with
  | _ => ("", "", "", false)
def tyJ8 : Nat → FieldType := fun k => match k with
  | _ => .int
abbrev wsJ80 : List Cond := u_ws RJ8 TJ8 0
theorem nmJ8 : ∀ a, a < 0 → ∀ b, b < 0 → a ≠ b → (TJ8 a).2.1 ≠ (TJ8 b).2.1 := by decide +kernel
theorem tyJ8_ok : ∀ k, k < 0 → parseFieldDescriptor (TJ8 k).2.2.1 = some (tyJ8 k) := by decide +kernel
abbrev cJ8_newLength_cabcc : ByteArray := prog_39_method_27_code
def yJ8_newLength_cabcc : MethodName := ⟨RJ8, "newLength", "(III)I"⟩
abbrev cJ8_hugeLength_7cf53 : ByteArray := prog_39_method_28_code
def yJ8_hugeLength_7cf53 : MethodName := ⟨RJ8, "hugeLength", "(II)I"⟩
def RJ3 : String := "jdk/internal/util/Preconditions"
def TJ3 : u_T := fun k => match k with
  | _ => ("", "", "", false)
def tyJ3 : Nat → FieldType := fun k => match k with
  | _ => .int
abbrev wsJ30 : List Cond := u_ws RJ3 TJ3 0
theorem nmJ3 : ∀ a, a < 0 → ∀ b, b < 0 → a ≠ b → (TJ3 a).2.1 ≠ (TJ3 b).2.1 := by decide +kernel
theorem tyJ3_ok : ∀ k, k < 0 → parseFieldDescriptor (TJ3 k).2.2.1 = some (tyJ3 k) := by decide +kernel
abbrev cJ3_checkIndex_8e157 : ByteArray := prog_40_method_11_code
def yJ3_checkIndex_8e157 : MethodName := ⟨RJ3, "checkIndex", "(IILjava/util/function/BiFunction;)I"⟩
abbrev cJ3_checkFromToIndex_8c36e : ByteArray := prog_40_method_12_code
def yJ3_checkFromToIndex_8c36e : MethodName := ⟨RJ3, "checkFromToIndex", "(IIILjava/util/function/BiFunction;)I"⟩
abbrev cJ3_checkFromIndexSize_8c36e : ByteArray := prog_40_method_13_code
def yJ3_checkFromIndexSize_8c36e : MethodName := ⟨RJ3, "checkFromIndexSize", "(IIILjava/util/function/BiFunction;)I"⟩
def RL : String := "EchoPantryLaw"
abbrev cL_cell : ByteArray := method_2_code
def yL_cell : MethodName := ⟨RL, "cell", "([II)I"⟩
abbrev cL_addJar : ByteArray := method_3_code
def yL_addJar : MethodName := ⟨RL, "addJar", "(LEchoPantry;CI)I"⟩
abbrev cL_removeJar : ByteArray := method_4_code
def yL_removeJar : MethodName := ⟨RL, "removeJar", "(LEchoPantry;C)I"⟩
abbrev cL_say : ByteArray := method_5_code
def yL_say : MethodName := ⟨RL, "say", "(LEchoPantry;CI)I"⟩
abbrev cL_jarAt : ByteArray := method_6_code
def yL_jarAt : MethodName := ⟨RL, "jarAt", "(LEchoPantry;I)I"⟩
abbrev cL_wordOf : ByteArray := method_7_code
def yL_wordOf : MethodName := ⟨RL, "wordOf", "(LEchoPantry;C)I"⟩
abbrev cL_addShelf : ByteArray := method_8_code
def yL_addShelf : MethodName := ⟨RL, "addShelf", "(LEchoPantry;IIC)I"⟩
abbrev cL_listen : ByteArray := method_9_code
def yL_listen : MethodName := ⟨RL, "listen", "(LEchoPantry;IZ)I"⟩
abbrev cL_capacityOf : ByteArray := method_10_code
def yL_capacityOf : MethodName := ⟨RL, "capacityOf", "(LEchoPantry;I)I"⟩
abbrev cL_lifetimeOf : ByteArray := method_11_code
def yL_lifetimeOf : MethodName := ⟨RL, "lifetimeOf", "(LEchoPantry;I)I"⟩
abbrev cL_policyOf : ByteArray := method_12_code
def yL_policyOf : MethodName := ⟨RL, "policyOf", "(LEchoPantry;I)I"⟩
abbrev cL_isListening : ByteArray := method_13_code
def yL_isListening : MethodName := ⟨RL, "isListening", "(LEchoPantry;I)I"⟩
abbrev cL_echoCount : ByteArray := method_14_code
def yL_echoCount : MethodName := ⟨RL, "echoCount", "(LEchoPantry;I)I"⟩
abbrev cL_echoAt : ByteArray := method_15_code
def yL_echoAt : MethodName := ⟨RL, "echoAt", "(LEchoPantry;II)I"⟩
abbrev cL_hasEcho : ByteArray := method_16_code
def yL_hasEcho : MethodName := ⟨RL, "hasEcho", "(LEchoPantry;IC)I"⟩
abbrev cL_echoOf : ByteArray := method_17_code
def yL_echoOf : MethodName := ⟨RL, "echoOf", "(LEchoPantry;IC)I"⟩
abbrev cL_ageOf : ByteArray := method_18_code
def yL_ageOf : MethodName := ⟨RL, "ageOf", "(LEchoPantry;IC)I"⟩
abbrev cL_hitsOf : ByteArray := method_19_code
def yL_hitsOf : MethodName := ⟨RL, "hitsOf", "(LEchoPantry;IC)I"⟩
abbrev cL_isExpired : ByteArray := method_20_code
def yL_isExpired : MethodName := ⟨RL, "isExpired", "(LEchoPantry;IC)I"⟩
abbrev cL_isOpen : ByteArray := method_21_code
def yL_isOpen : MethodName := ⟨RL, "isOpen", "(LEchoPantry;IC)I"⟩
abbrev cL_isTrue : ByteArray := method_22_code
def yL_isTrue : MethodName := ⟨RL, "isTrue", "(LEchoPantry;IC)I"⟩
abbrev cL_bySteps : ByteArray := method_23_code
def yL_bySteps : MethodName := ⟨RL, "bySteps", "(LEchoPantry;IC)I"⟩
abbrev cL_victimOf : ByteArray := method_24_code
def yL_victimOf : MethodName := ⟨RL, "victimOf", "(LEchoPantry;I)I"⟩
abbrev cL_byScan : ByteArray := method_25_code
def yL_byScan : MethodName := ⟨RL, "byScan", "(LEchoPantry;I)I"⟩
abbrev cL_hear : ByteArray := method_26_code
def yL_hear : MethodName := ⟨RL, "hear", "(LEchoPantry;IC)I"⟩
abbrev cL_outcome : ByteArray := method_27_code
def yL_outcome : MethodName := ⟨RL, "outcome", "(LEchoPantry;IC)I"⟩
abbrev cL_warm : ByteArray := method_28_code
def yL_warm : MethodName := ⟨RL, "warm", "(LEchoPantry;ICI)I"⟩
abbrev cL_cancel : ByteArray := method_29_code
def yL_cancel : MethodName := ⟨RL, "cancel", "(LEchoPantry;I)I"⟩
abbrev cL_pass : ByteArray := method_30_code
def yL_pass : MethodName := ⟨RL, "pass", "(LEchoPantry;I)I"⟩
abbrev cL_minuteAt : ByteArray := method_31_code
def yL_minuteAt : MethodName := ⟨RL, "minuteAt", "(LEchoPantry;I)I"⟩
abbrev cL_warmedAt : ByteArray := method_32_code
def yL_warmedAt : MethodName := ⟨RL, "warmedAt", "(LEchoPantry;I)I"⟩
abbrev cL_misses : ByteArray := method_33_code
def yL_misses : MethodName := ⟨RL, "misses", "(LEchoPantry;C)I"⟩
abbrev cL_byHits : ByteArray := method_34_code
def yL_byHits : MethodName := ⟨RL, "byHits", "(LEchoPantry;I)I"⟩
abbrev cL_writeShelf : ByteArray := method_35_code
def yL_writeShelf : MethodName := ⟨RL, "writeShelf", "(LEchoPantry;I)I"⟩
abbrev cL_lineAt : ByteArray := method_36_code
def yL_lineAt : MethodName := ⟨RL, "lineAt", "(LEchoPantry;I)I"⟩
abbrev cL_type : ByteArray := method_37_code
def yL_type : MethodName := ⟨RL, "type", "(LEchoPantry;C)I"⟩
abbrev cL_executes : ByteArray := method_38_code
def yL_executes : MethodName := ⟨RL, "executes", "(LEchoPantry;)I"⟩
abbrev cL_undo : ByteArray := method_41_code
def yL_undo : MethodName := ⟨RL, "undo", "(LEchoPantry;)I"⟩
abbrev cL_execute : ByteArray := method_42_code
def yL_execute : MethodName := ⟨RL, "execute", "(LEchoPantry;Ljava/lang/String;)I"⟩
abbrev cL_drawn : ByteArray := method_43_code
def yL_drawn : MethodName := ⟨RL, "drawn", "([I)LEchoPantry;"⟩
abbrev cL_law : ByteArray := code
def yL_law : MethodName := ⟨RL, "law", "([I)Z"⟩
abbrev cL_jars : ByteArray := method_45_code
def yL_jars : MethodName := ⟨RL, "jars", "(LEchoPantry;)Z"⟩
abbrev cL_shelves : ByteArray := method_46_code
def yL_shelves : MethodName := ⟨RL, "shelves", "(LEchoPantry;)Z"⟩
abbrev cL_isEcho : ByteArray := method_47_code
def yL_isEcho : MethodName := ⟨RL, "isEcho", "(LEchoPantry;IC)Z"⟩
abbrev cL_isFewest : ByteArray := method_48_code
def yL_isFewest : MethodName := ⟨RL, "isFewest", "(LEchoPantry;IC)Z"⟩
abbrev cL_warmings : ByteArray := method_49_code
def yL_warmings : MethodName := ⟨RL, "warmings", "(LEchoPantry;)Z"⟩
abbrev cL_spells : ByteArray := method_50_code
def yL_spells : MethodName := ⟨RL, "spells", "(LEchoPantry;ILjava/lang/String;)Z"⟩
abbrev cL_lines : ByteArray := method_51_code
def yL_lines : MethodName := ⟨RL, "lines", "(LEchoPantry;)Z"⟩
abbrev cL_sum : ByteArray := method_52_code
def yL_sum : MethodName := ⟨RL, "sum", "(LEchoPantry;)J"⟩
abbrev cL_undone : ByteArray := method_53_code
def yL_undone : MethodName := ⟨RL, "undone", "([ILEchoPantry;)Z"⟩
