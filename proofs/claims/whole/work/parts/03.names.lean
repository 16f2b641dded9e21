/-! ===== BEGIN printed: names, fields, word lists, decode rows ===== -/
def RX0 : String := "PortRules"
def TX0 : u_T := fun k => match k with
  | 0 => ("PortRules", "partCount", "I", false)
  | 1 => ("PortRules", "compositionOf", "[I", true)
  | 2 => ("PortRules", "hasInnerParts", "[Z", true)
  | 3 => ("PortRules", "managerOf", "[I", true)
  | 4 => ("PortRules", "portCount", "I", false)
  | 5 => ("PortRules", "partOf", "[I", true)
  | 6 => ("PortRules", "kindOf", "[I", true)
  | 7 => ("PortRules", "isProvided", "[Z", true)
  | 8 => ("PortRules", "unitOf", "[I", true)
  | 9 => ("PortRules", "upOf", "[J", true)
  | 10 => ("PortRules", "downOf", "[J", true)
  | 11 => ("PortRules", "versionOf", "[I", true)
  | 12 => ("PortRules", "hasFallback", "[Z", true)
  | 13 => ("PortRules", "fallbackOf", "[I", true)
  | 14 => ("PortRules", "queueOf", "[I", true)
  | 15 => ("PortRules", "connectedTo", "[J", true)
  | 16 => ("PortRules", "reachedFrom", "[J", true)
  | 17 => ("PortRules", "atomicProvided", "J", false)
  | _ => ("PortRules", "atomicRequired", "J", false)
def tyX0 : Nat → FieldType := fun k => match k with
  | 0 => .int
  | 1 => .array .int
  | 2 => .array .boolean
  | 3 => .array .int
  | 4 => .int
  | 5 => .array .int
  | 6 => .array .int
  | 7 => .array .boolean
  | 8 => .array .int
  | 9 => .array .long
  | 10 => .array .long
  | 11 => .array .int
  | 12 => .array .boolean
  | 13 => .array .int
  | 14 => .array .int
  | 15 => .array .long
  | 16 => .array .long
  | 17 => .long
  | _ => .long
abbrev wsX00 : List Cond := u_ws RX0 TX0 19
theorem nmX0 : ∀ a, a < 19 → ∀ b, b < 19 → a ≠ b → (TX0 a).2.1 ≠ (TX0 b).2.1 := by decide +kernel
theorem tyX0_ok : ∀ k, k < 19 → parseFieldDescriptor (TX0 k).2.2.1 = some (tyX0 k) := by decide +kernel
abbrev cX0_init : ByteArray := prog_1_method_1_code
def yX0_init : MethodName := ⟨RX0, "<init>", "()V"⟩
abbrev cX0_part : ByteArray := prog_1_method_2_code
def yX0_part : MethodName := ⟨RX0, "part", "(I)I"⟩
abbrev cX0_port : ByteArray := prog_1_method_3_code
def yX0_port : MethodName := ⟨RX0, "port", "(IIZ)I"⟩
abbrev cX0_unit : ByteArray := prog_1_method_4_code
def yX0_unit : MethodName := ⟨RX0, "unit", "(IIJJ)I"⟩
abbrev cX0_connect : ByteArray := prog_1_method_5_code
def yX0_connect : MethodName := ⟨RX0, "connect", "(II)I"⟩
abbrev cX0_flatten : ByteArray := prog_1_method_6_code
def yX0_flatten : MethodName := ⟨RX0, "flatten", "()I"⟩
abbrev cX0_at : ByteArray := prog_1_method_7_code
def yX0_at : MethodName := ⟨RX0, "at", "(II)I"⟩
abbrev cX0_check : ByteArray := prog_1_method_8_code
def yX0_check : MethodName := ⟨RX0, "check", "()I"⟩
abbrev cX0_manager : ByteArray := prog_1_method_9_code
def yX0_manager : MethodName := ⟨RX0, "manager", "(II)I"⟩
abbrev cX0_fallback : ByteArray := prog_1_method_10_code
def yX0_fallback : MethodName := ⟨RX0, "fallback", "(II)I"⟩
abbrev cX0_queue : ByteArray := prog_1_method_11_code
def yX0_queue : MethodName := ⟨RX0, "queue", "(II)I"⟩
abbrev cX0_version : ByteArray := prog_1_method_12_code
def yX0_version : MethodName := ⟨RX0, "version", "(II)I"⟩
abbrev cX0_open : ByteArray := prog_1_method_13_code
def yX0_open : MethodName := ⟨RX0, "open", "(I)I"⟩
abbrev cX0_isPart : ByteArray := prog_1_method_14_code
def yX0_isPart : MethodName := ⟨RX0, "isPart", "(I)Z"⟩
abbrev cX0_isPort : ByteArray := prog_1_method_15_code
def yX0_isPort : MethodName := ⟨RX0, "isPort", "(I)Z"⟩
abbrev cX0_isScaling : ByteArray := prog_1_method_16_code
def yX0_isScaling : MethodName := ⟨RX0, "isScaling", "(J)Z"⟩
abbrev cX0_bit : ByteArray := prog_1_method_17_code
def yX0_bit : MethodName := ⟨RX0, "bit", "(I)J"⟩
abbrev cX0_holds : ByteArray := prog_1_method_18_code
def yX0_holds : MethodName := ⟨RX0, "holds", "(JI)Z"⟩
abbrev cX0_nthPort : ByteArray := prog_1_method_19_code
def yX0_nthPort : MethodName := ⟨RX0, "nthPort", "(JI)I"⟩
abbrev cX0_addAtomicPort : ByteArray := prog_1_method_20_code
def yX0_addAtomicPort : MethodName := ⟨RX0, "addAtomicPort", "(I)V"⟩
abbrev cX0_endAtomic : ByteArray := prog_1_method_21_code
def yX0_endAtomic : MethodName := ⟨RX0, "endAtomic", "(I)V"⟩
abbrev cX0_isWay : ByteArray := prog_1_method_22_code
def yX0_isWay : MethodName := ⟨RX0, "isWay", "(II)Z"⟩
abbrev cX0_spreadReach : ByteArray := prog_1_method_23_code
def yX0_spreadReach : MethodName := ⟨RX0, "spreadReach", "(II)V"⟩
abbrev cX0_flatFrom : ByteArray := prog_1_method_24_code
def yX0_flatFrom : MethodName := ⟨RX0, "flatFrom", "(I)J"⟩
abbrev cX0_flatSeconds : ByteArray := prog_1_method_25_code
def yX0_flatSeconds : MethodName := ⟨RX0, "flatSeconds", "()J"⟩
abbrev cX0_flatCountTo : ByteArray := prog_1_method_26_code
def yX0_flatCountTo : MethodName := ⟨RX0, "flatCountTo", "(I)I"⟩
abbrev cX0_isPortRule : ByteArray := prog_1_method_27_code
def yX0_isPortRule : MethodName := ⟨RX0, "isPortRule", "(I)Z"⟩
abbrev cX0_firstBadPort : ByteArray := prog_1_method_28_code
def yX0_firstBadPort : MethodName := ⟨RX0, "firstBadPort", "(I)I"⟩
abbrev cX0_portBreaks : ByteArray := prog_1_method_29_code
def yX0_portBreaks : MethodName := ⟨RX0, "portBreaks", "(II)Z"⟩
abbrev cX0_firstBadConnector : ByteArray := prog_1_method_30_code
def yX0_firstBadConnector : MethodName := ⟨RX0, "firstBadConnector", "(I)I"⟩
abbrev cX0_connectorBreaks : ByteArray := prog_1_method_31_code
def yX0_connectorBreaks : MethodName := ⟨RX0, "connectorBreaks", "(III)Z"⟩
abbrev cX0_isExactScaling : ByteArray := prog_1_method_32_code
def yX0_isExactScaling : MethodName := ⟨RX0, "isExactScaling", "(II)Z"⟩
abbrev cX0_servesVersion : ByteArray := prog_1_method_33_code
def yX0_servesVersion : MethodName := ⟨RX0, "servesVersion", "(II)Z"⟩
abbrev cX0_managesMode : ByteArray := prog_1_method_34_code
def yX0_managesMode : MethodName := ⟨RX0, "managesMode", "(I)Z"⟩
def RX1 : String := "PortRulesModel"
def TX1 : u_T := fun k => match k with
  | _ => ("", "", "", false)
def tyX1 : Nat → FieldType := fun k => match k with
  | _ => .int
abbrev wsX10 : List Cond := u_ws RX1 TX1 0
theorem nmX1 : ∀ a, a < 0 → ∀ b, b < 0 → a ≠ b → (TX1 a).2.1 ≠ (TX1 b).2.1 := by decide +kernel
theorem tyX1_ok : ∀ k, k < 0 → parseFieldDescriptor (TX1 k).2.2.1 = some (tyX1 k) := by decide +kernel
def RJ13 : String := "java/lang/Long"
def TJ13 : u_T := fun k => match k with
  | _ => ("", "", "", false)
def tyJ13 : Nat → FieldType := fun k => match k with
  | _ => .int
abbrev wsJ130 : List Cond := u_ws RJ13 TJ13 0
theorem nmJ13 : ∀ a, a < 0 → ∀ b, b < 0 → a ≠ b → (TJ13 a).2.1 ≠ (TJ13 b).2.1 := by decide +kernel
theorem tyJ13_ok : ∀ k, k < 0 → parseFieldDescriptor (TJ13 k).2.2.1 = some (tyJ13 k) := by decide +kernel
abbrev cJ13_bitCount_95d88 : ByteArray := prog_6_method_50_code
def yJ13_bitCount_95d88 : MethodName := ⟨RJ13, "bitCount", "(J)I"⟩
def RJ0 : String := "java/lang/String"
def TJ0 : u_T := fun k => match k with
  | _ => ("", "", "", false)
def tyJ0 : Nat → FieldType := fun k => match k with
  | _ => .int
abbrev wsJ00 : List Cond := u_ws RJ0 TJ0 0
theorem nmJ0 : ∀ a, a < 0 → ∀ b, b < 0 → a ≠ b → (TJ0 a).2.1 ≠ (TJ0 b).2.1 := by decide +kernel
theorem tyJ0_ok : ∀ k, k < 0 → parseFieldDescriptor (TJ0 k).2.2.1 = some (tyJ0 k) := by decide +kernel
def RJ7 : String := "java/util/Arrays"
def TJ7 : u_T := fun k => match k with
  | _ => ("", "", "", false)
def tyJ7 : Nat → FieldType := fun k => match k with
  | _ => .int
abbrev wsJ70 : List Cond := u_ws RJ7 TJ7 0
theorem nmJ7 : ∀ a, a < 0 → ∀ b, b < 0 → a ≠ b → (TJ7 a).2.1 ≠ (TJ7 b).2.1 := by decide +kernel
theorem tyJ7_ok : ∀ k, k < 0 → parseFieldDescriptor (TJ7 k).2.2.1 = some (tyJ7 k) := by decide +kernel
abbrev cJ7_fill_53178 : ByteArray := prog_10_method_103_code
def yJ7_fill_53178 : MethodName := ⟨RJ7, "fill", "([II)V"⟩
def RL : String := "PortRulesLaw"
abbrev cL_at : ByteArray := method_3_code
def yL_at : MethodName := ⟨RL, "at", "(LPortRules;II[J)I"⟩
abbrev cL_law : ByteArray := code
def yL_law : MethodName := ⟨RL, "law", "([I)Z"⟩
def wsJ7_fill_53178 : List Cond := .code yJ7_fill_53178 cJ7_fill_53178 4 none :: ([])
def wsX0_init_r1 : List Cond := [Cond.methodLink RX0 1 objectInit, Cond.instanceMethod objectInit, Cond.code objectInit ⟨#[0xb1]⟩ 1 none, Cond.arrayClass .int, Cond.fieldLink RX0 9 "PortRules" "compositionOf" "[I", Cond.arrayClass .boolean, Cond.fieldLink RX0 13 "PortRules" "hasInnerParts" "[Z", Cond.fieldLink RX0 17 "PortRules" "managerOf" "[I", Cond.fieldLink RX0 20 "PortRules" "partOf" "[I", Cond.fieldLink RX0 23 "PortRules" "kindOf" "[I", Cond.fieldLink RX0 26 "PortRules" "isProvided" "[Z", Cond.fieldLink RX0 29 "PortRules" "unitOf" "[I", Cond.arrayClass .long, Cond.fieldLink RX0 32 "PortRules" "upOf" "[J", Cond.fieldLink RX0 36 "PortRules" "downOf" "[J", Cond.fieldLink RX0 39 "PortRules" "versionOf" "[I", Cond.fieldLink RX0 42 "PortRules" "hasFallback" "[Z", Cond.fieldLink RX0 45 "PortRules" "fallbackOf" "[I", Cond.fieldLink RX0 48 "PortRules" "queueOf" "[I", Cond.fieldLink RX0 51 "PortRules" "connectedTo" "[J", Cond.fieldLink RX0 54 "PortRules" "reachedFrom" "[J", Cond.methodLink RX0 57 yJ7_fill_53178, Cond.static yJ7_fill_53178, Cond.initialized RJ7]
def wsX0_init_r2 : List Cond := [Cond.code yJ7_fill_53178 cJ7_fill_53178 4 none]
def wsX0_init : List Cond := .code yX0_init cX0_init 1 none :: ((wsX0_init_r1 ++ wsX0_init_r2) ++ wsX00)
def wsX0_isPart : List Cond := .code yX0_isPart cX0_isPart 2 (some .boolean) :: ([.fieldLink RX0 67 "PortRules" "partCount" "I"] ++ wsX00)
def wsX0_bit : List Cond := .code yX0_bit cX0_bit 1 (some .long) :: ([])
def wsX0_endAtomic : List Cond := .code yX0_endAtomic cX0_endAtomic 3 none :: ([.fieldLink RX0 13 "PortRules" "hasInnerParts" "[Z", .fieldLink RX0 75 "PortRules" "portCount" "I", .fieldLink RX0 20 "PortRules" "partOf" "[I", .fieldLink RX0 146 "PortRules" "atomicProvided" "J", .constantLong RX0 142 (-1), .fieldLink RX0 134 "PortRules" "atomicRequired" "J", .methodLink RX0 96 yX0_bit, .static yX0_bit, .initialized RX0, .code yX0_bit cX0_bit 1 (some .long)] ++ wsX00)
def wsX0_part : List Cond := .code yX0_part cX0_part 2 (some .int) :: ([.fieldLink RX0 67 "PortRules" "partCount" "I", .fieldLink RX0 9 "PortRules" "compositionOf" "[I", .methodLink RX0 63 yX0_isPart, .instanceMethod yX0_isPart, .selects RX0 yX0_isPart yX0_isPart, .initialized RX0, .code yX0_isPart cX0_isPart 2 (some .boolean), .methodLink RX0 71 yX0_endAtomic, .instanceMethod yX0_endAtomic, .selects RX0 yX0_endAtomic yX0_endAtomic, .code yX0_endAtomic cX0_endAtomic 3 none, .fieldLink RX0 13 "PortRules" "hasInnerParts" "[Z", .fieldLink RX0 75 "PortRules" "portCount" "I", .fieldLink RX0 20 "PortRules" "partOf" "[I", .fieldLink RX0 146 "PortRules" "atomicProvided" "J", .constantLong RX0 142 (-1), .fieldLink RX0 134 "PortRules" "atomicRequired" "J", .methodLink RX0 96 yX0_bit, .static yX0_bit, .code yX0_bit cX0_bit 1 (some .long)] ++ wsX00)
def wsX0_addAtomicPort : List Cond := .code yX0_addAtomicPort cX0_addAtomicPort 2 none :: ([.fieldLink RX0 26 "PortRules" "isProvided" "[Z", .fieldLink RX0 146 "PortRules" "atomicProvided" "J", .fieldLink RX0 134 "PortRules" "atomicRequired" "J", .methodLink RX0 96 yX0_bit, .static yX0_bit, .initialized RX0, .code yX0_bit cX0_bit 1 (some .long)] ++ wsX00)
def wsX0_port : List Cond := .code yX0_port cX0_port 4 (some .int) :: ([.fieldLink RX0 75 "PortRules" "portCount" "I", .fieldLink RX0 20 "PortRules" "partOf" "[I", .fieldLink RX0 23 "PortRules" "kindOf" "[I", .fieldLink RX0 26 "PortRules" "isProvided" "[Z", .fieldLink RX0 13 "PortRules" "hasInnerParts" "[Z", .methodLink RX0 63 yX0_isPart, .instanceMethod yX0_isPart, .selects RX0 yX0_isPart yX0_isPart, .initialized RX0, .code yX0_isPart cX0_isPart 2 (some .boolean), .fieldLink RX0 67 "PortRules" "partCount" "I", .methodLink RX0 78 yX0_addAtomicPort, .instanceMethod yX0_addAtomicPort, .selects RX0 yX0_addAtomicPort yX0_addAtomicPort, .code yX0_addAtomicPort cX0_addAtomicPort 2 none, .fieldLink RX0 146 "PortRules" "atomicProvided" "J", .fieldLink RX0 134 "PortRules" "atomicRequired" "J", .methodLink RX0 96 yX0_bit, .static yX0_bit, .code yX0_bit cX0_bit 1 (some .long)] ++ wsX00)
def wsX0_isPort : List Cond := .code yX0_isPort cX0_isPort 2 (some .boolean) :: ([.fieldLink RX0 75 "PortRules" "portCount" "I"] ++ wsX00)
def wsX0_isScaling : List Cond := .code yX0_isScaling cX0_isScaling 2 (some .boolean) :: ([.constantLong RX0 144 (1000)])
def wsX0_unit : List Cond := .code yX0_unit cX0_unit 7 (some .int) :: ([.fieldLink RX0 29 "PortRules" "unitOf" "[I", .fieldLink RX0 32 "PortRules" "upOf" "[J", .fieldLink RX0 36 "PortRules" "downOf" "[J", .methodLink RX0 81 yX0_isPort, .instanceMethod yX0_isPort, .selects RX0 yX0_isPort yX0_isPort, .initialized RX0, .code yX0_isPort cX0_isPort 2 (some .boolean), .fieldLink RX0 75 "PortRules" "portCount" "I", .methodLink RX0 84 yX0_isScaling, .static yX0_isScaling, .code yX0_isScaling cX0_isScaling 2 (some .boolean), .constantLong RX0 144 (1000)] ++ wsX00)
def wsX0_isWay : List Cond := .code yX0_isWay cX0_isWay 5 (some .boolean) :: ([.fieldLink RX0 20 "PortRules" "partOf" "[I", .fieldLink RX0 26 "PortRules" "isProvided" "[Z", .fieldLink RX0 9 "PortRules" "compositionOf" "[I"] ++ wsX00)
def wsX0_holds : List Cond := .code yX0_holds cX0_holds 3 (some .boolean) :: ([.methodLink RX0 96 yX0_bit, .static yX0_bit, .initialized RX0, .code yX0_bit cX0_bit 1 (some .long)])
def wsX0_spreadReach : List Cond := .code yX0_spreadReach cX0_spreadReach 6 none :: ([.fieldLink RX0 54 "PortRules" "reachedFrom" "[J", .fieldLink RX0 75 "PortRules" "portCount" "I", .methodLink RX0 96 yX0_bit, .static yX0_bit, .initialized RX0, .code yX0_bit cX0_bit 1 (some .long), .methodLink RX0 92 yX0_holds, .static yX0_holds, .code yX0_holds cX0_holds 3 (some .boolean)] ++ wsX00)
def wsX0_connect_r1 : List Cond := [Cond.fieldLink RX0 23 "PortRules" "kindOf" "[I", Cond.fieldLink RX0 51 "PortRules" "connectedTo" "[J", Cond.methodLink RX0 81 yX0_isPort, Cond.instanceMethod yX0_isPort, Cond.selects RX0 yX0_isPort yX0_isPort, Cond.initialized RX0, Cond.code yX0_isPort cX0_isPort 2 (some .boolean), Cond.fieldLink RX0 75 "PortRules" "portCount" "I", Cond.methodLink RX0 88 yX0_isWay, Cond.instanceMethod yX0_isWay, Cond.selects RX0 yX0_isWay yX0_isWay, Cond.code yX0_isWay cX0_isWay 5 (some .boolean), Cond.fieldLink RX0 20 "PortRules" "partOf" "[I", Cond.fieldLink RX0 26 "PortRules" "isProvided" "[Z", Cond.fieldLink RX0 9 "PortRules" "compositionOf" "[I", Cond.methodLink RX0 92 yX0_holds, Cond.static yX0_holds, Cond.code yX0_holds cX0_holds 3 (some .boolean), Cond.methodLink RX0 96 yX0_bit, Cond.static yX0_bit, Cond.code yX0_bit cX0_bit 1 (some .long), Cond.methodLink RX0 100 yX0_spreadReach, Cond.instanceMethod yX0_spreadReach, Cond.selects RX0 yX0_spreadReach yX0_spreadReach]
def wsX0_connect_r2 : List Cond := [Cond.code yX0_spreadReach cX0_spreadReach 6 none, Cond.fieldLink RX0 54 "PortRules" "reachedFrom" "[J"]
def wsX0_connect : List Cond := .code yX0_connect cX0_connect 3 (some .int) :: ((wsX0_connect_r1 ++ wsX0_connect_r2) ++ wsX00)
def wsX0_flatFrom : List Cond := .code yX0_flatFrom cX0_flatFrom 2 (some .long) :: ([.fieldLink RX0 146 "PortRules" "atomicProvided" "J", .fieldLink RX0 54 "PortRules" "reachedFrom" "[J", .fieldLink RX0 134 "PortRules" "atomicRequired" "J", .methodLink RX0 92 yX0_holds, .static yX0_holds, .initialized RX0, .code yX0_holds cX0_holds 3 (some .boolean), .methodLink RX0 96 yX0_bit, .static yX0_bit, .code yX0_bit cX0_bit 1 (some .long)] ++ wsX00)
def wsJ13_bitCount_95d88 : List Cond := .code yJ13_bitCount_95d88 cJ13_bitCount_95d88 2 (some .int) :: ([.constantLong RJ13 314 (6148914691236517205), .constantLong RJ13 316 (3689348814741910323), .constantLong RJ13 318 (1085102592571150095)])
def wsX0_flatten : List Cond := .code yX0_flatten cX0_flatten 3 (some .int) :: ([.fieldLink RX0 75 "PortRules" "portCount" "I", .methodLink RX0 104 yX0_flatFrom, .instanceMethod yX0_flatFrom, .selects RX0 yX0_flatFrom yX0_flatFrom, .initialized RX0, .code yX0_flatFrom cX0_flatFrom 2 (some .long), .fieldLink RX0 146 "PortRules" "atomicProvided" "J", .fieldLink RX0 54 "PortRules" "reachedFrom" "[J", .fieldLink RX0 134 "PortRules" "atomicRequired" "J", .methodLink RX0 92 yX0_holds, .static yX0_holds, .code yX0_holds cX0_holds 3 (some .boolean), .methodLink RX0 96 yX0_bit, .static yX0_bit, .code yX0_bit cX0_bit 1 (some .long), .methodLink RX0 107 yJ13_bitCount_95d88, .static yJ13_bitCount_95d88, .initialized RJ13, .code yJ13_bitCount_95d88 cJ13_bitCount_95d88 2 (some .int), .constantLong RJ13 314 (6148914691236517205), .constantLong RJ13 316 (3689348814741910323), .constantLong RJ13 318 (1085102592571150095)] ++ wsX00)
def wsX0_nthPort : List Cond := .code yX0_nthPort cX0_nthPort 6 (some .int) :: ([.fieldLink RX0 75 "PortRules" "portCount" "I", .methodLink RX0 92 yX0_holds, .static yX0_holds, .initialized RX0, .code yX0_holds cX0_holds 3 (some .boolean), .methodLink RX0 96 yX0_bit, .static yX0_bit, .code yX0_bit cX0_bit 1 (some .long)] ++ wsX00)
def wsX0_at_r1 : List Cond := [Cond.classLink RX0 117 "java/lang/IndexOutOfBoundsException", Cond.initialized "java/lang/IndexOutOfBoundsException", Cond.fieldLink RX0 75 "PortRules" "portCount" "I", Cond.methodLink RX0 104 yX0_flatFrom, Cond.instanceMethod yX0_flatFrom, Cond.selects RX0 yX0_flatFrom yX0_flatFrom, Cond.initialized RX0, Cond.code yX0_flatFrom cX0_flatFrom 2 (some .long), Cond.fieldLink RX0 146 "PortRules" "atomicProvided" "J", Cond.fieldLink RX0 54 "PortRules" "reachedFrom" "[J", Cond.fieldLink RX0 134 "PortRules" "atomicRequired" "J", Cond.methodLink RX0 92 yX0_holds, Cond.static yX0_holds, Cond.code yX0_holds cX0_holds 3 (some .boolean), Cond.methodLink RX0 96 yX0_bit, Cond.static yX0_bit, Cond.code yX0_bit cX0_bit 1 (some .long), Cond.methodLink RX0 107 yJ13_bitCount_95d88, Cond.static yJ13_bitCount_95d88, Cond.initialized RJ13, Cond.code yJ13_bitCount_95d88 cJ13_bitCount_95d88 2 (some .int), Cond.constantLong RJ13 314 (6148914691236517205), Cond.constantLong RJ13 316 (3689348814741910323), Cond.constantLong RJ13 318 (1085102592571150095)]
def wsX0_at_r2 : List Cond := [Cond.methodLink RX0 113 yX0_nthPort, Cond.instanceMethod yX0_nthPort, Cond.selects RX0 yX0_nthPort yX0_nthPort, Cond.code yX0_nthPort cX0_nthPort 6 (some .int)]
def wsX0_at : List Cond := .code yX0_at cX0_at 8 (some .int) :: ((wsX0_at_r1 ++ wsX0_at_r2) ++ wsX00 ++ (vx_atS RX0 121 "java/lang/IndexOutOfBoundsException" ["java/lang/RuntimeException", "java/lang/Exception"]).filter goodWord)
def wsX0_isPortRule : List Cond := .code yX0_isPortRule cX0_isPortRule 1 (some .boolean) :: ([])
def wsX0_flatCountTo : List Cond := .code yX0_flatCountTo cX0_flatCountTo 4 (some .int) :: ([.fieldLink RX0 75 "PortRules" "portCount" "I", .methodLink RX0 104 yX0_flatFrom, .instanceMethod yX0_flatFrom, .selects RX0 yX0_flatFrom yX0_flatFrom, .initialized RX0, .code yX0_flatFrom cX0_flatFrom 2 (some .long), .fieldLink RX0 146 "PortRules" "atomicProvided" "J", .fieldLink RX0 54 "PortRules" "reachedFrom" "[J", .fieldLink RX0 134 "PortRules" "atomicRequired" "J", .methodLink RX0 92 yX0_holds, .static yX0_holds, .code yX0_holds cX0_holds 3 (some .boolean), .methodLink RX0 96 yX0_bit, .static yX0_bit, .code yX0_bit cX0_bit 1 (some .long)] ++ wsX00)
def wsX0_portBreaks : List Cond := .code yX0_portBreaks cX0_portBreaks 4 (some .boolean) :: ([.fieldLink RX0 23 "PortRules" "kindOf" "[I", .fieldLink RX0 42 "PortRules" "hasFallback" "[Z", .fieldLink RX0 48 "PortRules" "queueOf" "[I", .methodLink RX0 152 yX0_flatCountTo, .instanceMethod yX0_flatCountTo, .selects RX0 yX0_flatCountTo yX0_flatCountTo, .initialized RX0, .code yX0_flatCountTo cX0_flatCountTo 4 (some .int), .fieldLink RX0 75 "PortRules" "portCount" "I", .methodLink RX0 104 yX0_flatFrom, .instanceMethod yX0_flatFrom, .selects RX0 yX0_flatFrom yX0_flatFrom, .code yX0_flatFrom cX0_flatFrom 2 (some .long), .fieldLink RX0 146 "PortRules" "atomicProvided" "J", .fieldLink RX0 54 "PortRules" "reachedFrom" "[J", .fieldLink RX0 134 "PortRules" "atomicRequired" "J", .methodLink RX0 92 yX0_holds, .static yX0_holds, .code yX0_holds cX0_holds 3 (some .boolean), .methodLink RX0 96 yX0_bit, .static yX0_bit, .code yX0_bit cX0_bit 1 (some .long)] ++ wsX00)
def wsX0_firstBadPort_r1 : List Cond := [Cond.fieldLink RX0 75 "PortRules" "portCount" "I", Cond.fieldLink RX0 134 "PortRules" "atomicRequired" "J", Cond.methodLink RX0 92 yX0_holds, Cond.static yX0_holds, Cond.initialized RX0, Cond.code yX0_holds cX0_holds 3 (some .boolean), Cond.methodLink RX0 96 yX0_bit, Cond.static yX0_bit, Cond.code yX0_bit cX0_bit 1 (some .long), Cond.methodLink RX0 149 yX0_portBreaks, Cond.instanceMethod yX0_portBreaks, Cond.selects RX0 yX0_portBreaks yX0_portBreaks, Cond.code yX0_portBreaks cX0_portBreaks 4 (some .boolean), Cond.fieldLink RX0 23 "PortRules" "kindOf" "[I", Cond.fieldLink RX0 42 "PortRules" "hasFallback" "[Z", Cond.fieldLink RX0 48 "PortRules" "queueOf" "[I", Cond.methodLink RX0 152 yX0_flatCountTo, Cond.instanceMethod yX0_flatCountTo, Cond.selects RX0 yX0_flatCountTo yX0_flatCountTo, Cond.code yX0_flatCountTo cX0_flatCountTo 4 (some .int), Cond.methodLink RX0 104 yX0_flatFrom, Cond.instanceMethod yX0_flatFrom, Cond.selects RX0 yX0_flatFrom yX0_flatFrom, Cond.code yX0_flatFrom cX0_flatFrom 2 (some .long)]
def wsX0_firstBadPort_r2 : List Cond := [Cond.fieldLink RX0 146 "PortRules" "atomicProvided" "J", Cond.fieldLink RX0 54 "PortRules" "reachedFrom" "[J"]
def wsX0_firstBadPort : List Cond := .code yX0_firstBadPort cX0_firstBadPort 3 (some .int) :: ((wsX0_firstBadPort_r1 ++ wsX0_firstBadPort_r2) ++ wsX00)
def wsX0_isExactScaling : List Cond := .code yX0_isExactScaling cX0_isExactScaling 5 (some .boolean) :: ([.fieldLink RX0 36 "PortRules" "downOf" "[J", .fieldLink RX0 32 "PortRules" "upOf" "[J"] ++ wsX00)
def wsX0_servesVersion : List Cond := .code yX0_servesVersion cX0_servesVersion 5 (some .boolean) :: ([.fieldLink RX0 39 "PortRules" "versionOf" "[I"] ++ wsX00)
def wsX0_managesMode : List Cond := .code yX0_managesMode cX0_managesMode 3 (some .boolean) :: ([.fieldLink RX0 17 "PortRules" "managerOf" "[I"] ++ wsX00)
def wsX0_connectorBreaks : List Cond := .code yX0_connectorBreaks cX0_connectorBreaks 4 (some .boolean) :: ([.fieldLink RX0 29 "PortRules" "unitOf" "[I", .fieldLink RX0 39 "PortRules" "versionOf" "[I", .fieldLink RX0 23 "PortRules" "kindOf" "[I", .fieldLink RX0 20 "PortRules" "partOf" "[I", .methodLink RX0 159 yX0_isExactScaling, .instanceMethod yX0_isExactScaling, .selects RX0 yX0_isExactScaling yX0_isExactScaling, .initialized RX0, .code yX0_isExactScaling cX0_isExactScaling 5 (some .boolean), .fieldLink RX0 36 "PortRules" "downOf" "[J", .fieldLink RX0 32 "PortRules" "upOf" "[J", .methodLink RX0 162 yX0_servesVersion, .instanceMethod yX0_servesVersion, .selects RX0 yX0_servesVersion yX0_servesVersion, .code yX0_servesVersion cX0_servesVersion 5 (some .boolean), .methodLink RX0 165 yX0_managesMode, .instanceMethod yX0_managesMode, .selects RX0 yX0_managesMode yX0_managesMode, .code yX0_managesMode cX0_managesMode 3 (some .boolean), .fieldLink RX0 17 "PortRules" "managerOf" "[I"] ++ wsX00)
def wsX0_firstBadConnector_r1 : List Cond := [Cond.fieldLink RX0 75 "PortRules" "portCount" "I", Cond.methodLink RX0 104 yX0_flatFrom, Cond.instanceMethod yX0_flatFrom, Cond.selects RX0 yX0_flatFrom yX0_flatFrom, Cond.initialized RX0, Cond.code yX0_flatFrom cX0_flatFrom 2 (some .long), Cond.fieldLink RX0 146 "PortRules" "atomicProvided" "J", Cond.fieldLink RX0 54 "PortRules" "reachedFrom" "[J", Cond.fieldLink RX0 134 "PortRules" "atomicRequired" "J", Cond.methodLink RX0 92 yX0_holds, Cond.static yX0_holds, Cond.code yX0_holds cX0_holds 3 (some .boolean), Cond.methodLink RX0 96 yX0_bit, Cond.static yX0_bit, Cond.code yX0_bit cX0_bit 1 (some .long), Cond.methodLink RX0 155 yX0_connectorBreaks, Cond.instanceMethod yX0_connectorBreaks, Cond.selects RX0 yX0_connectorBreaks yX0_connectorBreaks, Cond.code yX0_connectorBreaks cX0_connectorBreaks 4 (some .boolean), Cond.fieldLink RX0 29 "PortRules" "unitOf" "[I", Cond.fieldLink RX0 39 "PortRules" "versionOf" "[I", Cond.fieldLink RX0 23 "PortRules" "kindOf" "[I", Cond.fieldLink RX0 20 "PortRules" "partOf" "[I", Cond.methodLink RX0 159 yX0_isExactScaling]
def wsX0_firstBadConnector_r2 : List Cond := [Cond.instanceMethod yX0_isExactScaling, Cond.selects RX0 yX0_isExactScaling yX0_isExactScaling, Cond.code yX0_isExactScaling cX0_isExactScaling 5 (some .boolean), Cond.fieldLink RX0 36 "PortRules" "downOf" "[J", Cond.fieldLink RX0 32 "PortRules" "upOf" "[J", Cond.methodLink RX0 162 yX0_servesVersion, Cond.instanceMethod yX0_servesVersion, Cond.selects RX0 yX0_servesVersion yX0_servesVersion, Cond.code yX0_servesVersion cX0_servesVersion 5 (some .boolean), Cond.methodLink RX0 165 yX0_managesMode, Cond.instanceMethod yX0_managesMode, Cond.selects RX0 yX0_managesMode yX0_managesMode, Cond.code yX0_managesMode cX0_managesMode 3 (some .boolean), Cond.fieldLink RX0 17 "PortRules" "managerOf" "[I"]
def wsX0_firstBadConnector : List Cond := .code yX0_firstBadConnector cX0_firstBadConnector 6 (some .int) :: ((wsX0_firstBadConnector_r1 ++ wsX0_firstBadConnector_r2) ++ wsX00)
def wsX0_check_r1 : List Cond := [Cond.methodLink RX0 124 yX0_isPortRule, Cond.static yX0_isPortRule, Cond.initialized RX0, Cond.code yX0_isPortRule cX0_isPortRule 1 (some .boolean), Cond.methodLink RX0 127 yX0_firstBadPort, Cond.instanceMethod yX0_firstBadPort, Cond.selects RX0 yX0_firstBadPort yX0_firstBadPort, Cond.code yX0_firstBadPort cX0_firstBadPort 3 (some .int), Cond.fieldLink RX0 75 "PortRules" "portCount" "I", Cond.fieldLink RX0 134 "PortRules" "atomicRequired" "J", Cond.methodLink RX0 92 yX0_holds, Cond.static yX0_holds, Cond.code yX0_holds cX0_holds 3 (some .boolean), Cond.methodLink RX0 96 yX0_bit, Cond.static yX0_bit, Cond.code yX0_bit cX0_bit 1 (some .long), Cond.methodLink RX0 149 yX0_portBreaks, Cond.instanceMethod yX0_portBreaks, Cond.selects RX0 yX0_portBreaks yX0_portBreaks, Cond.code yX0_portBreaks cX0_portBreaks 4 (some .boolean), Cond.fieldLink RX0 23 "PortRules" "kindOf" "[I", Cond.fieldLink RX0 42 "PortRules" "hasFallback" "[Z", Cond.fieldLink RX0 48 "PortRules" "queueOf" "[I", Cond.methodLink RX0 152 yX0_flatCountTo]
def wsX0_check_r2 : List Cond := [Cond.instanceMethod yX0_flatCountTo, Cond.selects RX0 yX0_flatCountTo yX0_flatCountTo, Cond.code yX0_flatCountTo cX0_flatCountTo 4 (some .int), Cond.methodLink RX0 104 yX0_flatFrom, Cond.instanceMethod yX0_flatFrom, Cond.selects RX0 yX0_flatFrom yX0_flatFrom, Cond.code yX0_flatFrom cX0_flatFrom 2 (some .long), Cond.fieldLink RX0 146 "PortRules" "atomicProvided" "J", Cond.fieldLink RX0 54 "PortRules" "reachedFrom" "[J", Cond.methodLink RX0 131 yX0_firstBadConnector, Cond.instanceMethod yX0_firstBadConnector, Cond.selects RX0 yX0_firstBadConnector yX0_firstBadConnector, Cond.code yX0_firstBadConnector cX0_firstBadConnector 6 (some .int), Cond.methodLink RX0 155 yX0_connectorBreaks, Cond.instanceMethod yX0_connectorBreaks, Cond.selects RX0 yX0_connectorBreaks yX0_connectorBreaks, Cond.code yX0_connectorBreaks cX0_connectorBreaks 4 (some .boolean), Cond.fieldLink RX0 29 "PortRules" "unitOf" "[I", Cond.fieldLink RX0 39 "PortRules" "versionOf" "[I", Cond.fieldLink RX0 20 "PortRules" "partOf" "[I", Cond.methodLink RX0 159 yX0_isExactScaling, Cond.instanceMethod yX0_isExactScaling, Cond.selects RX0 yX0_isExactScaling yX0_isExactScaling, Cond.code yX0_isExactScaling cX0_isExactScaling 5 (some .boolean)]
def wsX0_check_r3 : List Cond := [Cond.fieldLink RX0 36 "PortRules" "downOf" "[J", Cond.fieldLink RX0 32 "PortRules" "upOf" "[J", Cond.methodLink RX0 162 yX0_servesVersion, Cond.instanceMethod yX0_servesVersion, Cond.selects RX0 yX0_servesVersion yX0_servesVersion, Cond.code yX0_servesVersion cX0_servesVersion 5 (some .boolean), Cond.methodLink RX0 165 yX0_managesMode, Cond.instanceMethod yX0_managesMode, Cond.selects RX0 yX0_managesMode yX0_managesMode, Cond.code yX0_managesMode cX0_managesMode 3 (some .boolean), Cond.fieldLink RX0 17 "PortRules" "managerOf" "[I"]
def wsX0_check : List Cond := .code yX0_check cX0_check 3 (some .int) :: ((wsX0_check_r1 ++ (wsX0_check_r2 ++ wsX0_check_r3)) ++ wsX00)
def wsX0_manager : List Cond := .code yX0_manager cX0_manager 3 (some .int) :: ([.fieldLink RX0 17 "PortRules" "managerOf" "[I", .methodLink RX0 63 yX0_isPart, .instanceMethod yX0_isPart, .selects RX0 yX0_isPart yX0_isPart, .initialized RX0, .code yX0_isPart cX0_isPart 2 (some .boolean), .fieldLink RX0 67 "PortRules" "partCount" "I"] ++ wsX00)
def wsX0_fallback : List Cond := .code yX0_fallback cX0_fallback 4 (some .int) :: ([.fieldLink RX0 26 "PortRules" "isProvided" "[Z", .fieldLink RX0 45 "PortRules" "fallbackOf" "[I", .fieldLink RX0 42 "PortRules" "hasFallback" "[Z", .methodLink RX0 81 yX0_isPort, .instanceMethod yX0_isPort, .selects RX0 yX0_isPort yX0_isPort, .initialized RX0, .code yX0_isPort cX0_isPort 2 (some .boolean), .fieldLink RX0 75 "PortRules" "portCount" "I"] ++ wsX00)
def wsX0_queue : List Cond := .code yX0_queue cX0_queue 3 (some .int) :: ([.fieldLink RX0 23 "PortRules" "kindOf" "[I", .fieldLink RX0 48 "PortRules" "queueOf" "[I", .methodLink RX0 81 yX0_isPort, .instanceMethod yX0_isPort, .selects RX0 yX0_isPort yX0_isPort, .initialized RX0, .code yX0_isPort cX0_isPort 2 (some .boolean), .fieldLink RX0 75 "PortRules" "portCount" "I"] ++ wsX00)
def wsX0_version : List Cond := .code yX0_version cX0_version 3 (some .int) :: ([.fieldLink RX0 39 "PortRules" "versionOf" "[I", .methodLink RX0 81 yX0_isPort, .instanceMethod yX0_isPort, .selects RX0 yX0_isPort yX0_isPort, .initialized RX0, .code yX0_isPort cX0_isPort 2 (some .boolean), .fieldLink RX0 75 "PortRules" "portCount" "I"] ++ wsX00)
def wsX0_flatSeconds : List Cond := .code yX0_flatSeconds cX0_flatSeconds 4 (some .long) :: ([.fieldLink RX0 75 "PortRules" "portCount" "I", .methodLink RX0 104 yX0_flatFrom, .instanceMethod yX0_flatFrom, .selects RX0 yX0_flatFrom yX0_flatFrom, .initialized RX0, .code yX0_flatFrom cX0_flatFrom 2 (some .long), .fieldLink RX0 146 "PortRules" "atomicProvided" "J", .fieldLink RX0 54 "PortRules" "reachedFrom" "[J", .fieldLink RX0 134 "PortRules" "atomicRequired" "J", .methodLink RX0 92 yX0_holds, .static yX0_holds, .code yX0_holds cX0_holds 3 (some .boolean), .methodLink RX0 96 yX0_bit, .static yX0_bit, .code yX0_bit cX0_bit 1 (some .long)] ++ wsX00)
def wsX0_open : List Cond := .code yX0_open cX0_open 2 (some .int) :: ([.fieldLink RX0 134 "PortRules" "atomicRequired" "J", .constantLong RX0 142 (-1), .methodLink RX0 138 yX0_flatSeconds, .instanceMethod yX0_flatSeconds, .selects RX0 yX0_flatSeconds yX0_flatSeconds, .initialized RX0, .code yX0_flatSeconds cX0_flatSeconds 4 (some .long), .fieldLink RX0 75 "PortRules" "portCount" "I", .methodLink RX0 104 yX0_flatFrom, .instanceMethod yX0_flatFrom, .selects RX0 yX0_flatFrom yX0_flatFrom, .code yX0_flatFrom cX0_flatFrom 2 (some .long), .fieldLink RX0 146 "PortRules" "atomicProvided" "J", .fieldLink RX0 54 "PortRules" "reachedFrom" "[J", .methodLink RX0 92 yX0_holds, .static yX0_holds, .code yX0_holds cX0_holds 3 (some .boolean), .methodLink RX0 96 yX0_bit, .static yX0_bit, .code yX0_bit cX0_bit 1 (some .long), .methodLink RX0 113 yX0_nthPort, .instanceMethod yX0_nthPort, .selects RX0 yX0_nthPort yX0_nthPort, .code yX0_nthPort cX0_nthPort 6 (some .int)] ++ wsX00)
def wsL_at_r1 : List Cond := [Cond.classLink RL 13 "java/lang/IndexOutOfBoundsException", Cond.methodLink RL 7 yX0_at, Cond.instanceMethod yX0_at, Cond.selects RX0 yX0_at yX0_at, Cond.initialized RX0, Cond.code yX0_at cX0_at 8 (some .int), Cond.classLink RX0 117 "java/lang/IndexOutOfBoundsException", Cond.initialized "java/lang/IndexOutOfBoundsException", Cond.fieldLink RX0 75 "PortRules" "portCount" "I", Cond.methodLink RX0 104 yX0_flatFrom, Cond.instanceMethod yX0_flatFrom, Cond.selects RX0 yX0_flatFrom yX0_flatFrom, Cond.code yX0_flatFrom cX0_flatFrom 2 (some .long), Cond.fieldLink RX0 146 "PortRules" "atomicProvided" "J", Cond.fieldLink RX0 54 "PortRules" "reachedFrom" "[J", Cond.fieldLink RX0 134 "PortRules" "atomicRequired" "J", Cond.methodLink RX0 92 yX0_holds, Cond.static yX0_holds, Cond.code yX0_holds cX0_holds 3 (some .boolean), Cond.methodLink RX0 96 yX0_bit, Cond.static yX0_bit, Cond.code yX0_bit cX0_bit 1 (some .long), Cond.methodLink RX0 107 yJ13_bitCount_95d88, Cond.static yJ13_bitCount_95d88]
def wsL_at_r2 : List Cond := [Cond.initialized RJ13, Cond.code yJ13_bitCount_95d88 cJ13_bitCount_95d88 2 (some .int), Cond.constantLong RJ13 314 (6148914691236517205), Cond.constantLong RJ13 316 (3689348814741910323), Cond.constantLong RJ13 318 (1085102592571150095), Cond.methodLink RX0 113 yX0_nthPort, Cond.instanceMethod yX0_nthPort, Cond.selects RX0 yX0_nthPort yX0_nthPort, Cond.code yX0_nthPort cX0_nthPort 6 (some .int)]
def wsL_at : List Cond := .codeWith yL_at cL_at 5 (some .int) [(0, 10, 13, 13)] :: ((wsL_at_r1 ++ wsL_at_r2) ++ wsX00 ++ (vx_atS RX0 121 "java/lang/IndexOutOfBoundsException" ["java/lang/RuntimeException", "java/lang/Exception"]).filter goodWord)
def wsL_law0_r1 : List Cond := [Cond.classLink RL 8 RX0, Cond.instantiable RX0 19, Cond.initialized RX0, Cond.arrayClass .long, Cond.methodLink RL 15 yX0_init, Cond.instanceMethod yX0_init, Cond.code yX0_init cX0_init 1 none, Cond.methodLink RX0 1 objectInit, Cond.instanceMethod objectInit, Cond.code objectInit ⟨#[0xb1]⟩ 1 none, Cond.arrayClass .int, Cond.fieldLink RX0 9 "PortRules" "compositionOf" "[I", Cond.arrayClass .boolean, Cond.fieldLink RX0 13 "PortRules" "hasInnerParts" "[Z", Cond.fieldLink RX0 17 "PortRules" "managerOf" "[I", Cond.fieldLink RX0 20 "PortRules" "partOf" "[I", Cond.fieldLink RX0 23 "PortRules" "kindOf" "[I", Cond.fieldLink RX0 26 "PortRules" "isProvided" "[Z", Cond.fieldLink RX0 29 "PortRules" "unitOf" "[I", Cond.fieldLink RX0 32 "PortRules" "upOf" "[J", Cond.fieldLink RX0 36 "PortRules" "downOf" "[J", Cond.fieldLink RX0 39 "PortRules" "versionOf" "[I", Cond.fieldLink RX0 42 "PortRules" "hasFallback" "[Z", Cond.fieldLink RX0 45 "PortRules" "fallbackOf" "[I"]
def wsL_law0_r2 : List Cond := [Cond.fieldLink RX0 48 "PortRules" "queueOf" "[I", Cond.fieldLink RX0 51 "PortRules" "connectedTo" "[J", Cond.fieldLink RX0 54 "PortRules" "reachedFrom" "[J", Cond.methodLink RX0 57 yJ7_fill_53178, Cond.static yJ7_fill_53178, Cond.initialized RJ7, Cond.code yJ7_fill_53178 cJ7_fill_53178 4 none, Cond.methodLink RL 19 yX0_part, Cond.instanceMethod yX0_part, Cond.selects RX0 yX0_part yX0_part, Cond.code yX0_part cX0_part 2 (some .int), Cond.fieldLink RX0 67 "PortRules" "partCount" "I", Cond.methodLink RX0 63 yX0_isPart, Cond.instanceMethod yX0_isPart, Cond.selects RX0 yX0_isPart yX0_isPart, Cond.code yX0_isPart cX0_isPart 2 (some .boolean), Cond.methodLink RX0 71 yX0_endAtomic, Cond.instanceMethod yX0_endAtomic, Cond.selects RX0 yX0_endAtomic yX0_endAtomic, Cond.code yX0_endAtomic cX0_endAtomic 3 none, Cond.fieldLink RX0 75 "PortRules" "portCount" "I", Cond.fieldLink RX0 146 "PortRules" "atomicProvided" "J", Cond.constantLong RX0 142 (-1), Cond.fieldLink RX0 134 "PortRules" "atomicRequired" "J"]
def wsL_law0_r3 : List Cond := [Cond.methodLink RX0 96 yX0_bit, Cond.static yX0_bit, Cond.code yX0_bit cX0_bit 1 (some .long), Cond.methodLink RL 24 yX0_port, Cond.instanceMethod yX0_port, Cond.selects RX0 yX0_port yX0_port, Cond.code yX0_port cX0_port 4 (some .int), Cond.methodLink RX0 78 yX0_addAtomicPort, Cond.instanceMethod yX0_addAtomicPort, Cond.selects RX0 yX0_addAtomicPort yX0_addAtomicPort, Cond.code yX0_addAtomicPort cX0_addAtomicPort 2 none, Cond.methodLink RL 31 yX0_unit, Cond.instanceMethod yX0_unit, Cond.selects RX0 yX0_unit yX0_unit, Cond.code yX0_unit cX0_unit 7 (some .int), Cond.methodLink RX0 81 yX0_isPort, Cond.instanceMethod yX0_isPort, Cond.selects RX0 yX0_isPort yX0_isPort, Cond.code yX0_isPort cX0_isPort 2 (some .boolean), Cond.methodLink RX0 84 yX0_isScaling, Cond.static yX0_isScaling, Cond.code yX0_isScaling cX0_isScaling 2 (some .boolean), Cond.constantLong RX0 144 (1000), Cond.methodLink RL 36 yX0_connect]
def wsL_law0_r4 : List Cond := [Cond.instanceMethod yX0_connect, Cond.selects RX0 yX0_connect yX0_connect, Cond.code yX0_connect cX0_connect 3 (some .int), Cond.methodLink RX0 88 yX0_isWay, Cond.instanceMethod yX0_isWay, Cond.selects RX0 yX0_isWay yX0_isWay, Cond.code yX0_isWay cX0_isWay 5 (some .boolean), Cond.methodLink RX0 92 yX0_holds, Cond.static yX0_holds, Cond.code yX0_holds cX0_holds 3 (some .boolean), Cond.methodLink RX0 100 yX0_spreadReach, Cond.instanceMethod yX0_spreadReach, Cond.selects RX0 yX0_spreadReach yX0_spreadReach, Cond.code yX0_spreadReach cX0_spreadReach 6 none, Cond.methodLink RL 40 yX0_flatten, Cond.instanceMethod yX0_flatten, Cond.selects RX0 yX0_flatten yX0_flatten, Cond.code yX0_flatten cX0_flatten 3 (some .int), Cond.methodLink RX0 104 yX0_flatFrom, Cond.instanceMethod yX0_flatFrom, Cond.selects RX0 yX0_flatFrom yX0_flatFrom, Cond.code yX0_flatFrom cX0_flatFrom 2 (some .long), Cond.methodLink RX0 107 yJ13_bitCount_95d88, Cond.static yJ13_bitCount_95d88]
def wsL_law0_r5 : List Cond := [Cond.initialized RJ13, Cond.code yJ13_bitCount_95d88 cJ13_bitCount_95d88 2 (some .int), Cond.constantLong RJ13 314 (6148914691236517205), Cond.constantLong RJ13 316 (3689348814741910323), Cond.constantLong RJ13 318 (1085102592571150095), Cond.methodLink RL 45 yL_at, Cond.static yL_at, Cond.initialized RL, Cond.codeWith yL_at cL_at 5 (some .int) [(0, 10, 13, 13)], Cond.classLink RL 13 "java/lang/IndexOutOfBoundsException", Cond.methodLink RL 7 yX0_at, Cond.instanceMethod yX0_at, Cond.selects RX0 yX0_at yX0_at, Cond.code yX0_at cX0_at 8 (some .int), Cond.classLink RX0 117 "java/lang/IndexOutOfBoundsException", Cond.initialized "java/lang/IndexOutOfBoundsException", Cond.methodLink RX0 113 yX0_nthPort, Cond.instanceMethod yX0_nthPort, Cond.selects RX0 yX0_nthPort yX0_nthPort, Cond.code yX0_nthPort cX0_nthPort 6 (some .int), Cond.methodLink RL 54 yX0_check, Cond.instanceMethod yX0_check, Cond.selects RX0 yX0_check yX0_check, Cond.code yX0_check cX0_check 3 (some .int)]
def wsL_law0_r6 : List Cond := [Cond.methodLink RX0 124 yX0_isPortRule, Cond.static yX0_isPortRule, Cond.code yX0_isPortRule cX0_isPortRule 1 (some .boolean), Cond.methodLink RX0 127 yX0_firstBadPort, Cond.instanceMethod yX0_firstBadPort, Cond.selects RX0 yX0_firstBadPort yX0_firstBadPort, Cond.code yX0_firstBadPort cX0_firstBadPort 3 (some .int), Cond.methodLink RX0 149 yX0_portBreaks, Cond.instanceMethod yX0_portBreaks, Cond.selects RX0 yX0_portBreaks yX0_portBreaks, Cond.code yX0_portBreaks cX0_portBreaks 4 (some .boolean), Cond.methodLink RX0 152 yX0_flatCountTo, Cond.instanceMethod yX0_flatCountTo, Cond.selects RX0 yX0_flatCountTo yX0_flatCountTo, Cond.code yX0_flatCountTo cX0_flatCountTo 4 (some .int), Cond.methodLink RX0 131 yX0_firstBadConnector, Cond.instanceMethod yX0_firstBadConnector, Cond.selects RX0 yX0_firstBadConnector yX0_firstBadConnector, Cond.code yX0_firstBadConnector cX0_firstBadConnector 6 (some .int), Cond.methodLink RX0 155 yX0_connectorBreaks, Cond.instanceMethod yX0_connectorBreaks, Cond.selects RX0 yX0_connectorBreaks yX0_connectorBreaks, Cond.code yX0_connectorBreaks cX0_connectorBreaks 4 (some .boolean), Cond.methodLink RX0 159 yX0_isExactScaling]
def wsL_law0_r7 : List Cond := [Cond.instanceMethod yX0_isExactScaling, Cond.selects RX0 yX0_isExactScaling yX0_isExactScaling, Cond.code yX0_isExactScaling cX0_isExactScaling 5 (some .boolean), Cond.methodLink RX0 162 yX0_servesVersion, Cond.instanceMethod yX0_servesVersion, Cond.selects RX0 yX0_servesVersion yX0_servesVersion, Cond.code yX0_servesVersion cX0_servesVersion 5 (some .boolean), Cond.methodLink RX0 165 yX0_managesMode, Cond.instanceMethod yX0_managesMode, Cond.selects RX0 yX0_managesMode yX0_managesMode, Cond.code yX0_managesMode cX0_managesMode 3 (some .boolean), Cond.methodLink RL 58 yX0_manager, Cond.instanceMethod yX0_manager, Cond.selects RX0 yX0_manager yX0_manager, Cond.code yX0_manager cX0_manager 3 (some .int), Cond.methodLink RL 62 yX0_fallback, Cond.instanceMethod yX0_fallback, Cond.selects RX0 yX0_fallback yX0_fallback, Cond.code yX0_fallback cX0_fallback 4 (some .int), Cond.methodLink RL 66 yX0_queue, Cond.instanceMethod yX0_queue, Cond.selects RX0 yX0_queue yX0_queue, Cond.code yX0_queue cX0_queue 3 (some .int), Cond.methodLink RL 70 yX0_version]
def wsL_law0_r8 : List Cond := [Cond.instanceMethod yX0_version, Cond.selects RX0 yX0_version yX0_version, Cond.code yX0_version cX0_version 3 (some .int), Cond.methodLink RL 74 yX0_open, Cond.instanceMethod yX0_open, Cond.selects RX0 yX0_open yX0_open, Cond.code yX0_open cX0_open 2 (some .int), Cond.methodLink RX0 138 yX0_flatSeconds, Cond.instanceMethod yX0_flatSeconds, Cond.selects RX0 yX0_flatSeconds yX0_flatSeconds, Cond.code yX0_flatSeconds cX0_flatSeconds 4 (some .long)]
def wsL_law0 : List Cond := (wsL_law0_r1 ++ (wsL_law0_r2 ++ (wsL_law0_r3 ++ (wsL_law0_r4 ++ (wsL_law0_r5 ++ (wsL_law0_r6 ++ (wsL_law0_r7 ++ wsL_law0_r8))))))) ++ wsX00 ++ ([] : List Cond)
def wsL_law : List Cond := wsL_law0 ++ (vx_atS RX0 121 "java/lang/IndexOutOfBoundsException" ["java/lang/RuntimeException", "java/lang/Exception"]).filter goodWord
set_option maxRecDepth 20000 in
theorem wsL_law_in0 : ∀ w ∈ wsL_law0, w ∈ lw_tbl := by decide +kernel
theorem wsL_law_x0 : ∀ w ∈ (vx_atS RX0 121 "java/lang/IndexOutOfBoundsException" ["java/lang/RuntimeException", "java/lang/Exception"]).filter goodWord, w ∈ lw_tbl := by decide +kernel
theorem wsL_law_in : ∀ w ∈ wsL_law, w ∈ lw_tbl := fun w h => (List.mem_append.mp h).elim (fun h => wsL_law_in0 w h) (fun h => wsL_law_x0 w h)
theorem inlX0 : ∀ w ∈ wsX00, w ∈ wsL_law := fun _ h => List.mem_append_left _ (List.mem_append_left _ (List.mem_append_right _ h))
theorem inX0 : ∀ w ∈ wsX00, w ∈ lw_tbl := fun w h => wsL_law_in w (inlX0 w h)
theorem inX1 : ∀ w ∈ wsX10, w ∈ lw_tbl := by decide +kernel
theorem inJ13 : ∀ w ∈ wsJ130, w ∈ lw_tbl := by decide +kernel
theorem inJ0 : ∀ w ∈ wsJ00, w ∈ lw_tbl := by decide +kernel
theorem inJ7 : ∀ w ∈ wsJ70, w ∈ lw_tbl := by decide +kernel
set_option maxRecDepth 20000 in
theorem ggX0_init_J7_fill_53178 : GoodIn wsX0_init wsJ7_fill_53178 := goodIn_r _ [25] (by decide +kernel) (by decide +kernel)
set_option maxRecDepth 20000 in
theorem gX0_init_J7_fill_53178 : GoodIn wsX0_init (va_wsS RX0 57 yJ7_fill_53178 wsJ7_fill_53178) := goodIn_app (goodIn_of _ (by decide +kernel)) ggX0_init_J7_fill_53178
theorem dX0_init_0 : decode cX0_init 0 = .ok (.aload_n 0, 1) := by decide +kernel
theorem dX0_init_1 : decode cX0_init 1 = .ok (.invokespecial 1, 3) := by decide +kernel
theorem dX0_init_4 : decode cX0_init 4 = .ok (.aload_n 0, 1) := by decide +kernel
theorem dX0_init_5 : decode cX0_init 5 = .ok (.bipush 31, 2) := by decide +kernel
theorem dX0_init_7 : decode cX0_init 7 = .ok (.newarray .int, 2) := by decide +kernel
theorem dX0_init_9 : decode cX0_init 9 = .ok (.putfield 9, 3) := by decide +kernel
theorem dX0_init_12 : decode cX0_init 12 = .ok (.aload_n 0, 1) := by decide +kernel
theorem dX0_init_13 : decode cX0_init 13 = .ok (.bipush 31, 2) := by decide +kernel
theorem dX0_init_15 : decode cX0_init 15 = .ok (.newarray .boolean, 2) := by decide +kernel
theorem dX0_init_17 : decode cX0_init 17 = .ok (.putfield 13, 3) := by decide +kernel
theorem dX0_init_20 : decode cX0_init 20 = .ok (.aload_n 0, 1) := by decide +kernel
theorem dX0_init_21 : decode cX0_init 21 = .ok (.bipush 10, 2) := by decide +kernel
theorem dX0_init_23 : decode cX0_init 23 = .ok (.newarray .int, 2) := by decide +kernel
theorem dX0_init_25 : decode cX0_init 25 = .ok (.putfield 17, 3) := by decide +kernel
theorem dX0_init_28 : decode cX0_init 28 = .ok (.aload_n 0, 1) := by decide +kernel
theorem dX0_init_29 : decode cX0_init 29 = .ok (.bipush 61, 2) := by decide +kernel
theorem dX0_init_31 : decode cX0_init 31 = .ok (.newarray .int, 2) := by decide +kernel
theorem dX0_init_33 : decode cX0_init 33 = .ok (.putfield 20, 3) := by decide +kernel
theorem dX0_init_36 : decode cX0_init 36 = .ok (.aload_n 0, 1) := by decide +kernel
theorem dX0_init_37 : decode cX0_init 37 = .ok (.bipush 61, 2) := by decide +kernel
theorem dX0_init_39 : decode cX0_init 39 = .ok (.newarray .int, 2) := by decide +kernel
theorem dX0_init_41 : decode cX0_init 41 = .ok (.putfield 23, 3) := by decide +kernel
theorem dX0_init_44 : decode cX0_init 44 = .ok (.aload_n 0, 1) := by decide +kernel
theorem dX0_init_45 : decode cX0_init 45 = .ok (.bipush 61, 2) := by decide +kernel
theorem dX0_init_47 : decode cX0_init 47 = .ok (.newarray .boolean, 2) := by decide +kernel
theorem dX0_init_49 : decode cX0_init 49 = .ok (.putfield 26, 3) := by decide +kernel
theorem dX0_init_52 : decode cX0_init 52 = .ok (.aload_n 0, 1) := by decide +kernel
theorem dX0_init_53 : decode cX0_init 53 = .ok (.bipush 61, 2) := by decide +kernel
theorem dX0_init_55 : decode cX0_init 55 = .ok (.newarray .int, 2) := by decide +kernel
theorem dX0_init_57 : decode cX0_init 57 = .ok (.putfield 29, 3) := by decide +kernel
theorem dX0_init_60 : decode cX0_init 60 = .ok (.aload_n 0, 1) := by decide +kernel
theorem dX0_init_61 : decode cX0_init 61 = .ok (.bipush 61, 2) := by decide +kernel
theorem dX0_init_63 : decode cX0_init 63 = .ok (.newarray .long, 2) := by decide +kernel
theorem dX0_init_65 : decode cX0_init 65 = .ok (.putfield 32, 3) := by decide +kernel
theorem dX0_init_68 : decode cX0_init 68 = .ok (.aload_n 0, 1) := by decide +kernel
theorem dX0_init_69 : decode cX0_init 69 = .ok (.bipush 61, 2) := by decide +kernel
theorem dX0_init_71 : decode cX0_init 71 = .ok (.newarray .long, 2) := by decide +kernel
theorem dX0_init_73 : decode cX0_init 73 = .ok (.putfield 36, 3) := by decide +kernel
theorem dX0_init_76 : decode cX0_init 76 = .ok (.aload_n 0, 1) := by decide +kernel
theorem dX0_init_77 : decode cX0_init 77 = .ok (.bipush 61, 2) := by decide +kernel
theorem dX0_init_79 : decode cX0_init 79 = .ok (.newarray .int, 2) := by decide +kernel
theorem dX0_init_81 : decode cX0_init 81 = .ok (.putfield 39, 3) := by decide +kernel
theorem dX0_init_84 : decode cX0_init 84 = .ok (.aload_n 0, 1) := by decide +kernel
theorem dX0_init_85 : decode cX0_init 85 = .ok (.bipush 61, 2) := by decide +kernel
theorem dX0_init_87 : decode cX0_init 87 = .ok (.newarray .boolean, 2) := by decide +kernel
theorem dX0_init_89 : decode cX0_init 89 = .ok (.putfield 42, 3) := by decide +kernel
theorem dX0_init_92 : decode cX0_init 92 = .ok (.aload_n 0, 1) := by decide +kernel
theorem dX0_init_93 : decode cX0_init 93 = .ok (.bipush 61, 2) := by decide +kernel
theorem dX0_init_95 : decode cX0_init 95 = .ok (.newarray .int, 2) := by decide +kernel
theorem dX0_init_97 : decode cX0_init 97 = .ok (.putfield 45, 3) := by decide +kernel
theorem dX0_init_100 : decode cX0_init 100 = .ok (.aload_n 0, 1) := by decide +kernel
theorem dX0_init_101 : decode cX0_init 101 = .ok (.bipush 61, 2) := by decide +kernel
theorem dX0_init_103 : decode cX0_init 103 = .ok (.newarray .int, 2) := by decide +kernel
theorem dX0_init_105 : decode cX0_init 105 = .ok (.putfield 48, 3) := by decide +kernel
theorem dX0_init_108 : decode cX0_init 108 = .ok (.aload_n 0, 1) := by decide +kernel
theorem dX0_init_109 : decode cX0_init 109 = .ok (.bipush 61, 2) := by decide +kernel
theorem dX0_init_111 : decode cX0_init 111 = .ok (.newarray .long, 2) := by decide +kernel
theorem dX0_init_113 : decode cX0_init 113 = .ok (.putfield 51, 3) := by decide +kernel
theorem dX0_init_116 : decode cX0_init 116 = .ok (.aload_n 0, 1) := by decide +kernel
theorem dX0_init_117 : decode cX0_init 117 = .ok (.bipush 61, 2) := by decide +kernel
theorem dX0_init_119 : decode cX0_init 119 = .ok (.newarray .long, 2) := by decide +kernel
theorem dX0_init_121 : decode cX0_init 121 = .ok (.putfield 54, 3) := by decide +kernel
theorem dX0_init_124 : decode cX0_init 124 = .ok (.aload_n 0, 1) := by decide +kernel
theorem dX0_init_125 : decode cX0_init 125 = .ok (.getfield 29, 3) := by decide +kernel
theorem dX0_init_128 : decode cX0_init 128 = .ok (.iconst (-1), 1) := by decide +kernel
theorem dX0_init_129 : decode cX0_init 129 = .ok (.invokestatic 57, 3) := by decide +kernel
theorem dX0_init_132 : decode cX0_init 132 = .ok (.aload_n 0, 1) := by decide +kernel
theorem dX0_init_133 : decode cX0_init 133 = .ok (.getfield 39, 3) := by decide +kernel
theorem dX0_init_136 : decode cX0_init 136 = .ok (.iconst (-1), 1) := by decide +kernel
theorem dX0_init_137 : decode cX0_init 137 = .ok (.invokestatic 57, 3) := by decide +kernel
theorem dX0_init_140 : decode cX0_init 140 = .ok (.return_, 1) := by decide +kernel
set_option maxRecDepth 20000 in
theorem ggX0_part_X0_isPart : GoodIn wsX0_part wsX0_isPart := goodIn_r _ [7, 1, 21, 22, 23, 24, 25, 26, 27, 28, 29, 30, 31, 32, 33, 34, 35, 36, 37, 38, 39] (by decide +kernel) (by decide +kernel)
set_option maxRecDepth 20000 in
theorem gX0_part_X0_isPart : GoodIn wsX0_part (wsV RX0 63 RX0 yX0_isPart wsX0_isPart) := goodIn_app (goodIn_of _ (by decide +kernel)) ggX0_part_X0_isPart
set_option maxRecDepth 20000 in
theorem ggX0_part_X0_endAtomic : GoodIn wsX0_part wsX0_endAtomic := goodIn_r _ [11, 12, 13, 14, 15, 16, 17, 18, 19, 6, 20, 21, 22, 23, 24, 25, 26, 27, 28, 29, 30, 31, 32, 33, 34, 35, 36, 37, 38, 39] (by decide +kernel) (by decide +kernel)
set_option maxRecDepth 20000 in
theorem gX0_part_X0_endAtomic : GoodIn wsX0_part (wsV RX0 71 RX0 yX0_endAtomic wsX0_endAtomic) := goodIn_app (goodIn_of _ (by decide +kernel)) ggX0_part_X0_endAtomic
theorem dX0_part_0 : decode cX0_part 0 = .ok (.iload_n 1, 1) := by decide +kernel
theorem dX0_part_1 : decode cX0_part 1 = .ok (.ifCond .eq 13, 3) := by decide +kernel
theorem dX0_part_4 : decode cX0_part 4 = .ok (.aload_n 0, 1) := by decide +kernel
theorem dX0_part_5 : decode cX0_part 5 = .ok (.iload_n 1, 1) := by decide +kernel
theorem dX0_part_6 : decode cX0_part 6 = .ok (.invokevirtual 63, 3) := by decide +kernel
theorem dX0_part_9 : decode cX0_part 9 = .ok (.ifCond .ne 5, 3) := by decide +kernel
theorem dX0_part_12 : decode cX0_part 12 = .ok (.iconst (-1), 1) := by decide +kernel
theorem dX0_part_13 : decode cX0_part 13 = .ok (.ireturn, 1) := by decide +kernel
theorem dX0_part_14 : decode cX0_part 14 = .ok (.aload_n 0, 1) := by decide +kernel
theorem dX0_part_15 : decode cX0_part 15 = .ok (.getfield 67, 3) := by decide +kernel
theorem dX0_part_18 : decode cX0_part 18 = .ok (.bipush 30, 2) := by decide +kernel
theorem dX0_part_20 : decode cX0_part 20 = .ok (.if_icmp .lt 6, 3) := by decide +kernel
theorem dX0_part_23 : decode cX0_part 23 = .ok (.bipush (-4), 2) := by decide +kernel
theorem dX0_part_25 : decode cX0_part 25 = .ok (.ireturn, 1) := by decide +kernel
theorem dX0_part_26 : decode cX0_part 26 = .ok (.aload_n 0, 1) := by decide +kernel
theorem dX0_part_27 : decode cX0_part 27 = .ok (.dup, 1) := by decide +kernel
theorem dX0_part_28 : decode cX0_part 28 = .ok (.getfield 67, 3) := by decide +kernel
theorem dX0_part_31 : decode cX0_part 31 = .ok (.iconst 1, 1) := by decide +kernel
theorem dX0_part_32 : decode cX0_part 32 = .ok (.iadd, 1) := by decide +kernel
theorem dX0_part_33 : decode cX0_part 33 = .ok (.putfield 67, 3) := by decide +kernel
theorem dX0_part_36 : decode cX0_part 36 = .ok (.aload_n 0, 1) := by decide +kernel
theorem dX0_part_37 : decode cX0_part 37 = .ok (.getfield 9, 3) := by decide +kernel
theorem dX0_part_40 : decode cX0_part 40 = .ok (.aload_n 0, 1) := by decide +kernel
theorem dX0_part_41 : decode cX0_part 41 = .ok (.getfield 67, 3) := by decide +kernel
theorem dX0_part_44 : decode cX0_part 44 = .ok (.iload_n 1, 1) := by decide +kernel
theorem dX0_part_45 : decode cX0_part 45 = .ok (.iastore, 1) := by decide +kernel
theorem dX0_part_46 : decode cX0_part 46 = .ok (.iload_n 1, 1) := by decide +kernel
theorem dX0_part_47 : decode cX0_part 47 = .ok (.ifCond .eq 8, 3) := by decide +kernel
theorem dX0_part_50 : decode cX0_part 50 = .ok (.aload_n 0, 1) := by decide +kernel
theorem dX0_part_51 : decode cX0_part 51 = .ok (.iload_n 1, 1) := by decide +kernel
theorem dX0_part_52 : decode cX0_part 52 = .ok (.invokevirtual 71, 3) := by decide +kernel
theorem dX0_part_55 : decode cX0_part 55 = .ok (.aload_n 0, 1) := by decide +kernel
theorem dX0_part_56 : decode cX0_part 56 = .ok (.getfield 67, 3) := by decide +kernel
theorem dX0_part_59 : decode cX0_part 59 = .ok (.ireturn, 1) := by decide +kernel
set_option maxRecDepth 20000 in
theorem ggX0_port_X0_isPart : GoodIn wsX0_port wsX0_isPart := goodIn_r _ [10, 11, 21, 22, 23, 24, 25, 26, 27, 28, 29, 30, 31, 32, 33, 34, 35, 36, 37, 38, 39] (by decide +kernel) (by decide +kernel)
set_option maxRecDepth 20000 in
theorem gX0_port_X0_isPart : GoodIn wsX0_port (wsV RX0 63 RX0 yX0_isPart wsX0_isPart) := goodIn_app (goodIn_of _ (by decide +kernel)) ggX0_port_X0_isPart
set_option maxRecDepth 20000 in
theorem ggX0_port_X0_addAtomicPort : GoodIn wsX0_port wsX0_addAtomicPort := goodIn_r _ [15, 4, 16, 17, 18, 19, 9, 20, 21, 22, 23, 24, 25, 26, 27, 28, 29, 30, 31, 32, 33, 34, 35, 36, 37, 38, 39] (by decide +kernel) (by decide +kernel)
set_option maxRecDepth 20000 in
theorem gX0_port_X0_addAtomicPort : GoodIn wsX0_port (wsV RX0 78 RX0 yX0_addAtomicPort wsX0_addAtomicPort) := goodIn_app (goodIn_of _ (by decide +kernel)) ggX0_port_X0_addAtomicPort
theorem dX0_port_0 : decode cX0_port 0 = .ok (.aload_n 0, 1) := by decide +kernel
theorem dX0_port_1 : decode cX0_port 1 = .ok (.iload_n 1, 1) := by decide +kernel
theorem dX0_port_2 : decode cX0_port 2 = .ok (.invokevirtual 63, 3) := by decide +kernel
theorem dX0_port_5 : decode cX0_port 5 = .ok (.ifCond .ne 5, 3) := by decide +kernel
theorem dX0_port_8 : decode cX0_port 8 = .ok (.iconst (-1), 1) := by decide +kernel
theorem dX0_port_9 : decode cX0_port 9 = .ok (.ireturn, 1) := by decide +kernel
theorem dX0_port_10 : decode cX0_port 10 = .ok (.iload_n 2, 1) := by decide +kernel
theorem dX0_port_11 : decode cX0_port 11 = .ok (.ifCond .lt 8, 3) := by decide +kernel
theorem dX0_port_14 : decode cX0_port 14 = .ok (.iload_n 2, 1) := by decide +kernel
theorem dX0_port_15 : decode cX0_port 15 = .ok (.iconst 3, 1) := by decide +kernel
theorem dX0_port_16 : decode cX0_port 16 = .ok (.if_icmp .le 6, 3) := by decide +kernel
theorem dX0_port_19 : decode cX0_port 19 = .ok (.bipush (-2), 2) := by decide +kernel
theorem dX0_port_21 : decode cX0_port 21 = .ok (.ireturn, 1) := by decide +kernel
theorem dX0_port_22 : decode cX0_port 22 = .ok (.aload_n 0, 1) := by decide +kernel
theorem dX0_port_23 : decode cX0_port 23 = .ok (.getfield 75, 3) := by decide +kernel
theorem dX0_port_26 : decode cX0_port 26 = .ok (.bipush 60, 2) := by decide +kernel
theorem dX0_port_28 : decode cX0_port 28 = .ok (.if_icmp .lt 6, 3) := by decide +kernel
theorem dX0_port_31 : decode cX0_port 31 = .ok (.bipush (-4), 2) := by decide +kernel
theorem dX0_port_33 : decode cX0_port 33 = .ok (.ireturn, 1) := by decide +kernel
theorem dX0_port_34 : decode cX0_port 34 = .ok (.aload_n 0, 1) := by decide +kernel
theorem dX0_port_35 : decode cX0_port 35 = .ok (.dup, 1) := by decide +kernel
theorem dX0_port_36 : decode cX0_port 36 = .ok (.getfield 75, 3) := by decide +kernel
theorem dX0_port_39 : decode cX0_port 39 = .ok (.iconst 1, 1) := by decide +kernel
theorem dX0_port_40 : decode cX0_port 40 = .ok (.iadd, 1) := by decide +kernel
theorem dX0_port_41 : decode cX0_port 41 = .ok (.putfield 75, 3) := by decide +kernel
theorem dX0_port_44 : decode cX0_port 44 = .ok (.aload_n 0, 1) := by decide +kernel
theorem dX0_port_45 : decode cX0_port 45 = .ok (.getfield 20, 3) := by decide +kernel
theorem dX0_port_48 : decode cX0_port 48 = .ok (.aload_n 0, 1) := by decide +kernel
theorem dX0_port_49 : decode cX0_port 49 = .ok (.getfield 75, 3) := by decide +kernel
theorem dX0_port_52 : decode cX0_port 52 = .ok (.iload_n 1, 1) := by decide +kernel
theorem dX0_port_53 : decode cX0_port 53 = .ok (.iastore, 1) := by decide +kernel
theorem dX0_port_54 : decode cX0_port 54 = .ok (.aload_n 0, 1) := by decide +kernel
theorem dX0_port_55 : decode cX0_port 55 = .ok (.getfield 23, 3) := by decide +kernel
theorem dX0_port_58 : decode cX0_port 58 = .ok (.aload_n 0, 1) := by decide +kernel
theorem dX0_port_59 : decode cX0_port 59 = .ok (.getfield 75, 3) := by decide +kernel
theorem dX0_port_62 : decode cX0_port 62 = .ok (.iload_n 2, 1) := by decide +kernel
theorem dX0_port_63 : decode cX0_port 63 = .ok (.iastore, 1) := by decide +kernel
theorem dX0_port_64 : decode cX0_port 64 = .ok (.aload_n 0, 1) := by decide +kernel
theorem dX0_port_65 : decode cX0_port 65 = .ok (.getfield 26, 3) := by decide +kernel
theorem dX0_port_68 : decode cX0_port 68 = .ok (.aload_n 0, 1) := by decide +kernel
theorem dX0_port_69 : decode cX0_port 69 = .ok (.getfield 75, 3) := by decide +kernel
theorem dX0_port_72 : decode cX0_port 72 = .ok (.iload_n 3, 1) := by decide +kernel
theorem dX0_port_73 : decode cX0_port 73 = .ok (.bastore, 1) := by decide +kernel
theorem dX0_port_74 : decode cX0_port 74 = .ok (.aload_n 0, 1) := by decide +kernel
theorem dX0_port_75 : decode cX0_port 75 = .ok (.getfield 13, 3) := by decide +kernel
theorem dX0_port_78 : decode cX0_port 78 = .ok (.iload_n 1, 1) := by decide +kernel
theorem dX0_port_79 : decode cX0_port 79 = .ok (.baload, 1) := by decide +kernel
theorem dX0_port_80 : decode cX0_port 80 = .ok (.ifCond .ne 11, 3) := by decide +kernel
theorem dX0_port_83 : decode cX0_port 83 = .ok (.aload_n 0, 1) := by decide +kernel
theorem dX0_port_84 : decode cX0_port 84 = .ok (.aload_n 0, 1) := by decide +kernel
theorem dX0_port_85 : decode cX0_port 85 = .ok (.getfield 75, 3) := by decide +kernel
theorem dX0_port_88 : decode cX0_port 88 = .ok (.invokevirtual 78, 3) := by decide +kernel
theorem dX0_port_91 : decode cX0_port 91 = .ok (.aload_n 0, 1) := by decide +kernel
theorem dX0_port_92 : decode cX0_port 92 = .ok (.getfield 75, 3) := by decide +kernel
theorem dX0_port_95 : decode cX0_port 95 = .ok (.ireturn, 1) := by decide +kernel
set_option maxRecDepth 20000 in
theorem ggX0_unit_X0_isPort : GoodIn wsX0_unit wsX0_isPort := goodIn_r _ [8, 9, 14, 15, 16, 17, 18, 19, 20, 21, 22, 23, 24, 25, 26, 27, 28, 29, 30, 31, 32] (by decide +kernel) (by decide +kernel)
set_option maxRecDepth 20000 in
theorem gX0_unit_X0_isPort : GoodIn wsX0_unit (wsV RX0 81 RX0 yX0_isPort wsX0_isPort) := goodIn_app (goodIn_of _ (by decide +kernel)) ggX0_unit_X0_isPort
set_option maxRecDepth 20000 in
theorem ggX0_unit_X0_isScaling : GoodIn wsX0_unit wsX0_isScaling := goodIn_r _ [12, 13] (by decide +kernel) (by decide +kernel)
set_option maxRecDepth 20000 in
theorem gX0_unit_X0_isScaling : GoodIn wsX0_unit (va_wsS RX0 84 yX0_isScaling wsX0_isScaling) := goodIn_app (goodIn_of _ (by decide +kernel)) ggX0_unit_X0_isScaling
theorem dX0_unit_0 : decode cX0_unit 0 = .ok (.aload_n 0, 1) := by decide +kernel
theorem dX0_unit_1 : decode cX0_unit 1 = .ok (.iload_n 1, 1) := by decide +kernel
theorem dX0_unit_2 : decode cX0_unit 2 = .ok (.invokevirtual 81, 3) := by decide +kernel
theorem dX0_unit_5 : decode cX0_unit 5 = .ok (.ifCond .ne 5, 3) := by decide +kernel
theorem dX0_unit_8 : decode cX0_unit 8 = .ok (.iconst (-1), 1) := by decide +kernel
theorem dX0_unit_9 : decode cX0_unit 9 = .ok (.ireturn, 1) := by decide +kernel
theorem dX0_unit_10 : decode cX0_unit 10 = .ok (.iload_n 2, 1) := by decide +kernel
theorem dX0_unit_11 : decode cX0_unit 11 = .ok (.ifCond .lt 24, 3) := by decide +kernel
theorem dX0_unit_14 : decode cX0_unit 14 = .ok (.iload_n 2, 1) := by decide +kernel
theorem dX0_unit_15 : decode cX0_unit 15 = .ok (.bipush 20, 2) := by decide +kernel
theorem dX0_unit_17 : decode cX0_unit 17 = .ok (.if_icmp .gt 18, 3) := by decide +kernel
theorem dX0_unit_20 : decode cX0_unit 20 = .ok (.lload_n 3, 1) := by decide +kernel
theorem dX0_unit_21 : decode cX0_unit 21 = .ok (.invokestatic 84, 3) := by decide +kernel
theorem dX0_unit_24 : decode cX0_unit 24 = .ok (.ifCond .eq 11, 3) := by decide +kernel
theorem dX0_unit_27 : decode cX0_unit 27 = .ok (.lload 5, 2) := by decide +kernel
theorem dX0_unit_29 : decode cX0_unit 29 = .ok (.invokestatic 84, 3) := by decide +kernel
theorem dX0_unit_32 : decode cX0_unit 32 = .ok (.ifCond .ne 6, 3) := by decide +kernel
theorem dX0_unit_35 : decode cX0_unit 35 = .ok (.bipush (-2), 2) := by decide +kernel
theorem dX0_unit_37 : decode cX0_unit 37 = .ok (.ireturn, 1) := by decide +kernel
theorem dX0_unit_38 : decode cX0_unit 38 = .ok (.aload_n 0, 1) := by decide +kernel
theorem dX0_unit_39 : decode cX0_unit 39 = .ok (.getfield 29, 3) := by decide +kernel
theorem dX0_unit_42 : decode cX0_unit 42 = .ok (.iload_n 1, 1) := by decide +kernel
theorem dX0_unit_43 : decode cX0_unit 43 = .ok (.iload_n 2, 1) := by decide +kernel
theorem dX0_unit_44 : decode cX0_unit 44 = .ok (.iastore, 1) := by decide +kernel
theorem dX0_unit_45 : decode cX0_unit 45 = .ok (.aload_n 0, 1) := by decide +kernel
theorem dX0_unit_46 : decode cX0_unit 46 = .ok (.getfield 32, 3) := by decide +kernel
theorem dX0_unit_49 : decode cX0_unit 49 = .ok (.iload_n 1, 1) := by decide +kernel
theorem dX0_unit_50 : decode cX0_unit 50 = .ok (.lload_n 3, 1) := by decide +kernel
theorem dX0_unit_51 : decode cX0_unit 51 = .ok (.lastore, 1) := by decide +kernel
theorem dX0_unit_52 : decode cX0_unit 52 = .ok (.aload_n 0, 1) := by decide +kernel
theorem dX0_unit_53 : decode cX0_unit 53 = .ok (.getfield 36, 3) := by decide +kernel
theorem dX0_unit_56 : decode cX0_unit 56 = .ok (.iload_n 1, 1) := by decide +kernel
theorem dX0_unit_57 : decode cX0_unit 57 = .ok (.lload 5, 2) := by decide +kernel
theorem dX0_unit_59 : decode cX0_unit 59 = .ok (.lastore, 1) := by decide +kernel
theorem dX0_unit_60 : decode cX0_unit 60 = .ok (.iconst 1, 1) := by decide +kernel
theorem dX0_unit_61 : decode cX0_unit 61 = .ok (.ireturn, 1) := by decide +kernel
set_option maxRecDepth 20000 in
theorem ggX0_connect_X0_isPort : GoodIn wsX0_connect wsX0_isPort := goodIn_r _ [7, 8, 27, 28, 29, 30, 31, 32, 33, 34, 35, 36, 37, 38, 39, 40, 41, 42, 43, 44, 45] (by decide +kernel) (by decide +kernel)
set_option maxRecDepth 20000 in
theorem gX0_connect_X0_isPort : GoodIn wsX0_connect (wsV RX0 81 RX0 yX0_isPort wsX0_isPort) := goodIn_app (goodIn_of _ (by decide +kernel)) ggX0_connect_X0_isPort
set_option maxRecDepth 20000 in
theorem ggX0_connect_X0_isWay : GoodIn wsX0_connect wsX0_isWay := goodIn_r _ [12, 13, 14, 15, 27, 28, 29, 30, 31, 32, 33, 34, 35, 36, 37, 38, 39, 40, 41, 42, 43, 44, 45] (by decide +kernel) (by decide +kernel)
set_option maxRecDepth 20000 in
theorem gX0_connect_X0_isWay : GoodIn wsX0_connect (wsV RX0 88 RX0 yX0_isWay wsX0_isWay) := goodIn_app (goodIn_of _ (by decide +kernel)) ggX0_connect_X0_isWay
set_option maxRecDepth 20000 in
theorem ggX0_connect_X0_holds : GoodIn wsX0_connect wsX0_holds := goodIn_r _ [18, 19, 20, 6, 21] (by decide +kernel) (by decide +kernel)
set_option maxRecDepth 20000 in
theorem gX0_connect_X0_holds : GoodIn wsX0_connect (va_wsS RX0 92 yX0_holds wsX0_holds) := goodIn_app (goodIn_of _ (by decide +kernel)) ggX0_connect_X0_holds
set_option maxRecDepth 20000 in
theorem ggX0_connect_X0_bit : GoodIn wsX0_connect wsX0_bit := goodIn_r _ [21] (by decide +kernel) (by decide +kernel)
set_option maxRecDepth 20000 in
theorem gX0_connect_X0_bit : GoodIn wsX0_connect (va_wsS RX0 96 yX0_bit wsX0_bit) := goodIn_app (goodIn_of _ (by decide +kernel)) ggX0_connect_X0_bit
set_option maxRecDepth 20000 in
theorem ggX0_connect_X0_spreadReach : GoodIn wsX0_connect wsX0_spreadReach := goodIn_r _ [25, 26, 8, 19, 20, 6, 21, 16, 17, 18, 27, 28, 29, 30, 31, 32, 33, 34, 35, 36, 37, 38, 39, 40, 41, 42, 43, 44, 45] (by decide +kernel) (by decide +kernel)
set_option maxRecDepth 20000 in
theorem gX0_connect_X0_spreadReach : GoodIn wsX0_connect (wsV RX0 100 RX0 yX0_spreadReach wsX0_spreadReach) := goodIn_app (goodIn_of _ (by decide +kernel)) ggX0_connect_X0_spreadReach
theorem dX0_connect_0 : decode cX0_connect 0 = .ok (.aload_n 0, 1) := by decide +kernel
theorem dX0_connect_1 : decode cX0_connect 1 = .ok (.iload_n 1, 1) := by decide +kernel
theorem dX0_connect_2 : decode cX0_connect 2 = .ok (.invokevirtual 81, 3) := by decide +kernel
theorem dX0_connect_5 : decode cX0_connect 5 = .ok (.ifCond .eq 11, 3) := by decide +kernel
theorem dX0_connect_8 : decode cX0_connect 8 = .ok (.aload_n 0, 1) := by decide +kernel
theorem dX0_connect_9 : decode cX0_connect 9 = .ok (.iload_n 2, 1) := by decide +kernel
theorem dX0_connect_10 : decode cX0_connect 10 = .ok (.invokevirtual 81, 3) := by decide +kernel
theorem dX0_connect_13 : decode cX0_connect 13 = .ok (.ifCond .ne 5, 3) := by decide +kernel
theorem dX0_connect_16 : decode cX0_connect 16 = .ok (.iconst (-1), 1) := by decide +kernel
theorem dX0_connect_17 : decode cX0_connect 17 = .ok (.ireturn, 1) := by decide +kernel
theorem dX0_connect_18 : decode cX0_connect 18 = .ok (.aload_n 0, 1) := by decide +kernel
theorem dX0_connect_19 : decode cX0_connect 19 = .ok (.getfield 23, 3) := by decide +kernel
theorem dX0_connect_22 : decode cX0_connect 22 = .ok (.iload_n 1, 1) := by decide +kernel
theorem dX0_connect_23 : decode cX0_connect 23 = .ok (.iaload, 1) := by decide +kernel
theorem dX0_connect_24 : decode cX0_connect 24 = .ok (.aload_n 0, 1) := by decide +kernel
theorem dX0_connect_25 : decode cX0_connect 25 = .ok (.getfield 23, 3) := by decide +kernel
theorem dX0_connect_28 : decode cX0_connect 28 = .ok (.iload_n 2, 1) := by decide +kernel
theorem dX0_connect_29 : decode cX0_connect 29 = .ok (.iaload, 1) := by decide +kernel
theorem dX0_connect_30 : decode cX0_connect 30 = .ok (.if_icmp .ne 12, 3) := by decide +kernel
theorem dX0_connect_33 : decode cX0_connect 33 = .ok (.aload_n 0, 1) := by decide +kernel
theorem dX0_connect_34 : decode cX0_connect 34 = .ok (.iload_n 1, 1) := by decide +kernel
theorem dX0_connect_35 : decode cX0_connect 35 = .ok (.iload_n 2, 1) := by decide +kernel
theorem dX0_connect_36 : decode cX0_connect 36 = .ok (.invokevirtual 88, 3) := by decide +kernel
theorem dX0_connect_39 : decode cX0_connect 39 = .ok (.ifCond .ne 6, 3) := by decide +kernel
theorem dX0_connect_42 : decode cX0_connect 42 = .ok (.bipush (-2), 2) := by decide +kernel
theorem dX0_connect_44 : decode cX0_connect 44 = .ok (.ireturn, 1) := by decide +kernel
theorem dX0_connect_45 : decode cX0_connect 45 = .ok (.aload_n 0, 1) := by decide +kernel
theorem dX0_connect_46 : decode cX0_connect 46 = .ok (.getfield 51, 3) := by decide +kernel
theorem dX0_connect_49 : decode cX0_connect 49 = .ok (.iload_n 1, 1) := by decide +kernel
theorem dX0_connect_50 : decode cX0_connect 50 = .ok (.laload, 1) := by decide +kernel
theorem dX0_connect_51 : decode cX0_connect 51 = .ok (.iload_n 2, 1) := by decide +kernel
theorem dX0_connect_52 : decode cX0_connect 52 = .ok (.invokestatic 92, 3) := by decide +kernel
theorem dX0_connect_55 : decode cX0_connect 55 = .ok (.ifCond .eq 5, 3) := by decide +kernel
theorem dX0_connect_58 : decode cX0_connect 58 = .ok (.iconst 0, 1) := by decide +kernel
theorem dX0_connect_59 : decode cX0_connect 59 = .ok (.ireturn, 1) := by decide +kernel
theorem dX0_connect_60 : decode cX0_connect 60 = .ok (.aload_n 0, 1) := by decide +kernel
theorem dX0_connect_61 : decode cX0_connect 61 = .ok (.getfield 51, 3) := by decide +kernel
theorem dX0_connect_64 : decode cX0_connect 64 = .ok (.iload_n 1, 1) := by decide +kernel
theorem dX0_connect_65 : decode cX0_connect 65 = .ok (.dup2, 1) := by decide +kernel
theorem dX0_connect_66 : decode cX0_connect 66 = .ok (.laload, 1) := by decide +kernel
theorem dX0_connect_67 : decode cX0_connect 67 = .ok (.iload_n 2, 1) := by decide +kernel
theorem dX0_connect_68 : decode cX0_connect 68 = .ok (.invokestatic 96, 3) := by decide +kernel
theorem dX0_connect_71 : decode cX0_connect 71 = .ok (.lor, 1) := by decide +kernel
theorem dX0_connect_72 : decode cX0_connect 72 = .ok (.lastore, 1) := by decide +kernel
theorem dX0_connect_73 : decode cX0_connect 73 = .ok (.aload_n 0, 1) := by decide +kernel
theorem dX0_connect_74 : decode cX0_connect 74 = .ok (.iload_n 1, 1) := by decide +kernel
theorem dX0_connect_75 : decode cX0_connect 75 = .ok (.iload_n 2, 1) := by decide +kernel
theorem dX0_connect_76 : decode cX0_connect 76 = .ok (.invokevirtual 100, 3) := by decide +kernel
theorem dX0_connect_79 : decode cX0_connect 79 = .ok (.iconst 1, 1) := by decide +kernel
theorem dX0_connect_80 : decode cX0_connect 80 = .ok (.ireturn, 1) := by decide +kernel
set_option maxRecDepth 20000 in
theorem ggX0_flatten_X0_flatFrom : GoodIn wsX0_flatten wsX0_flatFrom := goodIn_r _ [6, 7, 8, 9, 10, 11, 5, 12, 13, 14, 15, 23, 24, 25, 26, 27, 28, 29, 30, 31, 32, 33, 34, 35, 36, 37, 38, 39, 40, 41] (by decide +kernel) (by decide +kernel)
set_option maxRecDepth 20000 in
theorem gX0_flatten_X0_flatFrom : GoodIn wsX0_flatten (wsV RX0 104 RX0 yX0_flatFrom wsX0_flatFrom) := goodIn_app (goodIn_of _ (by decide +kernel)) ggX0_flatten_X0_flatFrom
set_option maxRecDepth 20000 in
theorem ggX0_flatten_J13_bitCount_95d88 : GoodIn wsX0_flatten wsJ13_bitCount_95d88 := goodIn_r _ [19, 20, 21, 22] (by decide +kernel) (by decide +kernel)
set_option maxRecDepth 20000 in
theorem gX0_flatten_J13_bitCount_95d88 : GoodIn wsX0_flatten (va_wsS RX0 107 yJ13_bitCount_95d88 wsJ13_bitCount_95d88) := goodIn_app (goodIn_of _ (by decide +kernel)) ggX0_flatten_J13_bitCount_95d88
theorem dX0_flatten_0 : decode cX0_flatten 0 = .ok (.iconst 0, 1) := by decide +kernel
theorem dX0_flatten_1 : decode cX0_flatten 1 = .ok (.istore_n 1, 1) := by decide +kernel
theorem dX0_flatten_2 : decode cX0_flatten 2 = .ok (.iconst 1, 1) := by decide +kernel
theorem dX0_flatten_3 : decode cX0_flatten 3 = .ok (.istore_n 2, 1) := by decide +kernel
theorem dX0_flatten_4 : decode cX0_flatten 4 = .ok (.iload_n 2, 1) := by decide +kernel
theorem dX0_flatten_5 : decode cX0_flatten 5 = .ok (.aload_n 0, 1) := by decide +kernel
theorem dX0_flatten_6 : decode cX0_flatten 6 = .ok (.getfield 75, 3) := by decide +kernel
theorem dX0_flatten_9 : decode cX0_flatten 9 = .ok (.if_icmp .gt 20, 3) := by decide +kernel
theorem dX0_flatten_12 : decode cX0_flatten 12 = .ok (.iload_n 1, 1) := by decide +kernel
theorem dX0_flatten_13 : decode cX0_flatten 13 = .ok (.aload_n 0, 1) := by decide +kernel
theorem dX0_flatten_14 : decode cX0_flatten 14 = .ok (.iload_n 2, 1) := by decide +kernel
theorem dX0_flatten_15 : decode cX0_flatten 15 = .ok (.invokevirtual 104, 3) := by decide +kernel
theorem dX0_flatten_18 : decode cX0_flatten 18 = .ok (.invokestatic 107, 3) := by decide +kernel
theorem dX0_flatten_21 : decode cX0_flatten 21 = .ok (.iadd, 1) := by decide +kernel
theorem dX0_flatten_22 : decode cX0_flatten 22 = .ok (.istore_n 1, 1) := by decide +kernel
theorem dX0_flatten_23 : decode cX0_flatten 23 = .ok (.iinc 2 1, 3) := by decide +kernel
theorem dX0_flatten_26 : decode cX0_flatten 26 = .ok (.goto (-22), 3) := by decide +kernel
theorem dX0_flatten_29 : decode cX0_flatten 29 = .ok (.iload_n 1, 1) := by decide +kernel
theorem dX0_flatten_30 : decode cX0_flatten 30 = .ok (.ireturn, 1) := by decide +kernel
set_option maxRecDepth 20000 in
theorem ggX0_at_X0_flatFrom : GoodIn wsX0_at wsX0_flatFrom := goodIn_r _ [8, 9, 10, 11, 12, 13, 7, 14, 15, 16, 17, 29, 30, 31, 32, 33, 34, 35, 36, 37, 38, 39, 40, 41, 42, 43, 44, 45, 46, 47] (by decide +kernel) (by decide +kernel)
set_option maxRecDepth 20000 in
theorem gX0_at_X0_flatFrom : GoodIn wsX0_at (wsV RX0 104 RX0 yX0_flatFrom wsX0_flatFrom) := goodIn_app (goodIn_of _ (by decide +kernel)) ggX0_at_X0_flatFrom
set_option maxRecDepth 20000 in
theorem ggX0_at_J13_bitCount_95d88 : GoodIn wsX0_at wsJ13_bitCount_95d88 := goodIn_r _ [21, 22, 23, 24] (by decide +kernel) (by decide +kernel)
set_option maxRecDepth 20000 in
theorem gX0_at_J13_bitCount_95d88 : GoodIn wsX0_at (va_wsS RX0 107 yJ13_bitCount_95d88 wsJ13_bitCount_95d88) := goodIn_app (goodIn_of _ (by decide +kernel)) ggX0_at_J13_bitCount_95d88
set_option maxRecDepth 20000 in
theorem ggX0_at_X0_nthPort : GoodIn wsX0_at wsX0_nthPort := goodIn_r _ [28, 3, 12, 13, 7, 14, 15, 16, 17, 29, 30, 31, 32, 33, 34, 35, 36, 37, 38, 39, 40, 41, 42, 43, 44, 45, 46, 47] (by decide +kernel) (by decide +kernel)
set_option maxRecDepth 20000 in
theorem gX0_at_X0_nthPort : GoodIn wsX0_at (wsV RX0 113 RX0 yX0_nthPort wsX0_nthPort) := goodIn_app (goodIn_of _ (by decide +kernel)) ggX0_at_X0_nthPort
theorem dX0_at_0 : decode cX0_at 0 = .ok (.iload_n 1, 1) := by decide +kernel
theorem dX0_at_1 : decode cX0_at 1 = .ok (.istore_n 3, 1) := by decide +kernel
theorem dX0_at_2 : decode cX0_at 2 = .ok (.iconst 1, 1) := by decide +kernel
theorem dX0_at_3 : decode cX0_at 3 = .ok (.istore 4, 2) := by decide +kernel
theorem dX0_at_5 : decode cX0_at 5 = .ok (.iload 4, 2) := by decide +kernel
theorem dX0_at_7 : decode cX0_at 7 = .ok (.aload_n 0, 1) := by decide +kernel
theorem dX0_at_8 : decode cX0_at 8 = .ok (.getfield 75, 3) := by decide +kernel
theorem dX0_at_11 : decode cX0_at 11 = .ok (.if_icmp .gt 56, 3) := by decide +kernel
theorem dX0_at_14 : decode cX0_at 14 = .ok (.iload_n 3, 1) := by decide +kernel
theorem dX0_at_15 : decode cX0_at 15 = .ok (.ifCond .lt 52, 3) := by decide +kernel
theorem dX0_at_18 : decode cX0_at 18 = .ok (.aload_n 0, 1) := by decide +kernel
theorem dX0_at_19 : decode cX0_at 19 = .ok (.iload 4, 2) := by decide +kernel
theorem dX0_at_21 : decode cX0_at 21 = .ok (.invokevirtual 104, 3) := by decide +kernel
theorem dX0_at_24 : decode cX0_at 24 = .ok (.lstore 5, 2) := by decide +kernel
theorem dX0_at_26 : decode cX0_at 26 = .ok (.lload 5, 2) := by decide +kernel
theorem dX0_at_28 : decode cX0_at 28 = .ok (.invokestatic 107, 3) := by decide +kernel
theorem dX0_at_31 : decode cX0_at 31 = .ok (.istore 7, 2) := by decide +kernel
theorem dX0_at_33 : decode cX0_at 33 = .ok (.iload_n 3, 1) := by decide +kernel
theorem dX0_at_34 : decode cX0_at 34 = .ok (.iload 7, 2) := by decide +kernel
theorem dX0_at_36 : decode cX0_at 36 = .ok (.if_icmp .ge 20, 3) := by decide +kernel
theorem dX0_at_39 : decode cX0_at 39 = .ok (.iload_n 2, 1) := by decide +kernel
theorem dX0_at_40 : decode cX0_at 40 = .ok (.ifCond .ne 8, 3) := by decide +kernel
theorem dX0_at_43 : decode cX0_at 43 = .ok (.iload 4, 2) := by decide +kernel
theorem dX0_at_45 : decode cX0_at 45 = .ok (.goto 10, 3) := by decide +kernel
theorem dX0_at_48 : decode cX0_at 48 = .ok (.aload_n 0, 1) := by decide +kernel
theorem dX0_at_49 : decode cX0_at 49 = .ok (.lload 5, 2) := by decide +kernel
theorem dX0_at_51 : decode cX0_at 51 = .ok (.iload_n 3, 1) := by decide +kernel
theorem dX0_at_52 : decode cX0_at 52 = .ok (.invokevirtual 113, 3) := by decide +kernel
theorem dX0_at_55 : decode cX0_at 55 = .ok (.ireturn, 1) := by decide +kernel
theorem dX0_at_56 : decode cX0_at 56 = .ok (.iload_n 3, 1) := by decide +kernel
theorem dX0_at_57 : decode cX0_at 57 = .ok (.iload 7, 2) := by decide +kernel
theorem dX0_at_59 : decode cX0_at 59 = .ok (.isub, 1) := by decide +kernel
theorem dX0_at_60 : decode cX0_at 60 = .ok (.istore_n 3, 1) := by decide +kernel
theorem dX0_at_61 : decode cX0_at 61 = .ok (.iinc 4 1, 3) := by decide +kernel
theorem dX0_at_64 : decode cX0_at 64 = .ok (.goto (-59), 3) := by decide +kernel
theorem dX0_at_67 : decode cX0_at 67 = .ok (.new 117, 3) := by decide +kernel
theorem dX0_at_70 : decode cX0_at 70 = .ok (.dup, 1) := by decide +kernel
theorem dX0_at_71 : decode cX0_at 71 = .ok (.ldc 119, 2) := by decide +kernel
theorem dX0_at_73 : decode cX0_at 73 = .ok (.invokespecial 121, 3) := by decide +kernel
theorem dX0_at_76 : decode cX0_at 76 = .ok (.athrow, 1) := by decide +kernel
set_option maxRecDepth 20000 in
theorem ggX0_check_X0_isPortRule : GoodIn wsX0_check wsX0_isPortRule := goodIn_r _ [4] (by decide +kernel) (by decide +kernel)
set_option maxRecDepth 20000 in
theorem gX0_check_X0_isPortRule : GoodIn wsX0_check (va_wsS RX0 124 yX0_isPortRule wsX0_isPortRule) := goodIn_app (goodIn_of _ (by decide +kernel)) ggX0_check_X0_isPortRule
set_option maxRecDepth 20000 in
theorem ggX0_check_X0_firstBadPort : GoodIn wsX0_check wsX0_firstBadPort := goodIn_r _ [8, 9, 10, 11, 12, 3, 13, 14, 15, 16, 17, 18, 19, 20, 21, 22, 23, 24, 25, 26, 27, 28, 29, 30, 31, 32, 33, 60, 61, 62, 63, 64, 65, 66, 67, 68, 69, 70, 71, 72, 73, 74, 75, 76, 77, 78] (by decide +kernel) (by decide +kernel)
set_option maxRecDepth 20000 in
theorem gX0_check_X0_firstBadPort : GoodIn wsX0_check (wsV RX0 127 RX0 yX0_firstBadPort wsX0_firstBadPort) := goodIn_app (goodIn_of _ (by decide +kernel)) ggX0_check_X0_firstBadPort
set_option maxRecDepth 20000 in
theorem ggX0_check_X0_firstBadConnector : GoodIn wsX0_check wsX0_firstBadConnector := goodIn_r _ [37, 9, 28, 29, 30, 3, 31, 32, 33, 10, 11, 12, 13, 14, 15, 16, 38, 39, 40, 41, 42, 43, 21, 44, 45, 46, 47, 48, 49, 50, 51, 52, 53, 54, 55, 56, 57, 58, 59, 60, 61, 62, 63, 64, 65, 66, 67, 68, 69, 70, 71, 72, 73, 74, 75, 76, 77, 78] (by decide +kernel) (by decide +kernel)
set_option maxRecDepth 20000 in
theorem gX0_check_X0_firstBadConnector : GoodIn wsX0_check (wsV RX0 131 RX0 yX0_firstBadConnector wsX0_firstBadConnector) := goodIn_app (goodIn_of _ (by decide +kernel)) ggX0_check_X0_firstBadConnector
theorem dX0_check_0 : decode cX0_check 0 = .ok (.iconst 1, 1) := by decide +kernel
theorem dX0_check_1 : decode cX0_check 1 = .ok (.istore_n 1, 1) := by decide +kernel
theorem dX0_check_2 : decode cX0_check 2 = .ok (.iload_n 1, 1) := by decide +kernel
theorem dX0_check_3 : decode cX0_check 3 = .ok (.bipush 9, 2) := by decide +kernel
theorem dX0_check_5 : decode cX0_check 5 = .ok (.if_icmp .gt 42, 3) := by decide +kernel
theorem dX0_check_8 : decode cX0_check 8 = .ok (.iload_n 1, 1) := by decide +kernel
theorem dX0_check_9 : decode cX0_check 9 = .ok (.invokestatic 124, 3) := by decide +kernel
theorem dX0_check_12 : decode cX0_check 12 = .ok (.ifCond .eq 11, 3) := by decide +kernel
theorem dX0_check_15 : decode cX0_check 15 = .ok (.aload_n 0, 1) := by decide +kernel
theorem dX0_check_16 : decode cX0_check 16 = .ok (.iload_n 1, 1) := by decide +kernel
theorem dX0_check_17 : decode cX0_check 17 = .ok (.invokevirtual 127, 3) := by decide +kernel
theorem dX0_check_20 : decode cX0_check 20 = .ok (.goto 8, 3) := by decide +kernel
theorem dX0_check_23 : decode cX0_check 23 = .ok (.aload_n 0, 1) := by decide +kernel
theorem dX0_check_24 : decode cX0_check 24 = .ok (.iload_n 1, 1) := by decide +kernel
theorem dX0_check_25 : decode cX0_check 25 = .ok (.invokevirtual 131, 3) := by decide +kernel
theorem dX0_check_28 : decode cX0_check 28 = .ok (.istore_n 2, 1) := by decide +kernel
theorem dX0_check_29 : decode cX0_check 29 = .ok (.iload_n 2, 1) := by decide +kernel
theorem dX0_check_30 : decode cX0_check 30 = .ok (.ifCond .eq 11, 3) := by decide +kernel
theorem dX0_check_33 : decode cX0_check 33 = .ok (.sipush 1000, 3) := by decide +kernel
theorem dX0_check_36 : decode cX0_check 36 = .ok (.iload_n 1, 1) := by decide +kernel
theorem dX0_check_37 : decode cX0_check 37 = .ok (.imul, 1) := by decide +kernel
theorem dX0_check_38 : decode cX0_check 38 = .ok (.iload_n 2, 1) := by decide +kernel
theorem dX0_check_39 : decode cX0_check 39 = .ok (.iadd, 1) := by decide +kernel
theorem dX0_check_40 : decode cX0_check 40 = .ok (.ireturn, 1) := by decide +kernel
theorem dX0_check_41 : decode cX0_check 41 = .ok (.iinc 1 1, 3) := by decide +kernel
theorem dX0_check_44 : decode cX0_check 44 = .ok (.goto (-42), 3) := by decide +kernel
theorem dX0_check_47 : decode cX0_check 47 = .ok (.iconst 0, 1) := by decide +kernel
theorem dX0_check_48 : decode cX0_check 48 = .ok (.ireturn, 1) := by decide +kernel
set_option maxRecDepth 20000 in
theorem ggX0_manager_X0_isPart : GoodIn wsX0_manager wsX0_isPart := goodIn_r _ [6, 7, 8, 9, 10, 11, 12, 13, 14, 15, 16, 17, 18, 19, 20, 21, 22, 23, 24, 25, 26] (by decide +kernel) (by decide +kernel)
set_option maxRecDepth 20000 in
theorem gX0_manager_X0_isPart : GoodIn wsX0_manager (wsV RX0 63 RX0 yX0_isPart wsX0_isPart) := goodIn_app (goodIn_of _ (by decide +kernel)) ggX0_manager_X0_isPart
theorem dX0_manager_0 : decode cX0_manager 0 = .ok (.aload_n 0, 1) := by decide +kernel
theorem dX0_manager_1 : decode cX0_manager 1 = .ok (.iload_n 2, 1) := by decide +kernel
theorem dX0_manager_2 : decode cX0_manager 2 = .ok (.invokevirtual 63, 3) := by decide +kernel
theorem dX0_manager_5 : decode cX0_manager 5 = .ok (.ifCond .ne 5, 3) := by decide +kernel
theorem dX0_manager_8 : decode cX0_manager 8 = .ok (.iconst (-1), 1) := by decide +kernel
theorem dX0_manager_9 : decode cX0_manager 9 = .ok (.ireturn, 1) := by decide +kernel
theorem dX0_manager_10 : decode cX0_manager 10 = .ok (.iload_n 1, 1) := by decide +kernel
theorem dX0_manager_11 : decode cX0_manager 11 = .ok (.ifCond .lt 9, 3) := by decide +kernel
theorem dX0_manager_14 : decode cX0_manager 14 = .ok (.iload_n 1, 1) := by decide +kernel
theorem dX0_manager_15 : decode cX0_manager 15 = .ok (.bipush 10, 2) := by decide +kernel
theorem dX0_manager_17 : decode cX0_manager 17 = .ok (.if_icmp .lt 6, 3) := by decide +kernel
theorem dX0_manager_20 : decode cX0_manager 20 = .ok (.bipush (-2), 2) := by decide +kernel
theorem dX0_manager_22 : decode cX0_manager 22 = .ok (.ireturn, 1) := by decide +kernel
theorem dX0_manager_23 : decode cX0_manager 23 = .ok (.aload_n 0, 1) := by decide +kernel
theorem dX0_manager_24 : decode cX0_manager 24 = .ok (.getfield 17, 3) := by decide +kernel
theorem dX0_manager_27 : decode cX0_manager 27 = .ok (.iload_n 1, 1) := by decide +kernel
theorem dX0_manager_28 : decode cX0_manager 28 = .ok (.iaload, 1) := by decide +kernel
theorem dX0_manager_29 : decode cX0_manager 29 = .ok (.ifCond .eq 15, 3) := by decide +kernel
theorem dX0_manager_32 : decode cX0_manager 32 = .ok (.aload_n 0, 1) := by decide +kernel
theorem dX0_manager_33 : decode cX0_manager 33 = .ok (.getfield 17, 3) := by decide +kernel
theorem dX0_manager_36 : decode cX0_manager 36 = .ok (.iload_n 1, 1) := by decide +kernel
theorem dX0_manager_37 : decode cX0_manager 37 = .ok (.iaload, 1) := by decide +kernel
theorem dX0_manager_38 : decode cX0_manager 38 = .ok (.iload_n 2, 1) := by decide +kernel
theorem dX0_manager_39 : decode cX0_manager 39 = .ok (.if_icmp .eq 5, 3) := by decide +kernel
theorem dX0_manager_42 : decode cX0_manager 42 = .ok (.iconst 0, 1) := by decide +kernel
theorem dX0_manager_43 : decode cX0_manager 43 = .ok (.ireturn, 1) := by decide +kernel
theorem dX0_manager_44 : decode cX0_manager 44 = .ok (.aload_n 0, 1) := by decide +kernel
theorem dX0_manager_45 : decode cX0_manager 45 = .ok (.getfield 17, 3) := by decide +kernel
theorem dX0_manager_48 : decode cX0_manager 48 = .ok (.iload_n 1, 1) := by decide +kernel
theorem dX0_manager_49 : decode cX0_manager 49 = .ok (.iload_n 2, 1) := by decide +kernel
theorem dX0_manager_50 : decode cX0_manager 50 = .ok (.iastore, 1) := by decide +kernel
theorem dX0_manager_51 : decode cX0_manager 51 = .ok (.iconst 1, 1) := by decide +kernel
theorem dX0_manager_52 : decode cX0_manager 52 = .ok (.ireturn, 1) := by decide +kernel
set_option maxRecDepth 20000 in
theorem ggX0_fallback_X0_isPort : GoodIn wsX0_fallback wsX0_isPort := goodIn_r _ [8, 9, 10, 11, 12, 13, 14, 15, 16, 17, 18, 19, 20, 21, 22, 23, 24, 25, 26, 27, 28] (by decide +kernel) (by decide +kernel)
set_option maxRecDepth 20000 in
theorem gX0_fallback_X0_isPort : GoodIn wsX0_fallback (wsV RX0 81 RX0 yX0_isPort wsX0_isPort) := goodIn_app (goodIn_of _ (by decide +kernel)) ggX0_fallback_X0_isPort
theorem dX0_fallback_0 : decode cX0_fallback 0 = .ok (.aload_n 0, 1) := by decide +kernel
theorem dX0_fallback_1 : decode cX0_fallback 1 = .ok (.iload_n 1, 1) := by decide +kernel
theorem dX0_fallback_2 : decode cX0_fallback 2 = .ok (.invokevirtual 81, 3) := by decide +kernel
theorem dX0_fallback_5 : decode cX0_fallback 5 = .ok (.ifCond .ne 5, 3) := by decide +kernel
theorem dX0_fallback_8 : decode cX0_fallback 8 = .ok (.iconst (-1), 1) := by decide +kernel
theorem dX0_fallback_9 : decode cX0_fallback 9 = .ok (.ireturn, 1) := by decide +kernel
theorem dX0_fallback_10 : decode cX0_fallback 10 = .ok (.aload_n 0, 1) := by decide +kernel
theorem dX0_fallback_11 : decode cX0_fallback 11 = .ok (.getfield 26, 3) := by decide +kernel
theorem dX0_fallback_14 : decode cX0_fallback 14 = .ok (.iload_n 1, 1) := by decide +kernel
theorem dX0_fallback_15 : decode cX0_fallback 15 = .ok (.baload, 1) := by decide +kernel
theorem dX0_fallback_16 : decode cX0_fallback 16 = .ok (.ifCond .eq 6, 3) := by decide +kernel
theorem dX0_fallback_19 : decode cX0_fallback 19 = .ok (.bipush (-3), 2) := by decide +kernel
theorem dX0_fallback_21 : decode cX0_fallback 21 = .ok (.ireturn, 1) := by decide +kernel
theorem dX0_fallback_22 : decode cX0_fallback 22 = .ok (.aload_n 0, 1) := by decide +kernel
theorem dX0_fallback_23 : decode cX0_fallback 23 = .ok (.getfield 45, 3) := by decide +kernel
theorem dX0_fallback_26 : decode cX0_fallback 26 = .ok (.iload_n 1, 1) := by decide +kernel
theorem dX0_fallback_27 : decode cX0_fallback 27 = .ok (.iaload, 1) := by decide +kernel
theorem dX0_fallback_28 : decode cX0_fallback 28 = .ok (.istore_n 3, 1) := by decide +kernel
theorem dX0_fallback_29 : decode cX0_fallback 29 = .ok (.aload_n 0, 1) := by decide +kernel
theorem dX0_fallback_30 : decode cX0_fallback 30 = .ok (.getfield 42, 3) := by decide +kernel
theorem dX0_fallback_33 : decode cX0_fallback 33 = .ok (.iload_n 1, 1) := by decide +kernel
theorem dX0_fallback_34 : decode cX0_fallback 34 = .ok (.iconst 1, 1) := by decide +kernel
theorem dX0_fallback_35 : decode cX0_fallback 35 = .ok (.bastore, 1) := by decide +kernel
theorem dX0_fallback_36 : decode cX0_fallback 36 = .ok (.aload_n 0, 1) := by decide +kernel
theorem dX0_fallback_37 : decode cX0_fallback 37 = .ok (.getfield 45, 3) := by decide +kernel
theorem dX0_fallback_40 : decode cX0_fallback 40 = .ok (.iload_n 1, 1) := by decide +kernel
theorem dX0_fallback_41 : decode cX0_fallback 41 = .ok (.iload_n 2, 1) := by decide +kernel
theorem dX0_fallback_42 : decode cX0_fallback 42 = .ok (.iastore, 1) := by decide +kernel
theorem dX0_fallback_43 : decode cX0_fallback 43 = .ok (.iload_n 3, 1) := by decide +kernel
theorem dX0_fallback_44 : decode cX0_fallback 44 = .ok (.ireturn, 1) := by decide +kernel
set_option maxRecDepth 20000 in
theorem ggX0_queue_X0_isPort : GoodIn wsX0_queue wsX0_isPort := goodIn_r _ [7, 8, 9, 10, 11, 12, 13, 14, 15, 16, 17, 18, 19, 20, 21, 22, 23, 24, 25, 26, 27] (by decide +kernel) (by decide +kernel)
set_option maxRecDepth 20000 in
theorem gX0_queue_X0_isPort : GoodIn wsX0_queue (wsV RX0 81 RX0 yX0_isPort wsX0_isPort) := goodIn_app (goodIn_of _ (by decide +kernel)) ggX0_queue_X0_isPort
theorem dX0_queue_0 : decode cX0_queue 0 = .ok (.aload_n 0, 1) := by decide +kernel
theorem dX0_queue_1 : decode cX0_queue 1 = .ok (.iload_n 1, 1) := by decide +kernel
theorem dX0_queue_2 : decode cX0_queue 2 = .ok (.invokevirtual 81, 3) := by decide +kernel
theorem dX0_queue_5 : decode cX0_queue 5 = .ok (.ifCond .ne 5, 3) := by decide +kernel
theorem dX0_queue_8 : decode cX0_queue 8 = .ok (.iconst (-1), 1) := by decide +kernel
theorem dX0_queue_9 : decode cX0_queue 9 = .ok (.ireturn, 1) := by decide +kernel
theorem dX0_queue_10 : decode cX0_queue 10 = .ok (.iload_n 2, 1) := by decide +kernel
theorem dX0_queue_11 : decode cX0_queue 11 = .ok (.iconst 1, 1) := by decide +kernel
theorem dX0_queue_12 : decode cX0_queue 12 = .ok (.if_icmp .lt 9, 3) := by decide +kernel
theorem dX0_queue_15 : decode cX0_queue 15 = .ok (.iload_n 2, 1) := by decide +kernel
theorem dX0_queue_16 : decode cX0_queue 16 = .ok (.bipush 100, 2) := by decide +kernel
theorem dX0_queue_18 : decode cX0_queue 18 = .ok (.if_icmp .le 6, 3) := by decide +kernel
theorem dX0_queue_21 : decode cX0_queue 21 = .ok (.bipush (-2), 2) := by decide +kernel
theorem dX0_queue_23 : decode cX0_queue 23 = .ok (.ireturn, 1) := by decide +kernel
theorem dX0_queue_24 : decode cX0_queue 24 = .ok (.aload_n 0, 1) := by decide +kernel
theorem dX0_queue_25 : decode cX0_queue 25 = .ok (.getfield 23, 3) := by decide +kernel
theorem dX0_queue_28 : decode cX0_queue 28 = .ok (.iload_n 1, 1) := by decide +kernel
theorem dX0_queue_29 : decode cX0_queue 29 = .ok (.iaload, 1) := by decide +kernel
theorem dX0_queue_30 : decode cX0_queue 30 = .ok (.iconst 1, 1) := by decide +kernel
theorem dX0_queue_31 : decode cX0_queue 31 = .ok (.if_icmp .eq 6, 3) := by decide +kernel
theorem dX0_queue_34 : decode cX0_queue 34 = .ok (.bipush (-3), 2) := by decide +kernel
theorem dX0_queue_36 : decode cX0_queue 36 = .ok (.ireturn, 1) := by decide +kernel
theorem dX0_queue_37 : decode cX0_queue 37 = .ok (.aload_n 0, 1) := by decide +kernel
theorem dX0_queue_38 : decode cX0_queue 38 = .ok (.getfield 48, 3) := by decide +kernel
theorem dX0_queue_41 : decode cX0_queue 41 = .ok (.iload_n 1, 1) := by decide +kernel
theorem dX0_queue_42 : decode cX0_queue 42 = .ok (.iload_n 2, 1) := by decide +kernel
theorem dX0_queue_43 : decode cX0_queue 43 = .ok (.iastore, 1) := by decide +kernel
theorem dX0_queue_44 : decode cX0_queue 44 = .ok (.iconst 1, 1) := by decide +kernel
theorem dX0_queue_45 : decode cX0_queue 45 = .ok (.ireturn, 1) := by decide +kernel
set_option maxRecDepth 20000 in
theorem ggX0_version_X0_isPort : GoodIn wsX0_version wsX0_isPort := goodIn_r _ [6, 7, 8, 9, 10, 11, 12, 13, 14, 15, 16, 17, 18, 19, 20, 21, 22, 23, 24, 25, 26] (by decide +kernel) (by decide +kernel)
set_option maxRecDepth 20000 in
theorem gX0_version_X0_isPort : GoodIn wsX0_version (wsV RX0 81 RX0 yX0_isPort wsX0_isPort) := goodIn_app (goodIn_of _ (by decide +kernel)) ggX0_version_X0_isPort
theorem dX0_version_0 : decode cX0_version 0 = .ok (.aload_n 0, 1) := by decide +kernel
theorem dX0_version_1 : decode cX0_version 1 = .ok (.iload_n 1, 1) := by decide +kernel
theorem dX0_version_2 : decode cX0_version 2 = .ok (.invokevirtual 81, 3) := by decide +kernel
theorem dX0_version_5 : decode cX0_version 5 = .ok (.ifCond .ne 5, 3) := by decide +kernel
theorem dX0_version_8 : decode cX0_version 8 = .ok (.iconst (-1), 1) := by decide +kernel
theorem dX0_version_9 : decode cX0_version 9 = .ok (.ireturn, 1) := by decide +kernel
theorem dX0_version_10 : decode cX0_version 10 = .ok (.iload_n 2, 1) := by decide +kernel
theorem dX0_version_11 : decode cX0_version 11 = .ok (.ifCond .lt 10, 3) := by decide +kernel
theorem dX0_version_14 : decode cX0_version 14 = .ok (.iload_n 2, 1) := by decide +kernel
theorem dX0_version_15 : decode cX0_version 15 = .ok (.sipush 9999, 3) := by decide +kernel
theorem dX0_version_18 : decode cX0_version 18 = .ok (.if_icmp .le 6, 3) := by decide +kernel
theorem dX0_version_21 : decode cX0_version 21 = .ok (.bipush (-2), 2) := by decide +kernel
theorem dX0_version_23 : decode cX0_version 23 = .ok (.ireturn, 1) := by decide +kernel
theorem dX0_version_24 : decode cX0_version 24 = .ok (.aload_n 0, 1) := by decide +kernel
theorem dX0_version_25 : decode cX0_version 25 = .ok (.getfield 39, 3) := by decide +kernel
theorem dX0_version_28 : decode cX0_version 28 = .ok (.iload_n 1, 1) := by decide +kernel
theorem dX0_version_29 : decode cX0_version 29 = .ok (.iload_n 2, 1) := by decide +kernel
theorem dX0_version_30 : decode cX0_version 30 = .ok (.iastore, 1) := by decide +kernel
theorem dX0_version_31 : decode cX0_version 31 = .ok (.iconst 1, 1) := by decide +kernel
theorem dX0_version_32 : decode cX0_version 32 = .ok (.ireturn, 1) := by decide +kernel
set_option maxRecDepth 20000 in
theorem ggX0_open_X0_flatSeconds : GoodIn wsX0_open wsX0_flatSeconds := goodIn_r _ [7, 8, 9, 10, 11, 6, 12, 13, 14, 1, 15, 16, 17, 18, 19, 20, 25, 26, 27, 28, 29, 30, 31, 32, 33, 34, 35, 36, 37, 38, 39, 40, 41, 42, 43] (by decide +kernel) (by decide +kernel)
set_option maxRecDepth 20000 in
theorem gX0_open_X0_flatSeconds : GoodIn wsX0_open (wsV RX0 138 RX0 yX0_flatSeconds wsX0_flatSeconds) := goodIn_app (goodIn_of _ (by decide +kernel)) ggX0_open_X0_flatSeconds
set_option maxRecDepth 20000 in
theorem ggX0_open_X0_nthPort : GoodIn wsX0_open wsX0_nthPort := goodIn_r _ [24, 8, 15, 16, 6, 17, 18, 19, 20, 25, 26, 27, 28, 29, 30, 31, 32, 33, 34, 35, 36, 37, 38, 39, 40, 41, 42, 43] (by decide +kernel) (by decide +kernel)
set_option maxRecDepth 20000 in
theorem gX0_open_X0_nthPort : GoodIn wsX0_open (wsV RX0 113 RX0 yX0_nthPort wsX0_nthPort) := goodIn_app (goodIn_of _ (by decide +kernel)) ggX0_open_X0_nthPort
theorem dX0_open_0 : decode cX0_open 0 = .ok (.iload_n 1, 1) := by decide +kernel
theorem dX0_open_1 : decode cX0_open 1 = .ok (.ifCond .ge 7, 3) := by decide +kernel
theorem dX0_open_4 : decode cX0_open 4 = .ok (.iconst 0, 1) := by decide +kernel
theorem dX0_open_5 : decode cX0_open 5 = .ok (.goto 21, 3) := by decide +kernel
theorem dX0_open_8 : decode cX0_open 8 = .ok (.aload_n 0, 1) := by decide +kernel
theorem dX0_open_9 : decode cX0_open 9 = .ok (.aload_n 0, 1) := by decide +kernel
theorem dX0_open_10 : decode cX0_open 10 = .ok (.getfield 134, 3) := by decide +kernel
theorem dX0_open_13 : decode cX0_open 13 = .ok (.aload_n 0, 1) := by decide +kernel
theorem dX0_open_14 : decode cX0_open 14 = .ok (.invokevirtual 138, 3) := by decide +kernel
theorem dX0_open_17 : decode cX0_open 17 = .ok (.ldc2_w 142, 3) := by decide +kernel
theorem dX0_open_20 : decode cX0_open 20 = .ok (.lxor, 1) := by decide +kernel
theorem dX0_open_21 : decode cX0_open 21 = .ok (.land, 1) := by decide +kernel
theorem dX0_open_22 : decode cX0_open 22 = .ok (.iload_n 1, 1) := by decide +kernel
theorem dX0_open_23 : decode cX0_open 23 = .ok (.invokevirtual 113, 3) := by decide +kernel
theorem dX0_open_26 : decode cX0_open 26 = .ok (.ireturn, 1) := by decide +kernel
theorem dX0_isPart_0 : decode cX0_isPart 0 = .ok (.iload_n 1, 1) := by decide +kernel
theorem dX0_isPart_1 : decode cX0_isPart 1 = .ok (.iconst 1, 1) := by decide +kernel
theorem dX0_isPart_2 : decode cX0_isPart 2 = .ok (.if_icmp .lt 15, 3) := by decide +kernel
theorem dX0_isPart_5 : decode cX0_isPart 5 = .ok (.iload_n 1, 1) := by decide +kernel
theorem dX0_isPart_6 : decode cX0_isPart 6 = .ok (.aload_n 0, 1) := by decide +kernel
theorem dX0_isPart_7 : decode cX0_isPart 7 = .ok (.getfield 67, 3) := by decide +kernel
theorem dX0_isPart_10 : decode cX0_isPart 10 = .ok (.if_icmp .gt 7, 3) := by decide +kernel
theorem dX0_isPart_13 : decode cX0_isPart 13 = .ok (.iconst 1, 1) := by decide +kernel
theorem dX0_isPart_14 : decode cX0_isPart 14 = .ok (.goto 4, 3) := by decide +kernel
theorem dX0_isPart_17 : decode cX0_isPart 17 = .ok (.iconst 0, 1) := by decide +kernel
theorem dX0_isPart_18 : decode cX0_isPart 18 = .ok (.ireturn, 1) := by decide +kernel
theorem dX0_isPort_0 : decode cX0_isPort 0 = .ok (.iload_n 1, 1) := by decide +kernel
theorem dX0_isPort_1 : decode cX0_isPort 1 = .ok (.iconst 1, 1) := by decide +kernel
theorem dX0_isPort_2 : decode cX0_isPort 2 = .ok (.if_icmp .lt 15, 3) := by decide +kernel
theorem dX0_isPort_5 : decode cX0_isPort 5 = .ok (.iload_n 1, 1) := by decide +kernel
theorem dX0_isPort_6 : decode cX0_isPort 6 = .ok (.aload_n 0, 1) := by decide +kernel
theorem dX0_isPort_7 : decode cX0_isPort 7 = .ok (.getfield 75, 3) := by decide +kernel
theorem dX0_isPort_10 : decode cX0_isPort 10 = .ok (.if_icmp .gt 7, 3) := by decide +kernel
theorem dX0_isPort_13 : decode cX0_isPort 13 = .ok (.iconst 1, 1) := by decide +kernel
theorem dX0_isPort_14 : decode cX0_isPort 14 = .ok (.goto 4, 3) := by decide +kernel
theorem dX0_isPort_17 : decode cX0_isPort 17 = .ok (.iconst 0, 1) := by decide +kernel
theorem dX0_isPort_18 : decode cX0_isPort 18 = .ok (.ireturn, 1) := by decide +kernel
theorem dX0_isScaling_0 : decode cX0_isScaling 0 = .ok (.lload_n 0, 1) := by decide +kernel
theorem dX0_isScaling_1 : decode cX0_isScaling 1 = .ok (.lconst 1, 1) := by decide +kernel
theorem dX0_isScaling_2 : decode cX0_isScaling 2 = .ok (.lcmp, 1) := by decide +kernel
theorem dX0_isScaling_3 : decode cX0_isScaling 3 = .ok (.ifCond .lt 15, 3) := by decide +kernel
theorem dX0_isScaling_6 : decode cX0_isScaling 6 = .ok (.lload_n 0, 1) := by decide +kernel
theorem dX0_isScaling_7 : decode cX0_isScaling 7 = .ok (.ldc2_w 144, 3) := by decide +kernel
theorem dX0_isScaling_10 : decode cX0_isScaling 10 = .ok (.lcmp, 1) := by decide +kernel
theorem dX0_isScaling_11 : decode cX0_isScaling 11 = .ok (.ifCond .gt 7, 3) := by decide +kernel
theorem dX0_isScaling_14 : decode cX0_isScaling 14 = .ok (.iconst 1, 1) := by decide +kernel
theorem dX0_isScaling_15 : decode cX0_isScaling 15 = .ok (.goto 4, 3) := by decide +kernel
theorem dX0_isScaling_18 : decode cX0_isScaling 18 = .ok (.iconst 0, 1) := by decide +kernel
theorem dX0_isScaling_19 : decode cX0_isScaling 19 = .ok (.ireturn, 1) := by decide +kernel
theorem dX0_bit_0 : decode cX0_bit 0 = .ok (.lconst 1, 1) := by decide +kernel
theorem dX0_bit_1 : decode cX0_bit 1 = .ok (.iload_n 0, 1) := by decide +kernel
theorem dX0_bit_2 : decode cX0_bit 2 = .ok (.lshl, 1) := by decide +kernel
theorem dX0_bit_3 : decode cX0_bit 3 = .ok (.lreturn, 1) := by decide +kernel
set_option maxRecDepth 20000 in
theorem ggX0_holds_X0_bit : GoodIn wsX0_holds wsX0_bit := goodIn_r _ [4] (by decide +kernel) (by decide +kernel)
set_option maxRecDepth 20000 in
theorem gX0_holds_X0_bit : GoodIn wsX0_holds (va_wsS RX0 96 yX0_bit wsX0_bit) := goodIn_app (goodIn_of _ (by decide +kernel)) ggX0_holds_X0_bit
theorem dX0_holds_0 : decode cX0_holds 0 = .ok (.lload_n 0, 1) := by decide +kernel
theorem dX0_holds_1 : decode cX0_holds 1 = .ok (.iload_n 2, 1) := by decide +kernel
theorem dX0_holds_2 : decode cX0_holds 2 = .ok (.invokestatic 96, 3) := by decide +kernel
theorem dX0_holds_5 : decode cX0_holds 5 = .ok (.land, 1) := by decide +kernel
theorem dX0_holds_6 : decode cX0_holds 6 = .ok (.lconst 0, 1) := by decide +kernel
theorem dX0_holds_7 : decode cX0_holds 7 = .ok (.lcmp, 1) := by decide +kernel
theorem dX0_holds_8 : decode cX0_holds 8 = .ok (.ifCond .eq 7, 3) := by decide +kernel
theorem dX0_holds_11 : decode cX0_holds 11 = .ok (.iconst 1, 1) := by decide +kernel
theorem dX0_holds_12 : decode cX0_holds 12 = .ok (.goto 4, 3) := by decide +kernel
theorem dX0_holds_15 : decode cX0_holds 15 = .ok (.iconst 0, 1) := by decide +kernel
theorem dX0_holds_16 : decode cX0_holds 16 = .ok (.ireturn, 1) := by decide +kernel
set_option maxRecDepth 20000 in
theorem ggX0_nthPort_X0_holds : GoodIn wsX0_nthPort wsX0_holds := goodIn_r _ [5, 6, 7, 4, 8] (by decide +kernel) (by decide +kernel)
set_option maxRecDepth 20000 in
theorem gX0_nthPort_X0_holds : GoodIn wsX0_nthPort (va_wsS RX0 92 yX0_holds wsX0_holds) := goodIn_app (goodIn_of _ (by decide +kernel)) ggX0_nthPort_X0_holds
theorem dX0_nthPort_0 : decode cX0_nthPort 0 = .ok (.iload_n 3, 1) := by decide +kernel
theorem dX0_nthPort_1 : decode cX0_nthPort 1 = .ok (.istore 4, 2) := by decide +kernel
theorem dX0_nthPort_3 : decode cX0_nthPort 3 = .ok (.iconst 1, 1) := by decide +kernel
theorem dX0_nthPort_4 : decode cX0_nthPort 4 = .ok (.istore 5, 2) := by decide +kernel
theorem dX0_nthPort_6 : decode cX0_nthPort 6 = .ok (.iload 5, 2) := by decide +kernel
theorem dX0_nthPort_8 : decode cX0_nthPort 8 = .ok (.aload_n 0, 1) := by decide +kernel
theorem dX0_nthPort_9 : decode cX0_nthPort 9 = .ok (.getfield 75, 3) := by decide +kernel
theorem dX0_nthPort_12 : decode cX0_nthPort 12 = .ok (.if_icmp .gt 29, 3) := by decide +kernel
theorem dX0_nthPort_15 : decode cX0_nthPort 15 = .ok (.lload_n 1, 1) := by decide +kernel
theorem dX0_nthPort_16 : decode cX0_nthPort 16 = .ok (.iload 5, 2) := by decide +kernel
theorem dX0_nthPort_18 : decode cX0_nthPort 18 = .ok (.invokestatic 92, 3) := by decide +kernel
theorem dX0_nthPort_21 : decode cX0_nthPort 21 = .ok (.ifCond .eq 14, 3) := by decide +kernel
theorem dX0_nthPort_24 : decode cX0_nthPort 24 = .ok (.iload 4, 2) := by decide +kernel
theorem dX0_nthPort_26 : decode cX0_nthPort 26 = .ok (.ifCond .ne 6, 3) := by decide +kernel
theorem dX0_nthPort_29 : decode cX0_nthPort 29 = .ok (.iload 5, 2) := by decide +kernel
theorem dX0_nthPort_31 : decode cX0_nthPort 31 = .ok (.ireturn, 1) := by decide +kernel
theorem dX0_nthPort_32 : decode cX0_nthPort 32 = .ok (.iinc 4 (-1), 3) := by decide +kernel
theorem dX0_nthPort_35 : decode cX0_nthPort 35 = .ok (.iinc 5 1, 3) := by decide +kernel
theorem dX0_nthPort_38 : decode cX0_nthPort 38 = .ok (.goto (-32), 3) := by decide +kernel
theorem dX0_nthPort_41 : decode cX0_nthPort 41 = .ok (.iconst 0, 1) := by decide +kernel
theorem dX0_nthPort_42 : decode cX0_nthPort 42 = .ok (.ireturn, 1) := by decide +kernel
set_option maxRecDepth 20000 in
theorem ggX0_addAtomicPort_X0_bit : GoodIn wsX0_addAtomicPort wsX0_bit := goodIn_r _ [7] (by decide +kernel) (by decide +kernel)
set_option maxRecDepth 20000 in
theorem gX0_addAtomicPort_X0_bit : GoodIn wsX0_addAtomicPort (va_wsS RX0 96 yX0_bit wsX0_bit) := goodIn_app (goodIn_of _ (by decide +kernel)) ggX0_addAtomicPort_X0_bit
theorem dX0_addAtomicPort_0 : decode cX0_addAtomicPort 0 = .ok (.aload_n 0, 1) := by decide +kernel
theorem dX0_addAtomicPort_1 : decode cX0_addAtomicPort 1 = .ok (.getfield 26, 3) := by decide +kernel
theorem dX0_addAtomicPort_4 : decode cX0_addAtomicPort 4 = .ok (.iload_n 1, 1) := by decide +kernel
theorem dX0_addAtomicPort_5 : decode cX0_addAtomicPort 5 = .ok (.baload, 1) := by decide +kernel
theorem dX0_addAtomicPort_6 : decode cX0_addAtomicPort 6 = .ok (.ifCond .eq 19, 3) := by decide +kernel
theorem dX0_addAtomicPort_9 : decode cX0_addAtomicPort 9 = .ok (.aload_n 0, 1) := by decide +kernel
theorem dX0_addAtomicPort_10 : decode cX0_addAtomicPort 10 = .ok (.dup, 1) := by decide +kernel
theorem dX0_addAtomicPort_11 : decode cX0_addAtomicPort 11 = .ok (.getfield 146, 3) := by decide +kernel
theorem dX0_addAtomicPort_14 : decode cX0_addAtomicPort 14 = .ok (.iload_n 1, 1) := by decide +kernel
theorem dX0_addAtomicPort_15 : decode cX0_addAtomicPort 15 = .ok (.invokestatic 96, 3) := by decide +kernel
theorem dX0_addAtomicPort_18 : decode cX0_addAtomicPort 18 = .ok (.lor, 1) := by decide +kernel
theorem dX0_addAtomicPort_19 : decode cX0_addAtomicPort 19 = .ok (.putfield 146, 3) := by decide +kernel
theorem dX0_addAtomicPort_22 : decode cX0_addAtomicPort 22 = .ok (.goto 16, 3) := by decide +kernel
theorem dX0_addAtomicPort_25 : decode cX0_addAtomicPort 25 = .ok (.aload_n 0, 1) := by decide +kernel
theorem dX0_addAtomicPort_26 : decode cX0_addAtomicPort 26 = .ok (.dup, 1) := by decide +kernel
theorem dX0_addAtomicPort_27 : decode cX0_addAtomicPort 27 = .ok (.getfield 134, 3) := by decide +kernel
theorem dX0_addAtomicPort_30 : decode cX0_addAtomicPort 30 = .ok (.iload_n 1, 1) := by decide +kernel
theorem dX0_addAtomicPort_31 : decode cX0_addAtomicPort 31 = .ok (.invokestatic 96, 3) := by decide +kernel
theorem dX0_addAtomicPort_34 : decode cX0_addAtomicPort 34 = .ok (.lor, 1) := by decide +kernel
theorem dX0_addAtomicPort_35 : decode cX0_addAtomicPort 35 = .ok (.putfield 134, 3) := by decide +kernel
theorem dX0_addAtomicPort_38 : decode cX0_addAtomicPort 38 = .ok (.return_, 1) := by decide +kernel
set_option maxRecDepth 20000 in
theorem ggX0_endAtomic_X0_bit : GoodIn wsX0_endAtomic wsX0_bit := goodIn_r _ [10] (by decide +kernel) (by decide +kernel)
set_option maxRecDepth 20000 in
theorem gX0_endAtomic_X0_bit : GoodIn wsX0_endAtomic (va_wsS RX0 96 yX0_bit wsX0_bit) := goodIn_app (goodIn_of _ (by decide +kernel)) ggX0_endAtomic_X0_bit
theorem dX0_endAtomic_0 : decode cX0_endAtomic 0 = .ok (.aload_n 0, 1) := by decide +kernel
theorem dX0_endAtomic_1 : decode cX0_endAtomic 1 = .ok (.getfield 13, 3) := by decide +kernel
theorem dX0_endAtomic_4 : decode cX0_endAtomic 4 = .ok (.iload_n 1, 1) := by decide +kernel
theorem dX0_endAtomic_5 : decode cX0_endAtomic 5 = .ok (.iconst 1, 1) := by decide +kernel
theorem dX0_endAtomic_6 : decode cX0_endAtomic 6 = .ok (.bastore, 1) := by decide +kernel
theorem dX0_endAtomic_7 : decode cX0_endAtomic 7 = .ok (.iconst 1, 1) := by decide +kernel
theorem dX0_endAtomic_8 : decode cX0_endAtomic 8 = .ok (.istore_n 2, 1) := by decide +kernel
theorem dX0_endAtomic_9 : decode cX0_endAtomic 9 = .ok (.iload_n 2, 1) := by decide +kernel
theorem dX0_endAtomic_10 : decode cX0_endAtomic 10 = .ok (.aload_n 0, 1) := by decide +kernel
theorem dX0_endAtomic_11 : decode cX0_endAtomic 11 = .ok (.getfield 75, 3) := by decide +kernel
theorem dX0_endAtomic_14 : decode cX0_endAtomic 14 = .ok (.if_icmp .gt 53, 3) := by decide +kernel
theorem dX0_endAtomic_17 : decode cX0_endAtomic 17 = .ok (.aload_n 0, 1) := by decide +kernel
theorem dX0_endAtomic_18 : decode cX0_endAtomic 18 = .ok (.getfield 20, 3) := by decide +kernel
theorem dX0_endAtomic_21 : decode cX0_endAtomic 21 = .ok (.iload_n 2, 1) := by decide +kernel
theorem dX0_endAtomic_22 : decode cX0_endAtomic 22 = .ok (.iaload, 1) := by decide +kernel
theorem dX0_endAtomic_23 : decode cX0_endAtomic 23 = .ok (.iload_n 1, 1) := by decide +kernel
theorem dX0_endAtomic_24 : decode cX0_endAtomic 24 = .ok (.if_icmp .ne 37, 3) := by decide +kernel
theorem dX0_endAtomic_27 : decode cX0_endAtomic 27 = .ok (.aload_n 0, 1) := by decide +kernel
theorem dX0_endAtomic_28 : decode cX0_endAtomic 28 = .ok (.dup, 1) := by decide +kernel
theorem dX0_endAtomic_29 : decode cX0_endAtomic 29 = .ok (.getfield 146, 3) := by decide +kernel
theorem dX0_endAtomic_32 : decode cX0_endAtomic 32 = .ok (.iload_n 2, 1) := by decide +kernel
theorem dX0_endAtomic_33 : decode cX0_endAtomic 33 = .ok (.invokestatic 96, 3) := by decide +kernel
theorem dX0_endAtomic_36 : decode cX0_endAtomic 36 = .ok (.ldc2_w 142, 3) := by decide +kernel
theorem dX0_endAtomic_39 : decode cX0_endAtomic 39 = .ok (.lxor, 1) := by decide +kernel
theorem dX0_endAtomic_40 : decode cX0_endAtomic 40 = .ok (.land, 1) := by decide +kernel
theorem dX0_endAtomic_41 : decode cX0_endAtomic 41 = .ok (.putfield 146, 3) := by decide +kernel
theorem dX0_endAtomic_44 : decode cX0_endAtomic 44 = .ok (.aload_n 0, 1) := by decide +kernel
theorem dX0_endAtomic_45 : decode cX0_endAtomic 45 = .ok (.dup, 1) := by decide +kernel
theorem dX0_endAtomic_46 : decode cX0_endAtomic 46 = .ok (.getfield 134, 3) := by decide +kernel
theorem dX0_endAtomic_49 : decode cX0_endAtomic 49 = .ok (.iload_n 2, 1) := by decide +kernel
theorem dX0_endAtomic_50 : decode cX0_endAtomic 50 = .ok (.invokestatic 96, 3) := by decide +kernel
theorem dX0_endAtomic_53 : decode cX0_endAtomic 53 = .ok (.ldc2_w 142, 3) := by decide +kernel
theorem dX0_endAtomic_56 : decode cX0_endAtomic 56 = .ok (.lxor, 1) := by decide +kernel
theorem dX0_endAtomic_57 : decode cX0_endAtomic 57 = .ok (.land, 1) := by decide +kernel
theorem dX0_endAtomic_58 : decode cX0_endAtomic 58 = .ok (.putfield 134, 3) := by decide +kernel
theorem dX0_endAtomic_61 : decode cX0_endAtomic 61 = .ok (.iinc 2 1, 3) := by decide +kernel
theorem dX0_endAtomic_64 : decode cX0_endAtomic 64 = .ok (.goto (-55), 3) := by decide +kernel
theorem dX0_endAtomic_67 : decode cX0_endAtomic 67 = .ok (.return_, 1) := by decide +kernel
theorem dX0_isWay_0 : decode cX0_isWay 0 = .ok (.aload_n 0, 1) := by decide +kernel
theorem dX0_isWay_1 : decode cX0_isWay 1 = .ok (.getfield 20, 3) := by decide +kernel
theorem dX0_isWay_4 : decode cX0_isWay 4 = .ok (.iload_n 1, 1) := by decide +kernel
theorem dX0_isWay_5 : decode cX0_isWay 5 = .ok (.iaload, 1) := by decide +kernel
theorem dX0_isWay_6 : decode cX0_isWay 6 = .ok (.istore_n 3, 1) := by decide +kernel
theorem dX0_isWay_7 : decode cX0_isWay 7 = .ok (.aload_n 0, 1) := by decide +kernel
theorem dX0_isWay_8 : decode cX0_isWay 8 = .ok (.getfield 20, 3) := by decide +kernel
theorem dX0_isWay_11 : decode cX0_isWay 11 = .ok (.iload_n 2, 1) := by decide +kernel
theorem dX0_isWay_12 : decode cX0_isWay 12 = .ok (.iaload, 1) := by decide +kernel
theorem dX0_isWay_13 : decode cX0_isWay 13 = .ok (.istore 4, 2) := by decide +kernel
theorem dX0_isWay_15 : decode cX0_isWay 15 = .ok (.aload_n 0, 1) := by decide +kernel
theorem dX0_isWay_16 : decode cX0_isWay 16 = .ok (.getfield 26, 3) := by decide +kernel
theorem dX0_isWay_19 : decode cX0_isWay 19 = .ok (.iload_n 1, 1) := by decide +kernel
theorem dX0_isWay_20 : decode cX0_isWay 20 = .ok (.baload, 1) := by decide +kernel
theorem dX0_isWay_21 : decode cX0_isWay 21 = .ok (.ifCond .ne 29, 3) := by decide +kernel
theorem dX0_isWay_24 : decode cX0_isWay 24 = .ok (.aload_n 0, 1) := by decide +kernel
theorem dX0_isWay_25 : decode cX0_isWay 25 = .ok (.getfield 26, 3) := by decide +kernel
theorem dX0_isWay_28 : decode cX0_isWay 28 = .ok (.iload_n 2, 1) := by decide +kernel
theorem dX0_isWay_29 : decode cX0_isWay 29 = .ok (.baload, 1) := by decide +kernel
theorem dX0_isWay_30 : decode cX0_isWay 30 = .ok (.ifCond .ne 18, 3) := by decide +kernel
theorem dX0_isWay_33 : decode cX0_isWay 33 = .ok (.aload_n 0, 1) := by decide +kernel
theorem dX0_isWay_34 : decode cX0_isWay 34 = .ok (.getfield 9, 3) := by decide +kernel
theorem dX0_isWay_37 : decode cX0_isWay 37 = .ok (.iload 4, 2) := by decide +kernel
theorem dX0_isWay_39 : decode cX0_isWay 39 = .ok (.iaload, 1) := by decide +kernel
theorem dX0_isWay_40 : decode cX0_isWay 40 = .ok (.iload_n 3, 1) := by decide +kernel
theorem dX0_isWay_41 : decode cX0_isWay 41 = .ok (.if_icmp .ne 7, 3) := by decide +kernel
theorem dX0_isWay_44 : decode cX0_isWay 44 = .ok (.iconst 1, 1) := by decide +kernel
theorem dX0_isWay_45 : decode cX0_isWay 45 = .ok (.goto 4, 3) := by decide +kernel
theorem dX0_isWay_48 : decode cX0_isWay 48 = .ok (.iconst 0, 1) := by decide +kernel
theorem dX0_isWay_49 : decode cX0_isWay 49 = .ok (.ireturn, 1) := by decide +kernel
theorem dX0_isWay_50 : decode cX0_isWay 50 = .ok (.aload_n 0, 1) := by decide +kernel
theorem dX0_isWay_51 : decode cX0_isWay 51 = .ok (.getfield 26, 3) := by decide +kernel
theorem dX0_isWay_54 : decode cX0_isWay 54 = .ok (.iload_n 2, 1) := by decide +kernel
theorem dX0_isWay_55 : decode cX0_isWay 55 = .ok (.baload, 1) := by decide +kernel
theorem dX0_isWay_56 : decode cX0_isWay 56 = .ok (.ifCond .eq 20, 3) := by decide +kernel
theorem dX0_isWay_59 : decode cX0_isWay 59 = .ok (.aload_n 0, 1) := by decide +kernel
theorem dX0_isWay_60 : decode cX0_isWay 60 = .ok (.getfield 9, 3) := by decide +kernel
theorem dX0_isWay_63 : decode cX0_isWay 63 = .ok (.iload_n 3, 1) := by decide +kernel
theorem dX0_isWay_64 : decode cX0_isWay 64 = .ok (.iaload, 1) := by decide +kernel
theorem dX0_isWay_65 : decode cX0_isWay 65 = .ok (.iload 4, 2) := by decide +kernel
theorem dX0_isWay_67 : decode cX0_isWay 67 = .ok (.if_icmp .ne 7, 3) := by decide +kernel
theorem dX0_isWay_70 : decode cX0_isWay 70 = .ok (.iconst 1, 1) := by decide +kernel
theorem dX0_isWay_71 : decode cX0_isWay 71 = .ok (.goto 4, 3) := by decide +kernel
theorem dX0_isWay_74 : decode cX0_isWay 74 = .ok (.iconst 0, 1) := by decide +kernel
theorem dX0_isWay_75 : decode cX0_isWay 75 = .ok (.ireturn, 1) := by decide +kernel
theorem dX0_isWay_76 : decode cX0_isWay 76 = .ok (.iload_n 3, 1) := by decide +kernel
theorem dX0_isWay_77 : decode cX0_isWay 77 = .ok (.iload 4, 2) := by decide +kernel
theorem dX0_isWay_79 : decode cX0_isWay 79 = .ok (.if_icmp .eq 23, 3) := by decide +kernel
theorem dX0_isWay_82 : decode cX0_isWay 82 = .ok (.aload_n 0, 1) := by decide +kernel
theorem dX0_isWay_83 : decode cX0_isWay 83 = .ok (.getfield 9, 3) := by decide +kernel
theorem dX0_isWay_86 : decode cX0_isWay 86 = .ok (.iload_n 3, 1) := by decide +kernel
theorem dX0_isWay_87 : decode cX0_isWay 87 = .ok (.iaload, 1) := by decide +kernel
theorem dX0_isWay_88 : decode cX0_isWay 88 = .ok (.aload_n 0, 1) := by decide +kernel
theorem dX0_isWay_89 : decode cX0_isWay 89 = .ok (.getfield 9, 3) := by decide +kernel
theorem dX0_isWay_92 : decode cX0_isWay 92 = .ok (.iload 4, 2) := by decide +kernel
theorem dX0_isWay_94 : decode cX0_isWay 94 = .ok (.iaload, 1) := by decide +kernel
theorem dX0_isWay_95 : decode cX0_isWay 95 = .ok (.if_icmp .ne 7, 3) := by decide +kernel
theorem dX0_isWay_98 : decode cX0_isWay 98 = .ok (.iconst 1, 1) := by decide +kernel
theorem dX0_isWay_99 : decode cX0_isWay 99 = .ok (.goto 4, 3) := by decide +kernel
theorem dX0_isWay_102 : decode cX0_isWay 102 = .ok (.iconst 0, 1) := by decide +kernel
theorem dX0_isWay_103 : decode cX0_isWay 103 = .ok (.ireturn, 1) := by decide +kernel
set_option maxRecDepth 20000 in
theorem ggX0_spreadReach_X0_bit : GoodIn wsX0_spreadReach wsX0_bit := goodIn_r _ [6] (by decide +kernel) (by decide +kernel)
set_option maxRecDepth 20000 in
theorem gX0_spreadReach_X0_bit : GoodIn wsX0_spreadReach (va_wsS RX0 96 yX0_bit wsX0_bit) := goodIn_app (goodIn_of _ (by decide +kernel)) ggX0_spreadReach_X0_bit
set_option maxRecDepth 20000 in
theorem ggX0_spreadReach_X0_holds : GoodIn wsX0_spreadReach wsX0_holds := goodIn_r _ [9, 3, 4, 5, 6] (by decide +kernel) (by decide +kernel)
set_option maxRecDepth 20000 in
theorem gX0_spreadReach_X0_holds : GoodIn wsX0_spreadReach (va_wsS RX0 92 yX0_holds wsX0_holds) := goodIn_app (goodIn_of _ (by decide +kernel)) ggX0_spreadReach_X0_holds
theorem dX0_spreadReach_0 : decode cX0_spreadReach 0 = .ok (.aload_n 0, 1) := by decide +kernel
theorem dX0_spreadReach_1 : decode cX0_spreadReach 1 = .ok (.getfield 54, 3) := by decide +kernel
theorem dX0_spreadReach_4 : decode cX0_spreadReach 4 = .ok (.iload_n 2, 1) := by decide +kernel
theorem dX0_spreadReach_5 : decode cX0_spreadReach 5 = .ok (.laload, 1) := by decide +kernel
theorem dX0_spreadReach_6 : decode cX0_spreadReach 6 = .ok (.iload_n 2, 1) := by decide +kernel
theorem dX0_spreadReach_7 : decode cX0_spreadReach 7 = .ok (.invokestatic 96, 3) := by decide +kernel
theorem dX0_spreadReach_10 : decode cX0_spreadReach 10 = .ok (.lor, 1) := by decide +kernel
theorem dX0_spreadReach_11 : decode cX0_spreadReach 11 = .ok (.lstore_n 3, 1) := by decide +kernel
theorem dX0_spreadReach_12 : decode cX0_spreadReach 12 = .ok (.iconst 1, 1) := by decide +kernel
theorem dX0_spreadReach_13 : decode cX0_spreadReach 13 = .ok (.istore 5, 2) := by decide +kernel
theorem dX0_spreadReach_15 : decode cX0_spreadReach 15 = .ok (.iload 5, 2) := by decide +kernel
theorem dX0_spreadReach_17 : decode cX0_spreadReach 17 = .ok (.aload_n 0, 1) := by decide +kernel
theorem dX0_spreadReach_18 : decode cX0_spreadReach 18 = .ok (.getfield 75, 3) := by decide +kernel
theorem dX0_spreadReach_21 : decode cX0_spreadReach 21 = .ok (.if_icmp .gt 40, 3) := by decide +kernel
theorem dX0_spreadReach_24 : decode cX0_spreadReach 24 = .ok (.iload 5, 2) := by decide +kernel
theorem dX0_spreadReach_26 : decode cX0_spreadReach 26 = .ok (.iload_n 1, 1) := by decide +kernel
theorem dX0_spreadReach_27 : decode cX0_spreadReach 27 = .ok (.if_icmp .eq 17, 3) := by decide +kernel
theorem dX0_spreadReach_30 : decode cX0_spreadReach 30 = .ok (.aload_n 0, 1) := by decide +kernel
theorem dX0_spreadReach_31 : decode cX0_spreadReach 31 = .ok (.getfield 54, 3) := by decide +kernel
theorem dX0_spreadReach_34 : decode cX0_spreadReach 34 = .ok (.iload 5, 2) := by decide +kernel
theorem dX0_spreadReach_36 : decode cX0_spreadReach 36 = .ok (.laload, 1) := by decide +kernel
theorem dX0_spreadReach_37 : decode cX0_spreadReach 37 = .ok (.iload_n 1, 1) := by decide +kernel
theorem dX0_spreadReach_38 : decode cX0_spreadReach 38 = .ok (.invokestatic 92, 3) := by decide +kernel
theorem dX0_spreadReach_41 : decode cX0_spreadReach 41 = .ok (.ifCond .eq 14, 3) := by decide +kernel
theorem dX0_spreadReach_44 : decode cX0_spreadReach 44 = .ok (.aload_n 0, 1) := by decide +kernel
theorem dX0_spreadReach_45 : decode cX0_spreadReach 45 = .ok (.getfield 54, 3) := by decide +kernel
theorem dX0_spreadReach_48 : decode cX0_spreadReach 48 = .ok (.iload 5, 2) := by decide +kernel
theorem dX0_spreadReach_50 : decode cX0_spreadReach 50 = .ok (.dup2, 1) := by decide +kernel
theorem dX0_spreadReach_51 : decode cX0_spreadReach 51 = .ok (.laload, 1) := by decide +kernel
theorem dX0_spreadReach_52 : decode cX0_spreadReach 52 = .ok (.lload_n 3, 1) := by decide +kernel
theorem dX0_spreadReach_53 : decode cX0_spreadReach 53 = .ok (.lor, 1) := by decide +kernel
theorem dX0_spreadReach_54 : decode cX0_spreadReach 54 = .ok (.lastore, 1) := by decide +kernel
theorem dX0_spreadReach_55 : decode cX0_spreadReach 55 = .ok (.iinc 5 1, 3) := by decide +kernel
theorem dX0_spreadReach_58 : decode cX0_spreadReach 58 = .ok (.goto (-43), 3) := by decide +kernel
theorem dX0_spreadReach_61 : decode cX0_spreadReach 61 = .ok (.return_, 1) := by decide +kernel
set_option maxRecDepth 20000 in
theorem ggX0_flatFrom_X0_holds : GoodIn wsX0_flatFrom wsX0_holds := goodIn_r _ [7, 8, 9, 6, 10] (by decide +kernel) (by decide +kernel)
set_option maxRecDepth 20000 in
theorem gX0_flatFrom_X0_holds : GoodIn wsX0_flatFrom (va_wsS RX0 92 yX0_holds wsX0_holds) := goodIn_app (goodIn_of _ (by decide +kernel)) ggX0_flatFrom_X0_holds
theorem dX0_flatFrom_0 : decode cX0_flatFrom 0 = .ok (.aload_n 0, 1) := by decide +kernel
theorem dX0_flatFrom_1 : decode cX0_flatFrom 1 = .ok (.getfield 146, 3) := by decide +kernel
theorem dX0_flatFrom_4 : decode cX0_flatFrom 4 = .ok (.iload_n 1, 1) := by decide +kernel
theorem dX0_flatFrom_5 : decode cX0_flatFrom 5 = .ok (.invokestatic 92, 3) := by decide +kernel
theorem dX0_flatFrom_8 : decode cX0_flatFrom 8 = .ok (.ifCond .eq 17, 3) := by decide +kernel
theorem dX0_flatFrom_11 : decode cX0_flatFrom 11 = .ok (.aload_n 0, 1) := by decide +kernel
theorem dX0_flatFrom_12 : decode cX0_flatFrom 12 = .ok (.getfield 54, 3) := by decide +kernel
theorem dX0_flatFrom_15 : decode cX0_flatFrom 15 = .ok (.iload_n 1, 1) := by decide +kernel
theorem dX0_flatFrom_16 : decode cX0_flatFrom 16 = .ok (.laload, 1) := by decide +kernel
theorem dX0_flatFrom_17 : decode cX0_flatFrom 17 = .ok (.aload_n 0, 1) := by decide +kernel
theorem dX0_flatFrom_18 : decode cX0_flatFrom 18 = .ok (.getfield 134, 3) := by decide +kernel
theorem dX0_flatFrom_21 : decode cX0_flatFrom 21 = .ok (.land, 1) := by decide +kernel
theorem dX0_flatFrom_22 : decode cX0_flatFrom 22 = .ok (.goto 4, 3) := by decide +kernel
theorem dX0_flatFrom_25 : decode cX0_flatFrom 25 = .ok (.lconst 0, 1) := by decide +kernel
theorem dX0_flatFrom_26 : decode cX0_flatFrom 26 = .ok (.lreturn, 1) := by decide +kernel
set_option maxRecDepth 20000 in
theorem ggX0_flatSeconds_X0_flatFrom : GoodIn wsX0_flatSeconds wsX0_flatFrom := goodIn_r _ [6, 7, 8, 9, 10, 11, 5, 12, 13, 14, 15, 16, 17, 18, 19, 20, 21, 22, 23, 24, 25, 26, 27, 28, 29, 30, 31, 32, 33, 34] (by decide +kernel) (by decide +kernel)
set_option maxRecDepth 20000 in
theorem gX0_flatSeconds_X0_flatFrom : GoodIn wsX0_flatSeconds (wsV RX0 104 RX0 yX0_flatFrom wsX0_flatFrom) := goodIn_app (goodIn_of _ (by decide +kernel)) ggX0_flatSeconds_X0_flatFrom
theorem dX0_flatSeconds_0 : decode cX0_flatSeconds 0 = .ok (.lconst 0, 1) := by decide +kernel
theorem dX0_flatSeconds_1 : decode cX0_flatSeconds 1 = .ok (.lstore_n 1, 1) := by decide +kernel
theorem dX0_flatSeconds_2 : decode cX0_flatSeconds 2 = .ok (.iconst 1, 1) := by decide +kernel
theorem dX0_flatSeconds_3 : decode cX0_flatSeconds 3 = .ok (.istore_n 3, 1) := by decide +kernel
theorem dX0_flatSeconds_4 : decode cX0_flatSeconds 4 = .ok (.iload_n 3, 1) := by decide +kernel
theorem dX0_flatSeconds_5 : decode cX0_flatSeconds 5 = .ok (.aload_n 0, 1) := by decide +kernel
theorem dX0_flatSeconds_6 : decode cX0_flatSeconds 6 = .ok (.getfield 75, 3) := by decide +kernel
theorem dX0_flatSeconds_9 : decode cX0_flatSeconds 9 = .ok (.if_icmp .gt 17, 3) := by decide +kernel
theorem dX0_flatSeconds_12 : decode cX0_flatSeconds 12 = .ok (.lload_n 1, 1) := by decide +kernel
theorem dX0_flatSeconds_13 : decode cX0_flatSeconds 13 = .ok (.aload_n 0, 1) := by decide +kernel
theorem dX0_flatSeconds_14 : decode cX0_flatSeconds 14 = .ok (.iload_n 3, 1) := by decide +kernel
theorem dX0_flatSeconds_15 : decode cX0_flatSeconds 15 = .ok (.invokevirtual 104, 3) := by decide +kernel
theorem dX0_flatSeconds_18 : decode cX0_flatSeconds 18 = .ok (.lor, 1) := by decide +kernel
theorem dX0_flatSeconds_19 : decode cX0_flatSeconds 19 = .ok (.lstore_n 1, 1) := by decide +kernel
theorem dX0_flatSeconds_20 : decode cX0_flatSeconds 20 = .ok (.iinc 3 1, 3) := by decide +kernel
theorem dX0_flatSeconds_23 : decode cX0_flatSeconds 23 = .ok (.goto (-19), 3) := by decide +kernel
theorem dX0_flatSeconds_26 : decode cX0_flatSeconds 26 = .ok (.lload_n 1, 1) := by decide +kernel
theorem dX0_flatSeconds_27 : decode cX0_flatSeconds 27 = .ok (.lreturn, 1) := by decide +kernel
set_option maxRecDepth 20000 in
theorem ggX0_flatCountTo_X0_flatFrom : GoodIn wsX0_flatCountTo wsX0_flatFrom := goodIn_r _ [6, 7, 8, 9, 10, 11, 5, 12, 13, 14, 15, 16, 17, 18, 19, 20, 21, 22, 23, 24, 25, 26, 27, 28, 29, 30, 31, 32, 33, 34] (by decide +kernel) (by decide +kernel)
set_option maxRecDepth 20000 in
theorem gX0_flatCountTo_X0_flatFrom : GoodIn wsX0_flatCountTo (wsV RX0 104 RX0 yX0_flatFrom wsX0_flatFrom) := goodIn_app (goodIn_of _ (by decide +kernel)) ggX0_flatCountTo_X0_flatFrom
set_option maxRecDepth 20000 in
theorem ggX0_flatCountTo_X0_holds : GoodIn wsX0_flatCountTo wsX0_holds := goodIn_r _ [12, 13, 14, 5, 15] (by decide +kernel) (by decide +kernel)
set_option maxRecDepth 20000 in
theorem gX0_flatCountTo_X0_holds : GoodIn wsX0_flatCountTo (va_wsS RX0 92 yX0_holds wsX0_holds) := goodIn_app (goodIn_of _ (by decide +kernel)) ggX0_flatCountTo_X0_holds
theorem dX0_flatCountTo_0 : decode cX0_flatCountTo 0 = .ok (.iconst 0, 1) := by decide +kernel
theorem dX0_flatCountTo_1 : decode cX0_flatCountTo 1 = .ok (.istore_n 2, 1) := by decide +kernel
theorem dX0_flatCountTo_2 : decode cX0_flatCountTo 2 = .ok (.iconst 1, 1) := by decide +kernel
theorem dX0_flatCountTo_3 : decode cX0_flatCountTo 3 = .ok (.istore_n 3, 1) := by decide +kernel
theorem dX0_flatCountTo_4 : decode cX0_flatCountTo 4 = .ok (.iload_n 3, 1) := by decide +kernel
theorem dX0_flatCountTo_5 : decode cX0_flatCountTo 5 = .ok (.aload_n 0, 1) := by decide +kernel
theorem dX0_flatCountTo_6 : decode cX0_flatCountTo 6 = .ok (.getfield 75, 3) := by decide +kernel
theorem dX0_flatCountTo_9 : decode cX0_flatCountTo 9 = .ok (.if_icmp .gt 24, 3) := by decide +kernel
theorem dX0_flatCountTo_12 : decode cX0_flatCountTo 12 = .ok (.aload_n 0, 1) := by decide +kernel
theorem dX0_flatCountTo_13 : decode cX0_flatCountTo 13 = .ok (.iload_n 3, 1) := by decide +kernel
theorem dX0_flatCountTo_14 : decode cX0_flatCountTo 14 = .ok (.invokevirtual 104, 3) := by decide +kernel
theorem dX0_flatCountTo_17 : decode cX0_flatCountTo 17 = .ok (.iload_n 1, 1) := by decide +kernel
theorem dX0_flatCountTo_18 : decode cX0_flatCountTo 18 = .ok (.invokestatic 92, 3) := by decide +kernel
theorem dX0_flatCountTo_21 : decode cX0_flatCountTo 21 = .ok (.ifCond .eq 6, 3) := by decide +kernel
theorem dX0_flatCountTo_24 : decode cX0_flatCountTo 24 = .ok (.iinc 2 1, 3) := by decide +kernel
theorem dX0_flatCountTo_27 : decode cX0_flatCountTo 27 = .ok (.iinc 3 1, 3) := by decide +kernel
theorem dX0_flatCountTo_30 : decode cX0_flatCountTo 30 = .ok (.goto (-26), 3) := by decide +kernel
theorem dX0_flatCountTo_33 : decode cX0_flatCountTo 33 = .ok (.iload_n 2, 1) := by decide +kernel
theorem dX0_flatCountTo_34 : decode cX0_flatCountTo 34 = .ok (.ireturn, 1) := by decide +kernel
theorem dX0_isPortRule_0 : decode cX0_isPortRule 0 = .ok (.iload_n 0, 1) := by decide +kernel
theorem dX0_isPortRule_1 : decode cX0_isPortRule 1 = .ok (.iconst 5, 1) := by decide +kernel
theorem dX0_isPortRule_2 : decode cX0_isPortRule 2 = .ok (.if_icmp .lt 13, 3) := by decide +kernel
theorem dX0_isPortRule_5 : decode cX0_isPortRule 5 = .ok (.iload_n 0, 1) := by decide +kernel
theorem dX0_isPortRule_6 : decode cX0_isPortRule 6 = .ok (.bipush 8, 2) := by decide +kernel
theorem dX0_isPortRule_8 : decode cX0_isPortRule 8 = .ok (.if_icmp .gt 7, 3) := by decide +kernel
theorem dX0_isPortRule_11 : decode cX0_isPortRule 11 = .ok (.iconst 1, 1) := by decide +kernel
theorem dX0_isPortRule_12 : decode cX0_isPortRule 12 = .ok (.goto 4, 3) := by decide +kernel
theorem dX0_isPortRule_15 : decode cX0_isPortRule 15 = .ok (.iconst 0, 1) := by decide +kernel
theorem dX0_isPortRule_16 : decode cX0_isPortRule 16 = .ok (.ireturn, 1) := by decide +kernel
set_option maxRecDepth 20000 in
theorem ggX0_firstBadPort_X0_holds : GoodIn wsX0_firstBadPort wsX0_holds := goodIn_r _ [6, 7, 8, 5, 9] (by decide +kernel) (by decide +kernel)
set_option maxRecDepth 20000 in
theorem gX0_firstBadPort_X0_holds : GoodIn wsX0_firstBadPort (va_wsS RX0 92 yX0_holds wsX0_holds) := goodIn_app (goodIn_of _ (by decide +kernel)) ggX0_firstBadPort_X0_holds
set_option maxRecDepth 20000 in
theorem ggX0_firstBadPort_X0_portBreaks : GoodIn wsX0_firstBadPort wsX0_portBreaks := goodIn_r _ [13, 14, 15, 16, 17, 18, 19, 5, 20, 1, 21, 22, 23, 24, 25, 26, 2, 3, 4, 6, 7, 8, 9, 27, 28, 29, 30, 31, 32, 33, 34, 35, 36, 37, 38, 39, 40, 41, 42, 43, 44, 45] (by decide +kernel) (by decide +kernel)
set_option maxRecDepth 20000 in
theorem gX0_firstBadPort_X0_portBreaks : GoodIn wsX0_firstBadPort (wsV RX0 149 RX0 yX0_portBreaks wsX0_portBreaks) := goodIn_app (goodIn_of _ (by decide +kernel)) ggX0_firstBadPort_X0_portBreaks
theorem dX0_firstBadPort_0 : decode cX0_firstBadPort 0 = .ok (.iconst 1, 1) := by decide +kernel
theorem dX0_firstBadPort_1 : decode cX0_firstBadPort 1 = .ok (.istore_n 2, 1) := by decide +kernel
theorem dX0_firstBadPort_2 : decode cX0_firstBadPort 2 = .ok (.iload_n 2, 1) := by decide +kernel
theorem dX0_firstBadPort_3 : decode cX0_firstBadPort 3 = .ok (.aload_n 0, 1) := by decide +kernel
theorem dX0_firstBadPort_4 : decode cX0_firstBadPort 4 = .ok (.getfield 75, 3) := by decide +kernel
theorem dX0_firstBadPort_7 : decode cX0_firstBadPort 7 = .ok (.if_icmp .gt 31, 3) := by decide +kernel
theorem dX0_firstBadPort_10 : decode cX0_firstBadPort 10 = .ok (.aload_n 0, 1) := by decide +kernel
theorem dX0_firstBadPort_11 : decode cX0_firstBadPort 11 = .ok (.getfield 134, 3) := by decide +kernel
theorem dX0_firstBadPort_14 : decode cX0_firstBadPort 14 = .ok (.iload_n 2, 1) := by decide +kernel
theorem dX0_firstBadPort_15 : decode cX0_firstBadPort 15 = .ok (.invokestatic 92, 3) := by decide +kernel
theorem dX0_firstBadPort_18 : decode cX0_firstBadPort 18 = .ok (.ifCond .eq 14, 3) := by decide +kernel
theorem dX0_firstBadPort_21 : decode cX0_firstBadPort 21 = .ok (.aload_n 0, 1) := by decide +kernel
theorem dX0_firstBadPort_22 : decode cX0_firstBadPort 22 = .ok (.iload_n 1, 1) := by decide +kernel
theorem dX0_firstBadPort_23 : decode cX0_firstBadPort 23 = .ok (.iload_n 2, 1) := by decide +kernel
theorem dX0_firstBadPort_24 : decode cX0_firstBadPort 24 = .ok (.invokevirtual 149, 3) := by decide +kernel
theorem dX0_firstBadPort_27 : decode cX0_firstBadPort 27 = .ok (.ifCond .eq 5, 3) := by decide +kernel
theorem dX0_firstBadPort_30 : decode cX0_firstBadPort 30 = .ok (.iload_n 2, 1) := by decide +kernel
theorem dX0_firstBadPort_31 : decode cX0_firstBadPort 31 = .ok (.ireturn, 1) := by decide +kernel
theorem dX0_firstBadPort_32 : decode cX0_firstBadPort 32 = .ok (.iinc 2 1, 3) := by decide +kernel
theorem dX0_firstBadPort_35 : decode cX0_firstBadPort 35 = .ok (.goto (-33), 3) := by decide +kernel
theorem dX0_firstBadPort_38 : decode cX0_firstBadPort 38 = .ok (.iconst 0, 1) := by decide +kernel
theorem dX0_firstBadPort_39 : decode cX0_firstBadPort 39 = .ok (.ireturn, 1) := by decide +kernel
set_option maxRecDepth 20000 in
theorem ggX0_portBreaks_X0_flatCountTo : GoodIn wsX0_portBreaks wsX0_flatCountTo := goodIn_r _ [8, 9, 10, 11, 12, 7, 13, 14, 15, 16, 17, 18, 19, 20, 21, 22, 23, 24, 25, 26, 27, 28, 29, 30, 31, 32, 33, 34, 35, 36, 37, 38, 39, 40, 41] (by decide +kernel) (by decide +kernel)
set_option maxRecDepth 20000 in
theorem gX0_portBreaks_X0_flatCountTo : GoodIn wsX0_portBreaks (wsV RX0 152 RX0 yX0_flatCountTo wsX0_flatCountTo) := goodIn_app (goodIn_of _ (by decide +kernel)) ggX0_portBreaks_X0_flatCountTo
theorem dX0_portBreaks_0 : decode cX0_portBreaks 0 = .ok (.aload_n 0, 1) := by decide +kernel
theorem dX0_portBreaks_1 : decode cX0_portBreaks 1 = .ok (.getfield 23, 3) := by decide +kernel
theorem dX0_portBreaks_4 : decode cX0_portBreaks 4 = .ok (.iload_n 2, 1) := by decide +kernel
theorem dX0_portBreaks_5 : decode cX0_portBreaks 5 = .ok (.iaload, 1) := by decide +kernel
theorem dX0_portBreaks_6 : decode cX0_portBreaks 6 = .ok (.iconst 2, 1) := by decide +kernel
theorem dX0_portBreaks_7 : decode cX0_portBreaks 7 = .ok (.if_icmp .ne 7, 3) := by decide +kernel
theorem dX0_portBreaks_10 : decode cX0_portBreaks 10 = .ok (.iconst 1, 1) := by decide +kernel
theorem dX0_portBreaks_11 : decode cX0_portBreaks 11 = .ok (.goto 4, 3) := by decide +kernel
theorem dX0_portBreaks_14 : decode cX0_portBreaks 14 = .ok (.iconst 0, 1) := by decide +kernel
theorem dX0_portBreaks_15 : decode cX0_portBreaks 15 = .ok (.istore_n 3, 1) := by decide +kernel
theorem dX0_portBreaks_16 : decode cX0_portBreaks 16 = .ok (.iload_n 1, 1) := by decide +kernel
theorem dX0_portBreaks_17 : decode cX0_portBreaks 17 = .ok (.tableswitch 91 5 7 #[27, 54, 72], 27) := by decide +kernel
theorem dX0_portBreaks_44 : decode cX0_portBreaks 44 = .ok (.iload_n 3, 1) := by decide +kernel
theorem dX0_portBreaks_45 : decode cX0_portBreaks 45 = .ok (.ifCond .ne 24, 3) := by decide +kernel
theorem dX0_portBreaks_48 : decode cX0_portBreaks 48 = .ok (.aload_n 0, 1) := by decide +kernel
theorem dX0_portBreaks_49 : decode cX0_portBreaks 49 = .ok (.getfield 42, 3) := by decide +kernel
theorem dX0_portBreaks_52 : decode cX0_portBreaks 52 = .ok (.iload_n 2, 1) := by decide +kernel
theorem dX0_portBreaks_53 : decode cX0_portBreaks 53 = .ok (.baload, 1) := by decide +kernel
theorem dX0_portBreaks_54 : decode cX0_portBreaks 54 = .ok (.ifCond .ne 15, 3) := by decide +kernel
theorem dX0_portBreaks_57 : decode cX0_portBreaks 57 = .ok (.aload_n 0, 1) := by decide +kernel
theorem dX0_portBreaks_58 : decode cX0_portBreaks 58 = .ok (.iload_n 2, 1) := by decide +kernel
theorem dX0_portBreaks_59 : decode cX0_portBreaks 59 = .ok (.invokevirtual 152, 3) := by decide +kernel
theorem dX0_portBreaks_62 : decode cX0_portBreaks 62 = .ok (.ifCond .ne 7, 3) := by decide +kernel
theorem dX0_portBreaks_65 : decode cX0_portBreaks 65 = .ok (.iconst 1, 1) := by decide +kernel
theorem dX0_portBreaks_66 : decode cX0_portBreaks 66 = .ok (.goto 4, 3) := by decide +kernel
theorem dX0_portBreaks_69 : decode cX0_portBreaks 69 = .ok (.iconst 0, 1) := by decide +kernel
theorem dX0_portBreaks_70 : decode cX0_portBreaks 70 = .ok (.ireturn, 1) := by decide +kernel
theorem dX0_portBreaks_71 : decode cX0_portBreaks 71 = .ok (.iload_n 3, 1) := by decide +kernel
theorem dX0_portBreaks_72 : decode cX0_portBreaks 72 = .ok (.ifCond .eq 15, 3) := by decide +kernel
theorem dX0_portBreaks_75 : decode cX0_portBreaks 75 = .ok (.aload_n 0, 1) := by decide +kernel
theorem dX0_portBreaks_76 : decode cX0_portBreaks 76 = .ok (.iload_n 2, 1) := by decide +kernel
theorem dX0_portBreaks_77 : decode cX0_portBreaks 77 = .ok (.invokevirtual 152, 3) := by decide +kernel
theorem dX0_portBreaks_80 : decode cX0_portBreaks 80 = .ok (.ifCond .ne 7, 3) := by decide +kernel
theorem dX0_portBreaks_83 : decode cX0_portBreaks 83 = .ok (.iconst 1, 1) := by decide +kernel
theorem dX0_portBreaks_84 : decode cX0_portBreaks 84 = .ok (.goto 4, 3) := by decide +kernel
theorem dX0_portBreaks_87 : decode cX0_portBreaks 87 = .ok (.iconst 0, 1) := by decide +kernel
theorem dX0_portBreaks_88 : decode cX0_portBreaks 88 = .ok (.ireturn, 1) := by decide +kernel
theorem dX0_portBreaks_89 : decode cX0_portBreaks 89 = .ok (.iload_n 3, 1) := by decide +kernel
theorem dX0_portBreaks_90 : decode cX0_portBreaks 90 = .ok (.ifCond .eq 16, 3) := by decide +kernel
theorem dX0_portBreaks_93 : decode cX0_portBreaks 93 = .ok (.aload_n 0, 1) := by decide +kernel
theorem dX0_portBreaks_94 : decode cX0_portBreaks 94 = .ok (.iload_n 2, 1) := by decide +kernel
theorem dX0_portBreaks_95 : decode cX0_portBreaks 95 = .ok (.invokevirtual 152, 3) := by decide +kernel
theorem dX0_portBreaks_98 : decode cX0_portBreaks 98 = .ok (.iconst 1, 1) := by decide +kernel
theorem dX0_portBreaks_99 : decode cX0_portBreaks 99 = .ok (.if_icmp .le 7, 3) := by decide +kernel
theorem dX0_portBreaks_102 : decode cX0_portBreaks 102 = .ok (.iconst 1, 1) := by decide +kernel
theorem dX0_portBreaks_103 : decode cX0_portBreaks 103 = .ok (.goto 4, 3) := by decide +kernel
theorem dX0_portBreaks_106 : decode cX0_portBreaks 106 = .ok (.iconst 0, 1) := by decide +kernel
theorem dX0_portBreaks_107 : decode cX0_portBreaks 107 = .ok (.ireturn, 1) := by decide +kernel
theorem dX0_portBreaks_108 : decode cX0_portBreaks 108 = .ok (.aload_n 0, 1) := by decide +kernel
theorem dX0_portBreaks_109 : decode cX0_portBreaks 109 = .ok (.getfield 23, 3) := by decide +kernel
theorem dX0_portBreaks_112 : decode cX0_portBreaks 112 = .ok (.iload_n 2, 1) := by decide +kernel
theorem dX0_portBreaks_113 : decode cX0_portBreaks 113 = .ok (.iaload, 1) := by decide +kernel
theorem dX0_portBreaks_114 : decode cX0_portBreaks 114 = .ok (.iconst 1, 1) := by decide +kernel
theorem dX0_portBreaks_115 : decode cX0_portBreaks 115 = .ok (.if_icmp .ne 16, 3) := by decide +kernel
theorem dX0_portBreaks_118 : decode cX0_portBreaks 118 = .ok (.aload_n 0, 1) := by decide +kernel
theorem dX0_portBreaks_119 : decode cX0_portBreaks 119 = .ok (.getfield 48, 3) := by decide +kernel
theorem dX0_portBreaks_122 : decode cX0_portBreaks 122 = .ok (.iload_n 2, 1) := by decide +kernel
theorem dX0_portBreaks_123 : decode cX0_portBreaks 123 = .ok (.iaload, 1) := by decide +kernel
theorem dX0_portBreaks_124 : decode cX0_portBreaks 124 = .ok (.ifCond .ne 7, 3) := by decide +kernel
theorem dX0_portBreaks_127 : decode cX0_portBreaks 127 = .ok (.iconst 1, 1) := by decide +kernel
theorem dX0_portBreaks_128 : decode cX0_portBreaks 128 = .ok (.goto 4, 3) := by decide +kernel
theorem dX0_portBreaks_131 : decode cX0_portBreaks 131 = .ok (.iconst 0, 1) := by decide +kernel
theorem dX0_portBreaks_132 : decode cX0_portBreaks 132 = .ok (.ireturn, 1) := by decide +kernel
set_option maxRecDepth 20000 in
theorem ggX0_firstBadConnector_X0_flatFrom : GoodIn wsX0_firstBadConnector wsX0_flatFrom := goodIn_r _ [6, 7, 8, 9, 10, 11, 5, 12, 13, 14, 15, 39, 40, 41, 42, 43, 44, 45, 46, 47, 48, 49, 50, 51, 52, 53, 54, 55, 56, 57] (by decide +kernel) (by decide +kernel)
set_option maxRecDepth 20000 in
theorem gX0_firstBadConnector_X0_flatFrom : GoodIn wsX0_firstBadConnector (wsV RX0 104 RX0 yX0_flatFrom wsX0_flatFrom) := goodIn_app (goodIn_of _ (by decide +kernel)) ggX0_firstBadConnector_X0_flatFrom
set_option maxRecDepth 20000 in
theorem ggX0_firstBadConnector_X0_holds : GoodIn wsX0_firstBadConnector wsX0_holds := goodIn_r _ [12, 13, 14, 5, 15] (by decide +kernel) (by decide +kernel)
set_option maxRecDepth 20000 in
theorem gX0_firstBadConnector_X0_holds : GoodIn wsX0_firstBadConnector (va_wsS RX0 92 yX0_holds wsX0_holds) := goodIn_app (goodIn_of _ (by decide +kernel)) ggX0_firstBadConnector_X0_holds
set_option maxRecDepth 20000 in
theorem ggX0_firstBadConnector_X0_connectorBreaks : GoodIn wsX0_firstBadConnector wsX0_connectorBreaks := goodIn_r _ [19, 20, 21, 22, 23, 24, 25, 26, 5, 27, 28, 29, 30, 31, 32, 33, 34, 35, 36, 37, 38, 39, 40, 41, 42, 43, 44, 45, 46, 47, 48, 49, 50, 51, 52, 53, 54, 55, 56, 57] (by decide +kernel) (by decide +kernel)
set_option maxRecDepth 20000 in
theorem gX0_firstBadConnector_X0_connectorBreaks : GoodIn wsX0_firstBadConnector (wsV RX0 155 RX0 yX0_connectorBreaks wsX0_connectorBreaks) := goodIn_app (goodIn_of _ (by decide +kernel)) ggX0_firstBadConnector_X0_connectorBreaks
theorem dX0_firstBadConnector_0 : decode cX0_firstBadConnector 0 = .ok (.iconst 1, 1) := by decide +kernel
theorem dX0_firstBadConnector_1 : decode cX0_firstBadConnector 1 = .ok (.istore_n 2, 1) := by decide +kernel
theorem dX0_firstBadConnector_2 : decode cX0_firstBadConnector 2 = .ok (.iload_n 2, 1) := by decide +kernel
theorem dX0_firstBadConnector_3 : decode cX0_firstBadConnector 3 = .ok (.aload_n 0, 1) := by decide +kernel
theorem dX0_firstBadConnector_4 : decode cX0_firstBadConnector 4 = .ok (.getfield 75, 3) := by decide +kernel
theorem dX0_firstBadConnector_7 : decode cX0_firstBadConnector 7 = .ok (.if_icmp .gt 56, 3) := by decide +kernel
theorem dX0_firstBadConnector_10 : decode cX0_firstBadConnector 10 = .ok (.aload_n 0, 1) := by decide +kernel
theorem dX0_firstBadConnector_11 : decode cX0_firstBadConnector 11 = .ok (.iload_n 2, 1) := by decide +kernel
theorem dX0_firstBadConnector_12 : decode cX0_firstBadConnector 12 = .ok (.invokevirtual 104, 3) := by decide +kernel
theorem dX0_firstBadConnector_15 : decode cX0_firstBadConnector 15 = .ok (.lstore_n 3, 1) := by decide +kernel
theorem dX0_firstBadConnector_16 : decode cX0_firstBadConnector 16 = .ok (.iconst 1, 1) := by decide +kernel
theorem dX0_firstBadConnector_17 : decode cX0_firstBadConnector 17 = .ok (.istore 5, 2) := by decide +kernel
theorem dX0_firstBadConnector_19 : decode cX0_firstBadConnector 19 = .ok (.iload 5, 2) := by decide +kernel
theorem dX0_firstBadConnector_21 : decode cX0_firstBadConnector 21 = .ok (.aload_n 0, 1) := by decide +kernel
theorem dX0_firstBadConnector_22 : decode cX0_firstBadConnector 22 = .ok (.getfield 75, 3) := by decide +kernel
theorem dX0_firstBadConnector_25 : decode cX0_firstBadConnector 25 = .ok (.if_icmp .gt 32, 3) := by decide +kernel
theorem dX0_firstBadConnector_28 : decode cX0_firstBadConnector 28 = .ok (.lload_n 3, 1) := by decide +kernel
theorem dX0_firstBadConnector_29 : decode cX0_firstBadConnector 29 = .ok (.iload 5, 2) := by decide +kernel
theorem dX0_firstBadConnector_31 : decode cX0_firstBadConnector 31 = .ok (.invokestatic 92, 3) := by decide +kernel
theorem dX0_firstBadConnector_34 : decode cX0_firstBadConnector 34 = .ok (.ifCond .eq 17, 3) := by decide +kernel
theorem dX0_firstBadConnector_37 : decode cX0_firstBadConnector 37 = .ok (.aload_n 0, 1) := by decide +kernel
theorem dX0_firstBadConnector_38 : decode cX0_firstBadConnector 38 = .ok (.iload_n 1, 1) := by decide +kernel
theorem dX0_firstBadConnector_39 : decode cX0_firstBadConnector 39 = .ok (.iload_n 2, 1) := by decide +kernel
theorem dX0_firstBadConnector_40 : decode cX0_firstBadConnector 40 = .ok (.iload 5, 2) := by decide +kernel
theorem dX0_firstBadConnector_42 : decode cX0_firstBadConnector 42 = .ok (.invokevirtual 155, 3) := by decide +kernel
theorem dX0_firstBadConnector_45 : decode cX0_firstBadConnector 45 = .ok (.ifCond .eq 6, 3) := by decide +kernel
theorem dX0_firstBadConnector_48 : decode cX0_firstBadConnector 48 = .ok (.iload 5, 2) := by decide +kernel
theorem dX0_firstBadConnector_50 : decode cX0_firstBadConnector 50 = .ok (.ireturn, 1) := by decide +kernel
theorem dX0_firstBadConnector_51 : decode cX0_firstBadConnector 51 = .ok (.iinc 5 1, 3) := by decide +kernel
theorem dX0_firstBadConnector_54 : decode cX0_firstBadConnector 54 = .ok (.goto (-35), 3) := by decide +kernel
theorem dX0_firstBadConnector_57 : decode cX0_firstBadConnector 57 = .ok (.iinc 2 1, 3) := by decide +kernel
theorem dX0_firstBadConnector_60 : decode cX0_firstBadConnector 60 = .ok (.goto (-58), 3) := by decide +kernel
theorem dX0_firstBadConnector_63 : decode cX0_firstBadConnector 63 = .ok (.iconst 0, 1) := by decide +kernel
theorem dX0_firstBadConnector_64 : decode cX0_firstBadConnector 64 = .ok (.ireturn, 1) := by decide +kernel
set_option maxRecDepth 20000 in
theorem ggX0_connectorBreaks_X0_isExactScaling : GoodIn wsX0_connectorBreaks wsX0_isExactScaling := goodIn_r _ [9, 10, 11, 21, 22, 23, 24, 25, 26, 27, 28, 29, 30, 31, 32, 33, 34, 35, 36, 37, 38, 39] (by decide +kernel) (by decide +kernel)
set_option maxRecDepth 20000 in
theorem gX0_connectorBreaks_X0_isExactScaling : GoodIn wsX0_connectorBreaks (wsV RX0 159 RX0 yX0_isExactScaling wsX0_isExactScaling) := goodIn_app (goodIn_of _ (by decide +kernel)) ggX0_connectorBreaks_X0_isExactScaling
set_option maxRecDepth 20000 in
theorem ggX0_connectorBreaks_X0_servesVersion : GoodIn wsX0_connectorBreaks wsX0_servesVersion := goodIn_r _ [15, 2, 21, 22, 23, 24, 25, 26, 27, 28, 29, 30, 31, 32, 33, 34, 35, 36, 37, 38, 39] (by decide +kernel) (by decide +kernel)
set_option maxRecDepth 20000 in
theorem gX0_connectorBreaks_X0_servesVersion : GoodIn wsX0_connectorBreaks (wsV RX0 162 RX0 yX0_servesVersion wsX0_servesVersion) := goodIn_app (goodIn_of _ (by decide +kernel)) ggX0_connectorBreaks_X0_servesVersion
set_option maxRecDepth 20000 in
theorem ggX0_connectorBreaks_X0_managesMode : GoodIn wsX0_connectorBreaks wsX0_managesMode := goodIn_r _ [19, 20, 21, 22, 23, 24, 25, 26, 27, 28, 29, 30, 31, 32, 33, 34, 35, 36, 37, 38, 39] (by decide +kernel) (by decide +kernel)
set_option maxRecDepth 20000 in
theorem gX0_connectorBreaks_X0_managesMode : GoodIn wsX0_connectorBreaks (wsV RX0 165 RX0 yX0_managesMode wsX0_managesMode) := goodIn_app (goodIn_of _ (by decide +kernel)) ggX0_connectorBreaks_X0_managesMode
theorem dX0_connectorBreaks_0 : decode cX0_connectorBreaks 0 = .ok (.iload_n 1, 1) := by decide +kernel
theorem dX0_connectorBreaks_1 : decode cX0_connectorBreaks 1 = .ok (.tableswitch 141 1 4 #[31, 70, 91, 116], 31) := by decide +kernel
theorem dX0_connectorBreaks_32 : decode cX0_connectorBreaks 32 = .ok (.aload_n 0, 1) := by decide +kernel
theorem dX0_connectorBreaks_33 : decode cX0_connectorBreaks 33 = .ok (.getfield 29, 3) := by decide +kernel
theorem dX0_connectorBreaks_36 : decode cX0_connectorBreaks 36 = .ok (.iload_n 2, 1) := by decide +kernel
theorem dX0_connectorBreaks_37 : decode cX0_connectorBreaks 37 = .ok (.iaload, 1) := by decide +kernel
theorem dX0_connectorBreaks_38 : decode cX0_connectorBreaks 38 = .ok (.iconst (-1), 1) := by decide +kernel
theorem dX0_connectorBreaks_39 : decode cX0_connectorBreaks 39 = .ok (.if_icmp .ne 7, 3) := by decide +kernel
theorem dX0_connectorBreaks_42 : decode cX0_connectorBreaks 42 = .ok (.iconst 1, 1) := by decide +kernel
theorem dX0_connectorBreaks_43 : decode cX0_connectorBreaks 43 = .ok (.goto 4, 3) := by decide +kernel
theorem dX0_connectorBreaks_46 : decode cX0_connectorBreaks 46 = .ok (.iconst 0, 1) := by decide +kernel
theorem dX0_connectorBreaks_47 : decode cX0_connectorBreaks 47 = .ok (.aload_n 0, 1) := by decide +kernel
theorem dX0_connectorBreaks_48 : decode cX0_connectorBreaks 48 = .ok (.getfield 29, 3) := by decide +kernel
theorem dX0_connectorBreaks_51 : decode cX0_connectorBreaks 51 = .ok (.iload_n 3, 1) := by decide +kernel
theorem dX0_connectorBreaks_52 : decode cX0_connectorBreaks 52 = .ok (.iaload, 1) := by decide +kernel
theorem dX0_connectorBreaks_53 : decode cX0_connectorBreaks 53 = .ok (.iconst (-1), 1) := by decide +kernel
theorem dX0_connectorBreaks_54 : decode cX0_connectorBreaks 54 = .ok (.if_icmp .ne 7, 3) := by decide +kernel
theorem dX0_connectorBreaks_57 : decode cX0_connectorBreaks 57 = .ok (.iconst 1, 1) := by decide +kernel
theorem dX0_connectorBreaks_58 : decode cX0_connectorBreaks 58 = .ok (.goto 4, 3) := by decide +kernel
theorem dX0_connectorBreaks_61 : decode cX0_connectorBreaks 61 = .ok (.iconst 0, 1) := by decide +kernel
theorem dX0_connectorBreaks_62 : decode cX0_connectorBreaks 62 = .ok (.if_icmp .eq 7, 3) := by decide +kernel
theorem dX0_connectorBreaks_65 : decode cX0_connectorBreaks 65 = .ok (.iconst 1, 1) := by decide +kernel
theorem dX0_connectorBreaks_66 : decode cX0_connectorBreaks 66 = .ok (.goto 4, 3) := by decide +kernel
theorem dX0_connectorBreaks_69 : decode cX0_connectorBreaks 69 = .ok (.iconst 0, 1) := by decide +kernel
theorem dX0_connectorBreaks_70 : decode cX0_connectorBreaks 70 = .ok (.ireturn, 1) := by decide +kernel
theorem dX0_connectorBreaks_71 : decode cX0_connectorBreaks 71 = .ok (.aload_n 0, 1) := by decide +kernel
theorem dX0_connectorBreaks_72 : decode cX0_connectorBreaks 72 = .ok (.getfield 29, 3) := by decide +kernel
theorem dX0_connectorBreaks_75 : decode cX0_connectorBreaks 75 = .ok (.iload_n 2, 1) := by decide +kernel
theorem dX0_connectorBreaks_76 : decode cX0_connectorBreaks 76 = .ok (.iaload, 1) := by decide +kernel
theorem dX0_connectorBreaks_77 : decode cX0_connectorBreaks 77 = .ok (.aload_n 0, 1) := by decide +kernel
theorem dX0_connectorBreaks_78 : decode cX0_connectorBreaks 78 = .ok (.getfield 29, 3) := by decide +kernel
theorem dX0_connectorBreaks_81 : decode cX0_connectorBreaks 81 = .ok (.iload_n 3, 1) := by decide +kernel
theorem dX0_connectorBreaks_82 : decode cX0_connectorBreaks 82 = .ok (.iaload, 1) := by decide +kernel
theorem dX0_connectorBreaks_83 : decode cX0_connectorBreaks 83 = .ok (.if_icmp .eq 7, 3) := by decide +kernel
theorem dX0_connectorBreaks_86 : decode cX0_connectorBreaks 86 = .ok (.iconst 1, 1) := by decide +kernel
theorem dX0_connectorBreaks_87 : decode cX0_connectorBreaks 87 = .ok (.goto 4, 3) := by decide +kernel
theorem dX0_connectorBreaks_90 : decode cX0_connectorBreaks 90 = .ok (.iconst 0, 1) := by decide +kernel
theorem dX0_connectorBreaks_91 : decode cX0_connectorBreaks 91 = .ok (.ireturn, 1) := by decide +kernel
theorem dX0_connectorBreaks_92 : decode cX0_connectorBreaks 92 = .ok (.aload_n 0, 1) := by decide +kernel
theorem dX0_connectorBreaks_93 : decode cX0_connectorBreaks 93 = .ok (.getfield 29, 3) := by decide +kernel
theorem dX0_connectorBreaks_96 : decode cX0_connectorBreaks 96 = .ok (.iload_n 2, 1) := by decide +kernel
theorem dX0_connectorBreaks_97 : decode cX0_connectorBreaks 97 = .ok (.iaload, 1) := by decide +kernel
theorem dX0_connectorBreaks_98 : decode cX0_connectorBreaks 98 = .ok (.iconst (-1), 1) := by decide +kernel
theorem dX0_connectorBreaks_99 : decode cX0_connectorBreaks 99 = .ok (.if_icmp .eq 16, 3) := by decide +kernel
theorem dX0_connectorBreaks_102 : decode cX0_connectorBreaks 102 = .ok (.aload_n 0, 1) := by decide +kernel
theorem dX0_connectorBreaks_103 : decode cX0_connectorBreaks 103 = .ok (.iload_n 2, 1) := by decide +kernel
theorem dX0_connectorBreaks_104 : decode cX0_connectorBreaks 104 = .ok (.iload_n 3, 1) := by decide +kernel
theorem dX0_connectorBreaks_105 : decode cX0_connectorBreaks 105 = .ok (.invokevirtual 159, 3) := by decide +kernel
theorem dX0_connectorBreaks_108 : decode cX0_connectorBreaks 108 = .ok (.ifCond .ne 7, 3) := by decide +kernel
theorem dX0_connectorBreaks_111 : decode cX0_connectorBreaks 111 = .ok (.iconst 1, 1) := by decide +kernel
theorem dX0_connectorBreaks_112 : decode cX0_connectorBreaks 112 = .ok (.goto 4, 3) := by decide +kernel
theorem dX0_connectorBreaks_115 : decode cX0_connectorBreaks 115 = .ok (.iconst 0, 1) := by decide +kernel
theorem dX0_connectorBreaks_116 : decode cX0_connectorBreaks 116 = .ok (.ireturn, 1) := by decide +kernel
theorem dX0_connectorBreaks_117 : decode cX0_connectorBreaks 117 = .ok (.aload_n 0, 1) := by decide +kernel
theorem dX0_connectorBreaks_118 : decode cX0_connectorBreaks 118 = .ok (.getfield 39, 3) := by decide +kernel
theorem dX0_connectorBreaks_121 : decode cX0_connectorBreaks 121 = .ok (.iload_n 3, 1) := by decide +kernel
theorem dX0_connectorBreaks_122 : decode cX0_connectorBreaks 122 = .ok (.iaload, 1) := by decide +kernel
theorem dX0_connectorBreaks_123 : decode cX0_connectorBreaks 123 = .ok (.iconst (-1), 1) := by decide +kernel
theorem dX0_connectorBreaks_124 : decode cX0_connectorBreaks 124 = .ok (.if_icmp .eq 16, 3) := by decide +kernel
theorem dX0_connectorBreaks_127 : decode cX0_connectorBreaks 127 = .ok (.aload_n 0, 1) := by decide +kernel
theorem dX0_connectorBreaks_128 : decode cX0_connectorBreaks 128 = .ok (.iload_n 2, 1) := by decide +kernel
theorem dX0_connectorBreaks_129 : decode cX0_connectorBreaks 129 = .ok (.iload_n 3, 1) := by decide +kernel
theorem dX0_connectorBreaks_130 : decode cX0_connectorBreaks 130 = .ok (.invokevirtual 162, 3) := by decide +kernel
theorem dX0_connectorBreaks_133 : decode cX0_connectorBreaks 133 = .ok (.ifCond .ne 7, 3) := by decide +kernel
theorem dX0_connectorBreaks_136 : decode cX0_connectorBreaks 136 = .ok (.iconst 1, 1) := by decide +kernel
theorem dX0_connectorBreaks_137 : decode cX0_connectorBreaks 137 = .ok (.goto 4, 3) := by decide +kernel
theorem dX0_connectorBreaks_140 : decode cX0_connectorBreaks 140 = .ok (.iconst 0, 1) := by decide +kernel
theorem dX0_connectorBreaks_141 : decode cX0_connectorBreaks 141 = .ok (.ireturn, 1) := by decide +kernel
theorem dX0_connectorBreaks_142 : decode cX0_connectorBreaks 142 = .ok (.aload_n 0, 1) := by decide +kernel
theorem dX0_connectorBreaks_143 : decode cX0_connectorBreaks 143 = .ok (.getfield 23, 3) := by decide +kernel
theorem dX0_connectorBreaks_146 : decode cX0_connectorBreaks 146 = .ok (.iload_n 2, 1) := by decide +kernel
theorem dX0_connectorBreaks_147 : decode cX0_connectorBreaks 147 = .ok (.iaload, 1) := by decide +kernel
theorem dX0_connectorBreaks_148 : decode cX0_connectorBreaks 148 = .ok (.iconst 3, 1) := by decide +kernel
theorem dX0_connectorBreaks_149 : decode cX0_connectorBreaks 149 = .ok (.if_icmp .ne 20, 3) := by decide +kernel
theorem dX0_connectorBreaks_152 : decode cX0_connectorBreaks 152 = .ok (.aload_n 0, 1) := by decide +kernel
theorem dX0_connectorBreaks_153 : decode cX0_connectorBreaks 153 = .ok (.aload_n 0, 1) := by decide +kernel
theorem dX0_connectorBreaks_154 : decode cX0_connectorBreaks 154 = .ok (.getfield 20, 3) := by decide +kernel
theorem dX0_connectorBreaks_157 : decode cX0_connectorBreaks 157 = .ok (.iload_n 2, 1) := by decide +kernel
theorem dX0_connectorBreaks_158 : decode cX0_connectorBreaks 158 = .ok (.iaload, 1) := by decide +kernel
theorem dX0_connectorBreaks_159 : decode cX0_connectorBreaks 159 = .ok (.invokevirtual 165, 3) := by decide +kernel
theorem dX0_connectorBreaks_162 : decode cX0_connectorBreaks 162 = .ok (.ifCond .ne 7, 3) := by decide +kernel
theorem dX0_connectorBreaks_165 : decode cX0_connectorBreaks 165 = .ok (.iconst 1, 1) := by decide +kernel
theorem dX0_connectorBreaks_166 : decode cX0_connectorBreaks 166 = .ok (.goto 4, 3) := by decide +kernel
theorem dX0_connectorBreaks_169 : decode cX0_connectorBreaks 169 = .ok (.iconst 0, 1) := by decide +kernel
theorem dX0_connectorBreaks_170 : decode cX0_connectorBreaks 170 = .ok (.ireturn, 1) := by decide +kernel
theorem dX0_isExactScaling_0 : decode cX0_isExactScaling 0 = .ok (.aload_n 0, 1) := by decide +kernel
theorem dX0_isExactScaling_1 : decode cX0_isExactScaling 1 = .ok (.getfield 36, 3) := by decide +kernel
theorem dX0_isExactScaling_4 : decode cX0_isExactScaling 4 = .ok (.iload_n 1, 1) := by decide +kernel
theorem dX0_isExactScaling_5 : decode cX0_isExactScaling 5 = .ok (.laload, 1) := by decide +kernel
theorem dX0_isExactScaling_6 : decode cX0_isExactScaling 6 = .ok (.aload_n 0, 1) := by decide +kernel
theorem dX0_isExactScaling_7 : decode cX0_isExactScaling 7 = .ok (.getfield 32, 3) := by decide +kernel
theorem dX0_isExactScaling_10 : decode cX0_isExactScaling 10 = .ok (.iload_n 2, 1) := by decide +kernel
theorem dX0_isExactScaling_11 : decode cX0_isExactScaling 11 = .ok (.laload, 1) := by decide +kernel
theorem dX0_isExactScaling_12 : decode cX0_isExactScaling 12 = .ok (.lmul, 1) := by decide +kernel
theorem dX0_isExactScaling_13 : decode cX0_isExactScaling 13 = .ok (.lstore_n 3, 1) := by decide +kernel
theorem dX0_isExactScaling_14 : decode cX0_isExactScaling 14 = .ok (.lload_n 3, 1) := by decide +kernel
theorem dX0_isExactScaling_15 : decode cX0_isExactScaling 15 = .ok (.lconst 0, 1) := by decide +kernel
theorem dX0_isExactScaling_16 : decode cX0_isExactScaling 16 = .ok (.lcmp, 1) := by decide +kernel
theorem dX0_isExactScaling_17 : decode cX0_isExactScaling 17 = .ok (.ifCond .eq 27, 3) := by decide +kernel
theorem dX0_isExactScaling_20 : decode cX0_isExactScaling 20 = .ok (.aload_n 0, 1) := by decide +kernel
theorem dX0_isExactScaling_21 : decode cX0_isExactScaling 21 = .ok (.getfield 32, 3) := by decide +kernel
theorem dX0_isExactScaling_24 : decode cX0_isExactScaling 24 = .ok (.iload_n 1, 1) := by decide +kernel
theorem dX0_isExactScaling_25 : decode cX0_isExactScaling 25 = .ok (.laload, 1) := by decide +kernel
theorem dX0_isExactScaling_26 : decode cX0_isExactScaling 26 = .ok (.aload_n 0, 1) := by decide +kernel
theorem dX0_isExactScaling_27 : decode cX0_isExactScaling 27 = .ok (.getfield 36, 3) := by decide +kernel
theorem dX0_isExactScaling_30 : decode cX0_isExactScaling 30 = .ok (.iload_n 2, 1) := by decide +kernel
theorem dX0_isExactScaling_31 : decode cX0_isExactScaling 31 = .ok (.laload, 1) := by decide +kernel
theorem dX0_isExactScaling_32 : decode cX0_isExactScaling 32 = .ok (.lmul, 1) := by decide +kernel
theorem dX0_isExactScaling_33 : decode cX0_isExactScaling 33 = .ok (.lload_n 3, 1) := by decide +kernel
theorem dX0_isExactScaling_34 : decode cX0_isExactScaling 34 = .ok (.lrem, 1) := by decide +kernel
theorem dX0_isExactScaling_35 : decode cX0_isExactScaling 35 = .ok (.lconst 0, 1) := by decide +kernel
theorem dX0_isExactScaling_36 : decode cX0_isExactScaling 36 = .ok (.lcmp, 1) := by decide +kernel
theorem dX0_isExactScaling_37 : decode cX0_isExactScaling 37 = .ok (.ifCond .ne 7, 3) := by decide +kernel
theorem dX0_isExactScaling_40 : decode cX0_isExactScaling 40 = .ok (.iconst 1, 1) := by decide +kernel
theorem dX0_isExactScaling_41 : decode cX0_isExactScaling 41 = .ok (.goto 4, 3) := by decide +kernel
theorem dX0_isExactScaling_44 : decode cX0_isExactScaling 44 = .ok (.iconst 0, 1) := by decide +kernel
theorem dX0_isExactScaling_45 : decode cX0_isExactScaling 45 = .ok (.ireturn, 1) := by decide +kernel
theorem dX0_servesVersion_0 : decode cX0_servesVersion 0 = .ok (.aload_n 0, 1) := by decide +kernel
theorem dX0_servesVersion_1 : decode cX0_servesVersion 1 = .ok (.getfield 39, 3) := by decide +kernel
theorem dX0_servesVersion_4 : decode cX0_servesVersion 4 = .ok (.iload_n 1, 1) := by decide +kernel
theorem dX0_servesVersion_5 : decode cX0_servesVersion 5 = .ok (.iaload, 1) := by decide +kernel
theorem dX0_servesVersion_6 : decode cX0_servesVersion 6 = .ok (.istore_n 3, 1) := by decide +kernel
theorem dX0_servesVersion_7 : decode cX0_servesVersion 7 = .ok (.aload_n 0, 1) := by decide +kernel
theorem dX0_servesVersion_8 : decode cX0_servesVersion 8 = .ok (.getfield 39, 3) := by decide +kernel
theorem dX0_servesVersion_11 : decode cX0_servesVersion 11 = .ok (.iload_n 2, 1) := by decide +kernel
theorem dX0_servesVersion_12 : decode cX0_servesVersion 12 = .ok (.iaload, 1) := by decide +kernel
theorem dX0_servesVersion_13 : decode cX0_servesVersion 13 = .ok (.istore 4, 2) := by decide +kernel
theorem dX0_servesVersion_15 : decode cX0_servesVersion 15 = .ok (.iload_n 3, 1) := by decide +kernel
theorem dX0_servesVersion_16 : decode cX0_servesVersion 16 = .ok (.iload 4, 2) := by decide +kernel
theorem dX0_servesVersion_18 : decode cX0_servesVersion 18 = .ok (.if_icmp .lt 19, 3) := by decide +kernel
theorem dX0_servesVersion_21 : decode cX0_servesVersion 21 = .ok (.iload_n 3, 1) := by decide +kernel
theorem dX0_servesVersion_22 : decode cX0_servesVersion 22 = .ok (.bipush 100, 2) := by decide +kernel
theorem dX0_servesVersion_24 : decode cX0_servesVersion 24 = .ok (.idiv, 1) := by decide +kernel
theorem dX0_servesVersion_25 : decode cX0_servesVersion 25 = .ok (.iload 4, 2) := by decide +kernel
theorem dX0_servesVersion_27 : decode cX0_servesVersion 27 = .ok (.bipush 100, 2) := by decide +kernel
theorem dX0_servesVersion_29 : decode cX0_servesVersion 29 = .ok (.idiv, 1) := by decide +kernel
theorem dX0_servesVersion_30 : decode cX0_servesVersion 30 = .ok (.if_icmp .ne 7, 3) := by decide +kernel
theorem dX0_servesVersion_33 : decode cX0_servesVersion 33 = .ok (.iconst 1, 1) := by decide +kernel
theorem dX0_servesVersion_34 : decode cX0_servesVersion 34 = .ok (.goto 4, 3) := by decide +kernel
theorem dX0_servesVersion_37 : decode cX0_servesVersion 37 = .ok (.iconst 0, 1) := by decide +kernel
theorem dX0_servesVersion_38 : decode cX0_servesVersion 38 = .ok (.ireturn, 1) := by decide +kernel
theorem dX0_managesMode_0 : decode cX0_managesMode 0 = .ok (.iconst 0, 1) := by decide +kernel
theorem dX0_managesMode_1 : decode cX0_managesMode 1 = .ok (.istore_n 2, 1) := by decide +kernel
theorem dX0_managesMode_2 : decode cX0_managesMode 2 = .ok (.iload_n 2, 1) := by decide +kernel
theorem dX0_managesMode_3 : decode cX0_managesMode 3 = .ok (.bipush 10, 2) := by decide +kernel
theorem dX0_managesMode_5 : decode cX0_managesMode 5 = .ok (.if_icmp .ge 21, 3) := by decide +kernel
theorem dX0_managesMode_8 : decode cX0_managesMode 8 = .ok (.aload_n 0, 1) := by decide +kernel
theorem dX0_managesMode_9 : decode cX0_managesMode 9 = .ok (.getfield 17, 3) := by decide +kernel
theorem dX0_managesMode_12 : decode cX0_managesMode 12 = .ok (.iload_n 2, 1) := by decide +kernel
theorem dX0_managesMode_13 : decode cX0_managesMode 13 = .ok (.iaload, 1) := by decide +kernel
theorem dX0_managesMode_14 : decode cX0_managesMode 14 = .ok (.iload_n 1, 1) := by decide +kernel
theorem dX0_managesMode_15 : decode cX0_managesMode 15 = .ok (.if_icmp .ne 5, 3) := by decide +kernel
theorem dX0_managesMode_18 : decode cX0_managesMode 18 = .ok (.iconst 1, 1) := by decide +kernel
theorem dX0_managesMode_19 : decode cX0_managesMode 19 = .ok (.ireturn, 1) := by decide +kernel
theorem dX0_managesMode_20 : decode cX0_managesMode 20 = .ok (.iinc 2 1, 3) := by decide +kernel
theorem dX0_managesMode_23 : decode cX0_managesMode 23 = .ok (.goto (-21), 3) := by decide +kernel
theorem dX0_managesMode_26 : decode cX0_managesMode 26 = .ok (.iconst 0, 1) := by decide +kernel
theorem dX0_managesMode_27 : decode cX0_managesMode 27 = .ok (.ireturn, 1) := by decide +kernel
theorem dJ13_bitCount_95d88_0 : decode cJ13_bitCount_95d88 0 = .ok (.lload_n 0, 1) := by decide +kernel
theorem dJ13_bitCount_95d88_1 : decode cJ13_bitCount_95d88 1 = .ok (.lload_n 0, 1) := by decide +kernel
theorem dJ13_bitCount_95d88_2 : decode cJ13_bitCount_95d88 2 = .ok (.iconst 1, 1) := by decide +kernel
theorem dJ13_bitCount_95d88_3 : decode cJ13_bitCount_95d88 3 = .ok (.lushr, 1) := by decide +kernel
theorem dJ13_bitCount_95d88_4 : decode cJ13_bitCount_95d88 4 = .ok (.ldc2_w 314, 3) := by decide +kernel
theorem dJ13_bitCount_95d88_7 : decode cJ13_bitCount_95d88 7 = .ok (.land, 1) := by decide +kernel
theorem dJ13_bitCount_95d88_8 : decode cJ13_bitCount_95d88 8 = .ok (.lsub, 1) := by decide +kernel
theorem dJ13_bitCount_95d88_9 : decode cJ13_bitCount_95d88 9 = .ok (.lstore_n 0, 1) := by decide +kernel
theorem dJ13_bitCount_95d88_10 : decode cJ13_bitCount_95d88 10 = .ok (.lload_n 0, 1) := by decide +kernel
theorem dJ13_bitCount_95d88_11 : decode cJ13_bitCount_95d88 11 = .ok (.ldc2_w 316, 3) := by decide +kernel
theorem dJ13_bitCount_95d88_14 : decode cJ13_bitCount_95d88 14 = .ok (.land, 1) := by decide +kernel
theorem dJ13_bitCount_95d88_15 : decode cJ13_bitCount_95d88 15 = .ok (.lload_n 0, 1) := by decide +kernel
theorem dJ13_bitCount_95d88_16 : decode cJ13_bitCount_95d88 16 = .ok (.iconst 2, 1) := by decide +kernel
theorem dJ13_bitCount_95d88_17 : decode cJ13_bitCount_95d88 17 = .ok (.lushr, 1) := by decide +kernel
theorem dJ13_bitCount_95d88_18 : decode cJ13_bitCount_95d88 18 = .ok (.ldc2_w 316, 3) := by decide +kernel
theorem dJ13_bitCount_95d88_21 : decode cJ13_bitCount_95d88 21 = .ok (.land, 1) := by decide +kernel
theorem dJ13_bitCount_95d88_22 : decode cJ13_bitCount_95d88 22 = .ok (.ladd, 1) := by decide +kernel
theorem dJ13_bitCount_95d88_23 : decode cJ13_bitCount_95d88 23 = .ok (.lstore_n 0, 1) := by decide +kernel
theorem dJ13_bitCount_95d88_24 : decode cJ13_bitCount_95d88 24 = .ok (.lload_n 0, 1) := by decide +kernel
theorem dJ13_bitCount_95d88_25 : decode cJ13_bitCount_95d88 25 = .ok (.lload_n 0, 1) := by decide +kernel
theorem dJ13_bitCount_95d88_26 : decode cJ13_bitCount_95d88 26 = .ok (.iconst 4, 1) := by decide +kernel
theorem dJ13_bitCount_95d88_27 : decode cJ13_bitCount_95d88 27 = .ok (.lushr, 1) := by decide +kernel
theorem dJ13_bitCount_95d88_28 : decode cJ13_bitCount_95d88 28 = .ok (.ladd, 1) := by decide +kernel
theorem dJ13_bitCount_95d88_29 : decode cJ13_bitCount_95d88 29 = .ok (.ldc2_w 318, 3) := by decide +kernel
theorem dJ13_bitCount_95d88_32 : decode cJ13_bitCount_95d88 32 = .ok (.land, 1) := by decide +kernel
theorem dJ13_bitCount_95d88_33 : decode cJ13_bitCount_95d88 33 = .ok (.lstore_n 0, 1) := by decide +kernel
theorem dJ13_bitCount_95d88_34 : decode cJ13_bitCount_95d88 34 = .ok (.lload_n 0, 1) := by decide +kernel
theorem dJ13_bitCount_95d88_35 : decode cJ13_bitCount_95d88 35 = .ok (.lload_n 0, 1) := by decide +kernel
theorem dJ13_bitCount_95d88_36 : decode cJ13_bitCount_95d88 36 = .ok (.bipush 8, 2) := by decide +kernel
theorem dJ13_bitCount_95d88_38 : decode cJ13_bitCount_95d88 38 = .ok (.lushr, 1) := by decide +kernel
theorem dJ13_bitCount_95d88_39 : decode cJ13_bitCount_95d88 39 = .ok (.ladd, 1) := by decide +kernel
theorem dJ13_bitCount_95d88_40 : decode cJ13_bitCount_95d88 40 = .ok (.lstore_n 0, 1) := by decide +kernel
theorem dJ13_bitCount_95d88_41 : decode cJ13_bitCount_95d88 41 = .ok (.lload_n 0, 1) := by decide +kernel
theorem dJ13_bitCount_95d88_42 : decode cJ13_bitCount_95d88 42 = .ok (.lload_n 0, 1) := by decide +kernel
theorem dJ13_bitCount_95d88_43 : decode cJ13_bitCount_95d88 43 = .ok (.bipush 16, 2) := by decide +kernel
theorem dJ13_bitCount_95d88_45 : decode cJ13_bitCount_95d88 45 = .ok (.lushr, 1) := by decide +kernel
theorem dJ13_bitCount_95d88_46 : decode cJ13_bitCount_95d88 46 = .ok (.ladd, 1) := by decide +kernel
theorem dJ13_bitCount_95d88_47 : decode cJ13_bitCount_95d88 47 = .ok (.lstore_n 0, 1) := by decide +kernel
theorem dJ13_bitCount_95d88_48 : decode cJ13_bitCount_95d88 48 = .ok (.lload_n 0, 1) := by decide +kernel
theorem dJ13_bitCount_95d88_49 : decode cJ13_bitCount_95d88 49 = .ok (.lload_n 0, 1) := by decide +kernel
theorem dJ13_bitCount_95d88_50 : decode cJ13_bitCount_95d88 50 = .ok (.bipush 32, 2) := by decide +kernel
theorem dJ13_bitCount_95d88_52 : decode cJ13_bitCount_95d88 52 = .ok (.lushr, 1) := by decide +kernel
theorem dJ13_bitCount_95d88_53 : decode cJ13_bitCount_95d88 53 = .ok (.ladd, 1) := by decide +kernel
theorem dJ13_bitCount_95d88_54 : decode cJ13_bitCount_95d88 54 = .ok (.lstore_n 0, 1) := by decide +kernel
theorem dJ13_bitCount_95d88_55 : decode cJ13_bitCount_95d88 55 = .ok (.lload_n 0, 1) := by decide +kernel
theorem dJ13_bitCount_95d88_56 : decode cJ13_bitCount_95d88 56 = .ok (.l2i, 1) := by decide +kernel
theorem dJ13_bitCount_95d88_57 : decode cJ13_bitCount_95d88 57 = .ok (.bipush 127, 2) := by decide +kernel
theorem dJ13_bitCount_95d88_59 : decode cJ13_bitCount_95d88 59 = .ok (.iand, 1) := by decide +kernel
theorem dJ13_bitCount_95d88_60 : decode cJ13_bitCount_95d88 60 = .ok (.ireturn, 1) := by decide +kernel
theorem dJ7_fill_53178_0 : decode cJ7_fill_53178 0 = .ok (.iconst 0, 1) := by decide +kernel
theorem dJ7_fill_53178_1 : decode cJ7_fill_53178 1 = .ok (.istore_n 2, 1) := by decide +kernel
theorem dJ7_fill_53178_2 : decode cJ7_fill_53178 2 = .ok (.aload_n 0, 1) := by decide +kernel
theorem dJ7_fill_53178_3 : decode cJ7_fill_53178 3 = .ok (.arraylength, 1) := by decide +kernel
theorem dJ7_fill_53178_4 : decode cJ7_fill_53178 4 = .ok (.istore_n 3, 1) := by decide +kernel
theorem dJ7_fill_53178_5 : decode cJ7_fill_53178 5 = .ok (.iload_n 2, 1) := by decide +kernel
theorem dJ7_fill_53178_6 : decode cJ7_fill_53178 6 = .ok (.iload_n 3, 1) := by decide +kernel
theorem dJ7_fill_53178_7 : decode cJ7_fill_53178 7 = .ok (.if_icmp .ge 13, 3) := by decide +kernel
theorem dJ7_fill_53178_10 : decode cJ7_fill_53178 10 = .ok (.aload_n 0, 1) := by decide +kernel
theorem dJ7_fill_53178_11 : decode cJ7_fill_53178 11 = .ok (.iload_n 2, 1) := by decide +kernel
theorem dJ7_fill_53178_12 : decode cJ7_fill_53178 12 = .ok (.iload_n 1, 1) := by decide +kernel
theorem dJ7_fill_53178_13 : decode cJ7_fill_53178 13 = .ok (.iastore, 1) := by decide +kernel
theorem dJ7_fill_53178_14 : decode cJ7_fill_53178 14 = .ok (.iinc 2 1, 3) := by decide +kernel
theorem dJ7_fill_53178_17 : decode cJ7_fill_53178 17 = .ok (.goto (-12), 3) := by decide +kernel
theorem dJ7_fill_53178_20 : decode cJ7_fill_53178 20 = .ok (.return_, 1) := by decide +kernel
set_option maxRecDepth 20000 in
theorem ggL_at_X0_at : GoodIn wsL_at wsX0_at := goodIn_ca (goodIn_r _ [6, 7, 8, 9, 10, 11, 12, 5, 13, 14, 15, 16, 17, 18, 19, 20, 21, 22, 23, 24, 25, 26, 27, 28, 29, 30, 31, 32, 33, 34, 35, 36, 37, 38, 39, 40, 41, 42, 43, 44, 45, 46, 47, 48, 49, 50, 51, 52] (by decide +kernel) (by decide +kernel)) (goodIn_sub (fun _ h => List.mem_cons_of_mem _ (List.mem_append_right _ h)) (by decide +kernel))
set_option maxRecDepth 20000 in
theorem gL_at_X0_at : GoodIn wsL_at (wsV RL 7 RX0 yX0_at wsX0_at) := goodIn_app (goodIn_of _ (by decide +kernel)) ggL_at_X0_at
theorem dL_at_0 : decode cL_at 0 = .ok (.aload_n 3, 1) := by decide +kernel
theorem dL_at_1 : decode cL_at 1 = .ok (.iconst 0, 1) := by decide +kernel
theorem dL_at_2 : decode cL_at 2 = .ok (.aload_n 0, 1) := by decide +kernel
theorem dL_at_3 : decode cL_at 3 = .ok (.iload_n 1, 1) := by decide +kernel
theorem dL_at_4 : decode cL_at 4 = .ok (.iload_n 2, 1) := by decide +kernel
theorem dL_at_5 : decode cL_at 5 = .ok (.invokevirtual 7, 3) := by decide +kernel
theorem dL_at_8 : decode cL_at 8 = .ok (.i2l, 1) := by decide +kernel
theorem dL_at_9 : decode cL_at 9 = .ok (.lastore, 1) := by decide +kernel
theorem dL_at_10 : decode cL_at 10 = .ok (.goto 7, 3) := by decide +kernel
theorem dL_at_13 : decode cL_at 13 = .ok (.astore 4, 2) := by decide +kernel
theorem dL_at_15 : decode cL_at 15 = .ok (.iconst 1, 1) := by decide +kernel
theorem dL_at_16 : decode cL_at 16 = .ok (.ireturn, 1) := by decide +kernel
theorem dL_at_17 : decode cL_at 17 = .ok (.iconst 0, 1) := by decide +kernel
theorem dL_at_18 : decode cL_at 18 = .ok (.ireturn, 1) := by decide +kernel
set_option maxRecDepth 20000 in
theorem ggL_law_X0_init : GoodIn wsL_law wsX0_init := goodIn_r _ [6, 7, 8, 9, 10, 11, 12, 13, 14, 15, 16, 17, 18, 3, 19, 20, 21, 22, 23, 24, 25, 26, 27, 28, 29, 30, 179, 180, 181, 182, 183, 184, 185, 186, 187, 188, 189, 190, 191, 192, 193, 194, 195, 196, 197] (by decide +kernel) (by decide +kernel)
set_option maxRecDepth 20000 in
theorem gL_law_X0_init : GoodIn wsL_law (wsX0_init) := ggL_law_X0_init
set_option maxRecDepth 20000 in
theorem ggL_law_X0_part : GoodIn wsL_law wsX0_part := goodIn_r _ [34, 35, 11, 36, 37, 38, 2, 39, 40, 41, 42, 43, 13, 44, 15, 45, 46, 47, 48, 49, 50, 179, 180, 181, 182, 183, 184, 185, 186, 187, 188, 189, 190, 191, 192, 193, 194, 195, 196, 197] (by decide +kernel) (by decide +kernel)
set_option maxRecDepth 20000 in
theorem gL_law_X0_part : GoodIn wsL_law (wsV RL 19 RX0 yX0_part wsX0_part) := goodIn_app (goodIn_of _ (by decide +kernel)) ggL_law_X0_part
set_option maxRecDepth 20000 in
theorem ggL_law_X0_port : GoodIn wsL_law wsX0_port := goodIn_r _ [54, 44, 15, 16, 17, 13, 36, 37, 38, 2, 39, 35, 55, 56, 57, 58, 45, 47, 48, 49, 50, 179, 180, 181, 182, 183, 184, 185, 186, 187, 188, 189, 190, 191, 192, 193, 194, 195, 196, 197] (by decide +kernel) (by decide +kernel)
set_option maxRecDepth 20000 in
theorem gL_law_X0_port : GoodIn wsL_law (wsV RL 24 RX0 yX0_port wsX0_port) := goodIn_app (goodIn_of _ (by decide +kernel)) ggL_law_X0_port
set_option maxRecDepth 20000 in
theorem ggL_law_X0_unit : GoodIn wsL_law wsX0_unit := goodIn_r _ [62, 18, 19, 20, 63, 64, 65, 2, 66, 44, 67, 68, 69, 70, 179, 180, 181, 182, 183, 184, 185, 186, 187, 188, 189, 190, 191, 192, 193, 194, 195, 196, 197] (by decide +kernel) (by decide +kernel)
set_option maxRecDepth 20000 in
theorem gL_law_X0_unit : GoodIn wsL_law (wsV RL 31 RX0 yX0_unit wsX0_unit) := goodIn_app (goodIn_of _ (by decide +kernel)) ggL_law_X0_unit
set_option maxRecDepth 20000 in
theorem ggL_law_X0_connect : GoodIn wsL_law wsX0_connect := goodIn_r _ [74, 16, 25, 63, 64, 65, 2, 66, 44, 75, 76, 77, 78, 15, 17, 11, 79, 80, 81, 48, 49, 50, 82, 83, 84, 85, 26, 179, 180, 181, 182, 183, 184, 185, 186, 187, 188, 189, 190, 191, 192, 193, 194, 195, 196, 197] (by decide +kernel) (by decide +kernel)
set_option maxRecDepth 20000 in
theorem gL_law_X0_connect : GoodIn wsL_law (wsV RL 36 RX0 yX0_connect wsX0_connect) := goodIn_app (goodIn_of _ (by decide +kernel)) ggL_law_X0_connect
set_option maxRecDepth 20000 in
theorem ggL_law_X0_flatten : GoodIn wsL_law wsX0_flatten := goodIn_r _ [89, 44, 90, 91, 92, 2, 93, 45, 26, 47, 79, 80, 81, 48, 49, 50, 94, 95, 96, 97, 98, 99, 100, 179, 180, 181, 182, 183, 184, 185, 186, 187, 188, 189, 190, 191, 192, 193, 194, 195, 196, 197] (by decide +kernel) (by decide +kernel)
set_option maxRecDepth 20000 in
theorem gL_law_X0_flatten : GoodIn wsL_law (wsV RL 40 RX0 yX0_flatten wsX0_flatten) := goodIn_app (goodIn_of _ (by decide +kernel)) ggL_law_X0_flatten
set_option maxRecDepth 20000 in
theorem ggL_law_L_at : GoodIn wsL_law wsL_at := goodIn_ca (goodIn_r _ [104, 105, 106, 107, 108, 2, 109, 110, 111, 44, 90, 91, 92, 93, 45, 26, 47, 79, 80, 81, 48, 49, 50, 94, 95, 96, 97, 98, 99, 100, 112, 113, 114, 115, 179, 180, 181, 182, 183, 184, 185, 186, 187, 188, 189, 190, 191, 192, 193, 194, 195, 196, 197] (by decide +kernel) (by decide +kernel)) (goodIn_sub (fun _ h => List.mem_append_right _ h) (by decide +kernel))
set_option maxRecDepth 20000 in
theorem gL_law_L_at : GoodIn wsL_law (va_wsS RL 45 yL_at wsL_at) := goodIn_app (goodIn_of _ (by decide +kernel)) ggL_law_L_at
set_option maxRecDepth 20000 in
theorem ggL_law_X0_check : GoodIn wsL_law wsX0_check := goodIn_r _ [119, 120, 121, 2, 122, 123, 124, 125, 126, 44, 47, 79, 80, 81, 48, 49, 50, 127, 128, 129, 130, 16, 22, 24, 131, 132, 133, 134, 90, 91, 92, 93, 45, 26, 135, 136, 137, 138, 139, 140, 141, 142, 18, 21, 15, 143, 144, 145, 146, 20, 19, 147, 148, 149, 150, 151, 152, 153, 154, 14, 179, 180, 181, 182, 183, 184, 185, 186, 187, 188, 189, 190, 191, 192, 193, 194, 195, 196, 197] (by decide +kernel) (by decide +kernel)
set_option maxRecDepth 20000 in
theorem gL_law_X0_check : GoodIn wsL_law (wsV RL 54 RX0 yX0_check wsX0_check) := goodIn_app (goodIn_of _ (by decide +kernel)) ggL_law_X0_check
set_option maxRecDepth 20000 in
theorem ggL_law_X0_manager : GoodIn wsL_law wsX0_manager := goodIn_r _ [158, 14, 36, 37, 38, 2, 39, 35, 179, 180, 181, 182, 183, 184, 185, 186, 187, 188, 189, 190, 191, 192, 193, 194, 195, 196, 197] (by decide +kernel) (by decide +kernel)
set_option maxRecDepth 20000 in
theorem gL_law_X0_manager : GoodIn wsL_law (wsV RL 58 RX0 yX0_manager wsX0_manager) := goodIn_app (goodIn_of _ (by decide +kernel)) ggL_law_X0_manager
set_option maxRecDepth 20000 in
theorem ggL_law_X0_fallback : GoodIn wsL_law wsX0_fallback := goodIn_r _ [162, 17, 23, 22, 63, 64, 65, 2, 66, 44, 179, 180, 181, 182, 183, 184, 185, 186, 187, 188, 189, 190, 191, 192, 193, 194, 195, 196, 197] (by decide +kernel) (by decide +kernel)
set_option maxRecDepth 20000 in
theorem gL_law_X0_fallback : GoodIn wsL_law (wsV RL 62 RX0 yX0_fallback wsX0_fallback) := goodIn_app (goodIn_of _ (by decide +kernel)) ggL_law_X0_fallback
set_option maxRecDepth 20000 in
theorem ggL_law_X0_queue : GoodIn wsL_law wsX0_queue := goodIn_r _ [166, 16, 24, 63, 64, 65, 2, 66, 44, 179, 180, 181, 182, 183, 184, 185, 186, 187, 188, 189, 190, 191, 192, 193, 194, 195, 196, 197] (by decide +kernel) (by decide +kernel)
set_option maxRecDepth 20000 in
theorem gL_law_X0_queue : GoodIn wsL_law (wsV RL 66 RX0 yX0_queue wsX0_queue) := goodIn_app (goodIn_of _ (by decide +kernel)) ggL_law_X0_queue
set_option maxRecDepth 20000 in
theorem ggL_law_X0_version : GoodIn wsL_law wsX0_version := goodIn_r _ [170, 21, 63, 64, 65, 2, 66, 44, 179, 180, 181, 182, 183, 184, 185, 186, 187, 188, 189, 190, 191, 192, 193, 194, 195, 196, 197] (by decide +kernel) (by decide +kernel)
set_option maxRecDepth 20000 in
theorem gL_law_X0_version : GoodIn wsL_law (wsV RL 70 RX0 yX0_version wsX0_version) := goodIn_app (goodIn_of _ (by decide +kernel)) ggL_law_X0_version
set_option maxRecDepth 20000 in
theorem ggL_law_X0_open : GoodIn wsL_law wsX0_open := goodIn_r _ [174, 47, 46, 175, 176, 177, 2, 178, 44, 90, 91, 92, 93, 45, 26, 79, 80, 81, 48, 49, 50, 112, 113, 114, 115, 179, 180, 181, 182, 183, 184, 185, 186, 187, 188, 189, 190, 191, 192, 193, 194, 195, 196, 197] (by decide +kernel) (by decide +kernel)
set_option maxRecDepth 20000 in
theorem gL_law_X0_open : GoodIn wsL_law (wsV RL 74 RX0 yX0_open wsX0_open) := goodIn_app (goodIn_of _ (by decide +kernel)) ggL_law_X0_open
theorem dL_law_0 : decode cL_law 0 = .ok (.new 8, 3) := by decide +kernel
theorem dL_law_3 : decode cL_law 3 = .ok (.dup, 1) := by decide +kernel
theorem dL_law_4 : decode cL_law 4 = .ok (.invokespecial 15, 3) := by decide +kernel
theorem dL_law_7 : decode cL_law 7 = .ok (.astore_n 1, 1) := by decide +kernel
theorem dL_law_8 : decode cL_law 8 = .ok (.new 16, 3) := by decide +kernel
theorem dL_law_11 : decode cL_law 11 = .ok (.dup, 1) := by decide +kernel
theorem dL_law_12 : decode cL_law 12 = .ok (.invokespecial 18, 3) := by decide +kernel
theorem dL_law_15 : decode cL_law 15 = .ok (.astore_n 2, 1) := by decide +kernel
theorem dL_law_16 : decode cL_law 16 = .ok (.iconst 1, 1) := by decide +kernel
theorem dL_law_17 : decode cL_law 17 = .ok (.newarray .long, 2) := by decide +kernel
theorem dL_law_19 : decode cL_law 19 = .ok (.astore_n 3, 1) := by decide +kernel
theorem dL_law_20 : decode cL_law 20 = .ok (.iconst 0, 1) := by decide +kernel
theorem dL_law_21 : decode cL_law 21 = .ok (.istore 4, 2) := by decide +kernel
theorem dL_law_23 : decode cL_law 23 = .ok (.iload 4, 2) := by decide +kernel
theorem dL_law_25 : decode cL_law 25 = .ok (.aload_n 0, 1) := by decide +kernel
theorem dL_law_26 : decode cL_law 26 = .ok (.arraylength, 1) := by decide +kernel
theorem dL_law_27 : decode cL_law 27 = .ok (.bipush 7, 2) := by decide +kernel
theorem dL_law_29 : decode cL_law 29 = .ok (.isub, 1) := by decide +kernel
theorem dL_law_30 : decode cL_law 30 = .ok (.if_icmp .gt 601, 3) := by decide +kernel
theorem dL_law_33 : decode cL_law 33 = .ok (.aload_n 0, 1) := by decide +kernel
theorem dL_law_34 : decode cL_law 34 = .ok (.iload 4, 2) := by decide +kernel
theorem dL_law_36 : decode cL_law 36 = .ok (.iaload, 1) := by decide +kernel
theorem dL_law_37 : decode cL_law 37 = .ok (.bipush 15, 2) := by decide +kernel
theorem dL_law_39 : decode cL_law 39 = .ok (.iand, 1) := by decide +kernel
theorem dL_law_40 : decode cL_law 40 = .ok (.tableswitch 585 0 11 #[64, 89, 154, 281, 318, 331, 399, 412, 449, 486, 523, 560], 64) := by decide +kernel
theorem dL_law_104 : decode cL_law 104 = .ok (.aload_n 1, 1) := by decide +kernel
theorem dL_law_105 : decode cL_law 105 = .ok (.aload_n 0, 1) := by decide +kernel
theorem dL_law_106 : decode cL_law 106 = .ok (.iload 4, 2) := by decide +kernel
theorem dL_law_108 : decode cL_law 108 = .ok (.iconst 1, 1) := by decide +kernel
theorem dL_law_109 : decode cL_law 109 = .ok (.iadd, 1) := by decide +kernel
theorem dL_law_110 : decode cL_law 110 = .ok (.iaload, 1) := by decide +kernel
theorem dL_law_111 : decode cL_law 111 = .ok (.invokevirtual 19, 3) := by decide +kernel
theorem dL_law_114 : decode cL_law 114 = .ok (.aload_n 2, 1) := by decide +kernel
theorem dL_law_115 : decode cL_law 115 = .ok (.aload_n 0, 1) := by decide +kernel
theorem dL_law_116 : decode cL_law 116 = .ok (.iload 4, 2) := by decide +kernel
theorem dL_law_118 : decode cL_law 118 = .ok (.iconst 1, 1) := by decide +kernel
theorem dL_law_119 : decode cL_law 119 = .ok (.iadd, 1) := by decide +kernel
theorem dL_law_120 : decode cL_law 120 = .ok (.iaload, 1) := by decide +kernel
theorem dL_law_121 : decode cL_law 121 = .ok (.invokevirtual 23, 3) := by decide +kernel
theorem dL_law_124 : decode cL_law 124 = .ok (.if_icmp .eq 501, 3) := by decide +kernel
theorem dL_law_127 : decode cL_law 127 = .ok (.iconst 0, 1) := by decide +kernel
theorem dL_law_128 : decode cL_law 128 = .ok (.ireturn, 1) := by decide +kernel
theorem dL_law_129 : decode cL_law 129 = .ok (.aload_n 1, 1) := by decide +kernel
theorem dL_law_130 : decode cL_law 130 = .ok (.aload_n 0, 1) := by decide +kernel
theorem dL_law_131 : decode cL_law 131 = .ok (.iload 4, 2) := by decide +kernel
theorem dL_law_133 : decode cL_law 133 = .ok (.iconst 1, 1) := by decide +kernel
theorem dL_law_134 : decode cL_law 134 = .ok (.iadd, 1) := by decide +kernel
theorem dL_law_135 : decode cL_law 135 = .ok (.iaload, 1) := by decide +kernel
theorem dL_law_136 : decode cL_law 136 = .ok (.aload_n 0, 1) := by decide +kernel
theorem dL_law_137 : decode cL_law 137 = .ok (.iload 4, 2) := by decide +kernel
theorem dL_law_139 : decode cL_law 139 = .ok (.iconst 2, 1) := by decide +kernel
theorem dL_law_140 : decode cL_law 140 = .ok (.iadd, 1) := by decide +kernel
theorem dL_law_141 : decode cL_law 141 = .ok (.iaload, 1) := by decide +kernel
theorem dL_law_142 : decode cL_law 142 = .ok (.aload_n 0, 1) := by decide +kernel
theorem dL_law_143 : decode cL_law 143 = .ok (.iload 4, 2) := by decide +kernel
theorem dL_law_145 : decode cL_law 145 = .ok (.iconst 3, 1) := by decide +kernel
theorem dL_law_146 : decode cL_law 146 = .ok (.iadd, 1) := by decide +kernel
theorem dL_law_147 : decode cL_law 147 = .ok (.iaload, 1) := by decide +kernel
theorem dL_law_148 : decode cL_law 148 = .ok (.ifCond .eq 7, 3) := by decide +kernel
theorem dL_law_151 : decode cL_law 151 = .ok (.iconst 1, 1) := by decide +kernel
theorem dL_law_152 : decode cL_law 152 = .ok (.goto 4, 3) := by decide +kernel
theorem dL_law_155 : decode cL_law 155 = .ok (.iconst 0, 1) := by decide +kernel
theorem dL_law_156 : decode cL_law 156 = .ok (.invokevirtual 24, 3) := by decide +kernel
theorem dL_law_159 : decode cL_law 159 = .ok (.aload_n 2, 1) := by decide +kernel
theorem dL_law_160 : decode cL_law 160 = .ok (.aload_n 0, 1) := by decide +kernel
theorem dL_law_161 : decode cL_law 161 = .ok (.iload 4, 2) := by decide +kernel
theorem dL_law_163 : decode cL_law 163 = .ok (.iconst 1, 1) := by decide +kernel
theorem dL_law_164 : decode cL_law 164 = .ok (.iadd, 1) := by decide +kernel
theorem dL_law_165 : decode cL_law 165 = .ok (.iaload, 1) := by decide +kernel
theorem dL_law_166 : decode cL_law 166 = .ok (.aload_n 0, 1) := by decide +kernel
theorem dL_law_167 : decode cL_law 167 = .ok (.iload 4, 2) := by decide +kernel
theorem dL_law_169 : decode cL_law 169 = .ok (.iconst 2, 1) := by decide +kernel
theorem dL_law_170 : decode cL_law 170 = .ok (.iadd, 1) := by decide +kernel
theorem dL_law_171 : decode cL_law 171 = .ok (.iaload, 1) := by decide +kernel
theorem dL_law_172 : decode cL_law 172 = .ok (.aload_n 0, 1) := by decide +kernel
theorem dL_law_173 : decode cL_law 173 = .ok (.iload 4, 2) := by decide +kernel
theorem dL_law_175 : decode cL_law 175 = .ok (.iconst 3, 1) := by decide +kernel
theorem dL_law_176 : decode cL_law 176 = .ok (.iadd, 1) := by decide +kernel
theorem dL_law_177 : decode cL_law 177 = .ok (.iaload, 1) := by decide +kernel
theorem dL_law_178 : decode cL_law 178 = .ok (.ifCond .eq 7, 3) := by decide +kernel
theorem dL_law_181 : decode cL_law 181 = .ok (.iconst 1, 1) := by decide +kernel
theorem dL_law_182 : decode cL_law 182 = .ok (.goto 4, 3) := by decide +kernel
theorem dL_law_185 : decode cL_law 185 = .ok (.iconst 0, 1) := by decide +kernel
theorem dL_law_186 : decode cL_law 186 = .ok (.invokevirtual 28, 3) := by decide +kernel
theorem dL_law_189 : decode cL_law 189 = .ok (.if_icmp .eq 436, 3) := by decide +kernel
theorem dL_law_192 : decode cL_law 192 = .ok (.iconst 0, 1) := by decide +kernel
theorem dL_law_193 : decode cL_law 193 = .ok (.ireturn, 1) := by decide +kernel
theorem dL_law_194 : decode cL_law 194 = .ok (.aload_n 1, 1) := by decide +kernel
theorem dL_law_195 : decode cL_law 195 = .ok (.aload_n 0, 1) := by decide +kernel
theorem dL_law_196 : decode cL_law 196 = .ok (.iload 4, 2) := by decide +kernel
theorem dL_law_198 : decode cL_law 198 = .ok (.iconst 1, 1) := by decide +kernel
theorem dL_law_199 : decode cL_law 199 = .ok (.iadd, 1) := by decide +kernel
theorem dL_law_200 : decode cL_law 200 = .ok (.iaload, 1) := by decide +kernel
theorem dL_law_201 : decode cL_law 201 = .ok (.aload_n 0, 1) := by decide +kernel
theorem dL_law_202 : decode cL_law 202 = .ok (.iload 4, 2) := by decide +kernel
theorem dL_law_204 : decode cL_law 204 = .ok (.iconst 2, 1) := by decide +kernel
theorem dL_law_205 : decode cL_law 205 = .ok (.iadd, 1) := by decide +kernel
theorem dL_law_206 : decode cL_law 206 = .ok (.iaload, 1) := by decide +kernel
theorem dL_law_207 : decode cL_law 207 = .ok (.aload_n 0, 1) := by decide +kernel
theorem dL_law_208 : decode cL_law 208 = .ok (.iload 4, 2) := by decide +kernel
theorem dL_law_210 : decode cL_law 210 = .ok (.iconst 3, 1) := by decide +kernel
theorem dL_law_211 : decode cL_law 211 = .ok (.iadd, 1) := by decide +kernel
theorem dL_law_212 : decode cL_law 212 = .ok (.iaload, 1) := by decide +kernel
theorem dL_law_213 : decode cL_law 213 = .ok (.i2l, 1) := by decide +kernel
theorem dL_law_214 : decode cL_law 214 = .ok (.bipush 32, 2) := by decide +kernel
theorem dL_law_216 : decode cL_law 216 = .ok (.lshl, 1) := by decide +kernel
theorem dL_law_217 : decode cL_law 217 = .ok (.aload_n 0, 1) := by decide +kernel
theorem dL_law_218 : decode cL_law 218 = .ok (.iload 4, 2) := by decide +kernel
theorem dL_law_220 : decode cL_law 220 = .ok (.iconst 4, 1) := by decide +kernel
theorem dL_law_221 : decode cL_law 221 = .ok (.iadd, 1) := by decide +kernel
theorem dL_law_222 : decode cL_law 222 = .ok (.iaload, 1) := by decide +kernel
theorem dL_law_223 : decode cL_law 223 = .ok (.i2l, 1) := by decide +kernel
theorem dL_law_224 : decode cL_law 224 = .ok (.ldc2_w 29, 3) := by decide +kernel
theorem dL_law_227 : decode cL_law 227 = .ok (.land, 1) := by decide +kernel
theorem dL_law_228 : decode cL_law 228 = .ok (.lor, 1) := by decide +kernel
theorem dL_law_229 : decode cL_law 229 = .ok (.aload_n 0, 1) := by decide +kernel
theorem dL_law_230 : decode cL_law 230 = .ok (.iload 4, 2) := by decide +kernel
theorem dL_law_232 : decode cL_law 232 = .ok (.iconst 5, 1) := by decide +kernel
theorem dL_law_233 : decode cL_law 233 = .ok (.iadd, 1) := by decide +kernel
theorem dL_law_234 : decode cL_law 234 = .ok (.iaload, 1) := by decide +kernel
theorem dL_law_235 : decode cL_law 235 = .ok (.i2l, 1) := by decide +kernel
theorem dL_law_236 : decode cL_law 236 = .ok (.bipush 32, 2) := by decide +kernel
theorem dL_law_238 : decode cL_law 238 = .ok (.lshl, 1) := by decide +kernel
theorem dL_law_239 : decode cL_law 239 = .ok (.aload_n 0, 1) := by decide +kernel
theorem dL_law_240 : decode cL_law 240 = .ok (.iload 4, 2) := by decide +kernel
theorem dL_law_242 : decode cL_law 242 = .ok (.bipush 6, 2) := by decide +kernel
theorem dL_law_244 : decode cL_law 244 = .ok (.iadd, 1) := by decide +kernel
theorem dL_law_245 : decode cL_law 245 = .ok (.iaload, 1) := by decide +kernel
theorem dL_law_246 : decode cL_law 246 = .ok (.i2l, 1) := by decide +kernel
theorem dL_law_247 : decode cL_law 247 = .ok (.ldc2_w 29, 3) := by decide +kernel
theorem dL_law_250 : decode cL_law 250 = .ok (.land, 1) := by decide +kernel
theorem dL_law_251 : decode cL_law 251 = .ok (.lor, 1) := by decide +kernel
theorem dL_law_252 : decode cL_law 252 = .ok (.invokevirtual 31, 3) := by decide +kernel
theorem dL_law_255 : decode cL_law 255 = .ok (.aload_n 2, 1) := by decide +kernel
theorem dL_law_256 : decode cL_law 256 = .ok (.aload_n 0, 1) := by decide +kernel
theorem dL_law_257 : decode cL_law 257 = .ok (.iload 4, 2) := by decide +kernel
theorem dL_law_259 : decode cL_law 259 = .ok (.iconst 1, 1) := by decide +kernel
theorem dL_law_260 : decode cL_law 260 = .ok (.iadd, 1) := by decide +kernel
theorem dL_law_261 : decode cL_law 261 = .ok (.iaload, 1) := by decide +kernel
theorem dL_law_262 : decode cL_law 262 = .ok (.aload_n 0, 1) := by decide +kernel
theorem dL_law_263 : decode cL_law 263 = .ok (.iload 4, 2) := by decide +kernel
theorem dL_law_265 : decode cL_law 265 = .ok (.iconst 2, 1) := by decide +kernel
theorem dL_law_266 : decode cL_law 266 = .ok (.iadd, 1) := by decide +kernel
theorem dL_law_267 : decode cL_law 267 = .ok (.iaload, 1) := by decide +kernel
theorem dL_law_268 : decode cL_law 268 = .ok (.aload_n 0, 1) := by decide +kernel
theorem dL_law_269 : decode cL_law 269 = .ok (.iload 4, 2) := by decide +kernel
theorem dL_law_271 : decode cL_law 271 = .ok (.iconst 3, 1) := by decide +kernel
theorem dL_law_272 : decode cL_law 272 = .ok (.iadd, 1) := by decide +kernel
theorem dL_law_273 : decode cL_law 273 = .ok (.iaload, 1) := by decide +kernel
theorem dL_law_274 : decode cL_law 274 = .ok (.i2l, 1) := by decide +kernel
theorem dL_law_275 : decode cL_law 275 = .ok (.bipush 32, 2) := by decide +kernel
theorem dL_law_277 : decode cL_law 277 = .ok (.lshl, 1) := by decide +kernel
theorem dL_law_278 : decode cL_law 278 = .ok (.aload_n 0, 1) := by decide +kernel
theorem dL_law_279 : decode cL_law 279 = .ok (.iload 4, 2) := by decide +kernel
theorem dL_law_281 : decode cL_law 281 = .ok (.iconst 4, 1) := by decide +kernel
theorem dL_law_282 : decode cL_law 282 = .ok (.iadd, 1) := by decide +kernel
theorem dL_law_283 : decode cL_law 283 = .ok (.iaload, 1) := by decide +kernel
theorem dL_law_284 : decode cL_law 284 = .ok (.i2l, 1) := by decide +kernel
theorem dL_law_285 : decode cL_law 285 = .ok (.ldc2_w 29, 3) := by decide +kernel
theorem dL_law_288 : decode cL_law 288 = .ok (.land, 1) := by decide +kernel
theorem dL_law_289 : decode cL_law 289 = .ok (.lor, 1) := by decide +kernel
theorem dL_law_290 : decode cL_law 290 = .ok (.aload_n 0, 1) := by decide +kernel
theorem dL_law_291 : decode cL_law 291 = .ok (.iload 4, 2) := by decide +kernel
theorem dL_law_293 : decode cL_law 293 = .ok (.iconst 5, 1) := by decide +kernel
theorem dL_law_294 : decode cL_law 294 = .ok (.iadd, 1) := by decide +kernel
theorem dL_law_295 : decode cL_law 295 = .ok (.iaload, 1) := by decide +kernel
theorem dL_law_296 : decode cL_law 296 = .ok (.i2l, 1) := by decide +kernel
theorem dL_law_297 : decode cL_law 297 = .ok (.bipush 32, 2) := by decide +kernel
theorem dL_law_299 : decode cL_law 299 = .ok (.lshl, 1) := by decide +kernel
theorem dL_law_300 : decode cL_law 300 = .ok (.aload_n 0, 1) := by decide +kernel
theorem dL_law_301 : decode cL_law 301 = .ok (.iload 4, 2) := by decide +kernel
theorem dL_law_303 : decode cL_law 303 = .ok (.bipush 6, 2) := by decide +kernel
theorem dL_law_305 : decode cL_law 305 = .ok (.iadd, 1) := by decide +kernel
theorem dL_law_306 : decode cL_law 306 = .ok (.iaload, 1) := by decide +kernel
theorem dL_law_307 : decode cL_law 307 = .ok (.i2l, 1) := by decide +kernel
theorem dL_law_308 : decode cL_law 308 = .ok (.ldc2_w 29, 3) := by decide +kernel
theorem dL_law_311 : decode cL_law 311 = .ok (.land, 1) := by decide +kernel
theorem dL_law_312 : decode cL_law 312 = .ok (.lor, 1) := by decide +kernel
theorem dL_law_313 : decode cL_law 313 = .ok (.invokevirtual 35, 3) := by decide +kernel
theorem dL_law_316 : decode cL_law 316 = .ok (.if_icmp .eq 309, 3) := by decide +kernel
theorem dL_law_319 : decode cL_law 319 = .ok (.iconst 0, 1) := by decide +kernel
theorem dL_law_320 : decode cL_law 320 = .ok (.ireturn, 1) := by decide +kernel
theorem dL_law_321 : decode cL_law 321 = .ok (.aload_n 1, 1) := by decide +kernel
theorem dL_law_322 : decode cL_law 322 = .ok (.aload_n 0, 1) := by decide +kernel
theorem dL_law_323 : decode cL_law 323 = .ok (.iload 4, 2) := by decide +kernel
theorem dL_law_325 : decode cL_law 325 = .ok (.iconst 1, 1) := by decide +kernel
theorem dL_law_326 : decode cL_law 326 = .ok (.iadd, 1) := by decide +kernel
theorem dL_law_327 : decode cL_law 327 = .ok (.iaload, 1) := by decide +kernel
theorem dL_law_328 : decode cL_law 328 = .ok (.aload_n 0, 1) := by decide +kernel
theorem dL_law_329 : decode cL_law 329 = .ok (.iload 4, 2) := by decide +kernel
theorem dL_law_331 : decode cL_law 331 = .ok (.iconst 2, 1) := by decide +kernel
theorem dL_law_332 : decode cL_law 332 = .ok (.iadd, 1) := by decide +kernel
theorem dL_law_333 : decode cL_law 333 = .ok (.iaload, 1) := by decide +kernel
theorem dL_law_334 : decode cL_law 334 = .ok (.invokevirtual 36, 3) := by decide +kernel
theorem dL_law_337 : decode cL_law 337 = .ok (.aload_n 2, 1) := by decide +kernel
theorem dL_law_338 : decode cL_law 338 = .ok (.aload_n 0, 1) := by decide +kernel
theorem dL_law_339 : decode cL_law 339 = .ok (.iload 4, 2) := by decide +kernel
theorem dL_law_341 : decode cL_law 341 = .ok (.iconst 1, 1) := by decide +kernel
theorem dL_law_342 : decode cL_law 342 = .ok (.iadd, 1) := by decide +kernel
theorem dL_law_343 : decode cL_law 343 = .ok (.iaload, 1) := by decide +kernel
theorem dL_law_344 : decode cL_law 344 = .ok (.aload_n 0, 1) := by decide +kernel
theorem dL_law_345 : decode cL_law 345 = .ok (.iload 4, 2) := by decide +kernel
theorem dL_law_347 : decode cL_law 347 = .ok (.iconst 2, 1) := by decide +kernel
theorem dL_law_348 : decode cL_law 348 = .ok (.iadd, 1) := by decide +kernel
theorem dL_law_349 : decode cL_law 349 = .ok (.iaload, 1) := by decide +kernel
theorem dL_law_350 : decode cL_law 350 = .ok (.invokevirtual 39, 3) := by decide +kernel
theorem dL_law_353 : decode cL_law 353 = .ok (.if_icmp .eq 272, 3) := by decide +kernel
theorem dL_law_356 : decode cL_law 356 = .ok (.iconst 0, 1) := by decide +kernel
theorem dL_law_357 : decode cL_law 357 = .ok (.ireturn, 1) := by decide +kernel
theorem dL_law_358 : decode cL_law 358 = .ok (.aload_n 1, 1) := by decide +kernel
theorem dL_law_359 : decode cL_law 359 = .ok (.invokevirtual 40, 3) := by decide +kernel
theorem dL_law_362 : decode cL_law 362 = .ok (.aload_n 2, 1) := by decide +kernel
theorem dL_law_363 : decode cL_law 363 = .ok (.invokevirtual 44, 3) := by decide +kernel
theorem dL_law_366 : decode cL_law 366 = .ok (.if_icmp .eq 259, 3) := by decide +kernel
theorem dL_law_369 : decode cL_law 369 = .ok (.iconst 0, 1) := by decide +kernel
theorem dL_law_370 : decode cL_law 370 = .ok (.ireturn, 1) := by decide +kernel
theorem dL_law_371 : decode cL_law 371 = .ok (.aload_n 1, 1) := by decide +kernel
theorem dL_law_372 : decode cL_law 372 = .ok (.aload_n 0, 1) := by decide +kernel
theorem dL_law_373 : decode cL_law 373 = .ok (.iload 4, 2) := by decide +kernel
theorem dL_law_375 : decode cL_law 375 = .ok (.iconst 1, 1) := by decide +kernel
theorem dL_law_376 : decode cL_law 376 = .ok (.iadd, 1) := by decide +kernel
theorem dL_law_377 : decode cL_law 377 = .ok (.iaload, 1) := by decide +kernel
theorem dL_law_378 : decode cL_law 378 = .ok (.aload_n 0, 1) := by decide +kernel
theorem dL_law_379 : decode cL_law 379 = .ok (.iload 4, 2) := by decide +kernel
theorem dL_law_381 : decode cL_law 381 = .ok (.iconst 2, 1) := by decide +kernel
theorem dL_law_382 : decode cL_law 382 = .ok (.iadd, 1) := by decide +kernel
theorem dL_law_383 : decode cL_law 383 = .ok (.iaload, 1) := by decide +kernel
theorem dL_law_384 : decode cL_law 384 = .ok (.aload_n 3, 1) := by decide +kernel
theorem dL_law_385 : decode cL_law 385 = .ok (.invokestatic 45, 3) := by decide +kernel
theorem dL_law_388 : decode cL_law 388 = .ok (.istore 5, 2) := by decide +kernel
theorem dL_law_390 : decode cL_law 390 = .ok (.aload_n 2, 1) := by decide +kernel
theorem dL_law_391 : decode cL_law 391 = .ok (.aload_n 0, 1) := by decide +kernel
theorem dL_law_392 : decode cL_law 392 = .ok (.iload 4, 2) := by decide +kernel
theorem dL_law_394 : decode cL_law 394 = .ok (.iconst 1, 1) := by decide +kernel
theorem dL_law_395 : decode cL_law 395 = .ok (.iadd, 1) := by decide +kernel
theorem dL_law_396 : decode cL_law 396 = .ok (.iaload, 1) := by decide +kernel
theorem dL_law_397 : decode cL_law 397 = .ok (.aload_n 0, 1) := by decide +kernel
theorem dL_law_398 : decode cL_law 398 = .ok (.iload 4, 2) := by decide +kernel
theorem dL_law_400 : decode cL_law 400 = .ok (.iconst 2, 1) := by decide +kernel
theorem dL_law_401 : decode cL_law 401 = .ok (.iadd, 1) := by decide +kernel
theorem dL_law_402 : decode cL_law 402 = .ok (.iaload, 1) := by decide +kernel
theorem dL_law_403 : decode cL_law 403 = .ok (.invokevirtual 50, 3) := by decide +kernel
theorem dL_law_406 : decode cL_law 406 = .ok (.istore 6, 2) := by decide +kernel
theorem dL_law_408 : decode cL_law 408 = .ok (.aload_n 2, 1) := by decide +kernel
theorem dL_law_409 : decode cL_law 409 = .ok (.invokevirtual 51, 3) := by decide +kernel
theorem dL_law_412 : decode cL_law 412 = .ok (.iload 5, 2) := by decide +kernel
theorem dL_law_414 : decode cL_law 414 = .ok (.if_icmp .eq 5, 3) := by decide +kernel
theorem dL_law_417 : decode cL_law 417 = .ok (.iconst 0, 1) := by decide +kernel
theorem dL_law_418 : decode cL_law 418 = .ok (.ireturn, 1) := by decide +kernel
theorem dL_law_419 : decode cL_law 419 = .ok (.iload 5, 2) := by decide +kernel
theorem dL_law_421 : decode cL_law 421 = .ok (.ifCond .ne 15, 3) := by decide +kernel
theorem dL_law_424 : decode cL_law 424 = .ok (.aload_n 3, 1) := by decide +kernel
theorem dL_law_425 : decode cL_law 425 = .ok (.iconst 0, 1) := by decide +kernel
theorem dL_law_426 : decode cL_law 426 = .ok (.laload, 1) := by decide +kernel
theorem dL_law_427 : decode cL_law 427 = .ok (.iload 6, 2) := by decide +kernel
theorem dL_law_429 : decode cL_law 429 = .ok (.i2l, 1) := by decide +kernel
theorem dL_law_430 : decode cL_law 430 = .ok (.lcmp, 1) := by decide +kernel
theorem dL_law_431 : decode cL_law 431 = .ok (.ifCond .eq 5, 3) := by decide +kernel
theorem dL_law_434 : decode cL_law 434 = .ok (.iconst 0, 1) := by decide +kernel
theorem dL_law_435 : decode cL_law 435 = .ok (.ireturn, 1) := by decide +kernel
theorem dL_law_436 : decode cL_law 436 = .ok (.goto 189, 3) := by decide +kernel
theorem dL_law_439 : decode cL_law 439 = .ok (.aload_n 1, 1) := by decide +kernel
theorem dL_law_440 : decode cL_law 440 = .ok (.invokevirtual 54, 3) := by decide +kernel
theorem dL_law_443 : decode cL_law 443 = .ok (.aload_n 2, 1) := by decide +kernel
theorem dL_law_444 : decode cL_law 444 = .ok (.invokevirtual 57, 3) := by decide +kernel
theorem dL_law_447 : decode cL_law 447 = .ok (.if_icmp .eq 178, 3) := by decide +kernel
theorem dL_law_450 : decode cL_law 450 = .ok (.iconst 0, 1) := by decide +kernel
theorem dL_law_451 : decode cL_law 451 = .ok (.ireturn, 1) := by decide +kernel
theorem dL_law_452 : decode cL_law 452 = .ok (.aload_n 1, 1) := by decide +kernel
theorem dL_law_453 : decode cL_law 453 = .ok (.aload_n 0, 1) := by decide +kernel
theorem dL_law_454 : decode cL_law 454 = .ok (.iload 4, 2) := by decide +kernel
theorem dL_law_456 : decode cL_law 456 = .ok (.iconst 1, 1) := by decide +kernel
theorem dL_law_457 : decode cL_law 457 = .ok (.iadd, 1) := by decide +kernel
theorem dL_law_458 : decode cL_law 458 = .ok (.iaload, 1) := by decide +kernel
theorem dL_law_459 : decode cL_law 459 = .ok (.aload_n 0, 1) := by decide +kernel
theorem dL_law_460 : decode cL_law 460 = .ok (.iload 4, 2) := by decide +kernel
theorem dL_law_462 : decode cL_law 462 = .ok (.iconst 2, 1) := by decide +kernel
theorem dL_law_463 : decode cL_law 463 = .ok (.iadd, 1) := by decide +kernel
theorem dL_law_464 : decode cL_law 464 = .ok (.iaload, 1) := by decide +kernel
theorem dL_law_465 : decode cL_law 465 = .ok (.invokevirtual 58, 3) := by decide +kernel
theorem dL_law_468 : decode cL_law 468 = .ok (.aload_n 2, 1) := by decide +kernel
theorem dL_law_469 : decode cL_law 469 = .ok (.aload_n 0, 1) := by decide +kernel
theorem dL_law_470 : decode cL_law 470 = .ok (.iload 4, 2) := by decide +kernel
theorem dL_law_472 : decode cL_law 472 = .ok (.iconst 1, 1) := by decide +kernel
theorem dL_law_473 : decode cL_law 473 = .ok (.iadd, 1) := by decide +kernel
theorem dL_law_474 : decode cL_law 474 = .ok (.iaload, 1) := by decide +kernel
theorem dL_law_475 : decode cL_law 475 = .ok (.aload_n 0, 1) := by decide +kernel
theorem dL_law_476 : decode cL_law 476 = .ok (.iload 4, 2) := by decide +kernel
theorem dL_law_478 : decode cL_law 478 = .ok (.iconst 2, 1) := by decide +kernel
theorem dL_law_479 : decode cL_law 479 = .ok (.iadd, 1) := by decide +kernel
theorem dL_law_480 : decode cL_law 480 = .ok (.iaload, 1) := by decide +kernel
theorem dL_law_481 : decode cL_law 481 = .ok (.invokevirtual 61, 3) := by decide +kernel
theorem dL_law_484 : decode cL_law 484 = .ok (.if_icmp .eq 141, 3) := by decide +kernel
theorem dL_law_487 : decode cL_law 487 = .ok (.iconst 0, 1) := by decide +kernel
theorem dL_law_488 : decode cL_law 488 = .ok (.ireturn, 1) := by decide +kernel
theorem dL_law_489 : decode cL_law 489 = .ok (.aload_n 1, 1) := by decide +kernel
theorem dL_law_490 : decode cL_law 490 = .ok (.aload_n 0, 1) := by decide +kernel
theorem dL_law_491 : decode cL_law 491 = .ok (.iload 4, 2) := by decide +kernel
theorem dL_law_493 : decode cL_law 493 = .ok (.iconst 1, 1) := by decide +kernel
theorem dL_law_494 : decode cL_law 494 = .ok (.iadd, 1) := by decide +kernel
theorem dL_law_495 : decode cL_law 495 = .ok (.iaload, 1) := by decide +kernel
theorem dL_law_496 : decode cL_law 496 = .ok (.aload_n 0, 1) := by decide +kernel
theorem dL_law_497 : decode cL_law 497 = .ok (.iload 4, 2) := by decide +kernel
theorem dL_law_499 : decode cL_law 499 = .ok (.iconst 2, 1) := by decide +kernel
theorem dL_law_500 : decode cL_law 500 = .ok (.iadd, 1) := by decide +kernel
theorem dL_law_501 : decode cL_law 501 = .ok (.iaload, 1) := by decide +kernel
theorem dL_law_502 : decode cL_law 502 = .ok (.invokevirtual 62, 3) := by decide +kernel
theorem dL_law_505 : decode cL_law 505 = .ok (.aload_n 2, 1) := by decide +kernel
theorem dL_law_506 : decode cL_law 506 = .ok (.aload_n 0, 1) := by decide +kernel
theorem dL_law_507 : decode cL_law 507 = .ok (.iload 4, 2) := by decide +kernel
theorem dL_law_509 : decode cL_law 509 = .ok (.iconst 1, 1) := by decide +kernel
theorem dL_law_510 : decode cL_law 510 = .ok (.iadd, 1) := by decide +kernel
theorem dL_law_511 : decode cL_law 511 = .ok (.iaload, 1) := by decide +kernel
theorem dL_law_512 : decode cL_law 512 = .ok (.aload_n 0, 1) := by decide +kernel
theorem dL_law_513 : decode cL_law 513 = .ok (.iload 4, 2) := by decide +kernel
theorem dL_law_515 : decode cL_law 515 = .ok (.iconst 2, 1) := by decide +kernel
theorem dL_law_516 : decode cL_law 516 = .ok (.iadd, 1) := by decide +kernel
theorem dL_law_517 : decode cL_law 517 = .ok (.iaload, 1) := by decide +kernel
theorem dL_law_518 : decode cL_law 518 = .ok (.invokevirtual 65, 3) := by decide +kernel
theorem dL_law_521 : decode cL_law 521 = .ok (.if_icmp .eq 104, 3) := by decide +kernel
theorem dL_law_524 : decode cL_law 524 = .ok (.iconst 0, 1) := by decide +kernel
theorem dL_law_525 : decode cL_law 525 = .ok (.ireturn, 1) := by decide +kernel
theorem dL_law_526 : decode cL_law 526 = .ok (.aload_n 1, 1) := by decide +kernel
theorem dL_law_527 : decode cL_law 527 = .ok (.aload_n 0, 1) := by decide +kernel
theorem dL_law_528 : decode cL_law 528 = .ok (.iload 4, 2) := by decide +kernel
theorem dL_law_530 : decode cL_law 530 = .ok (.iconst 1, 1) := by decide +kernel
theorem dL_law_531 : decode cL_law 531 = .ok (.iadd, 1) := by decide +kernel
theorem dL_law_532 : decode cL_law 532 = .ok (.iaload, 1) := by decide +kernel
theorem dL_law_533 : decode cL_law 533 = .ok (.aload_n 0, 1) := by decide +kernel
theorem dL_law_534 : decode cL_law 534 = .ok (.iload 4, 2) := by decide +kernel
theorem dL_law_536 : decode cL_law 536 = .ok (.iconst 2, 1) := by decide +kernel
theorem dL_law_537 : decode cL_law 537 = .ok (.iadd, 1) := by decide +kernel
theorem dL_law_538 : decode cL_law 538 = .ok (.iaload, 1) := by decide +kernel
theorem dL_law_539 : decode cL_law 539 = .ok (.invokevirtual 66, 3) := by decide +kernel
theorem dL_law_542 : decode cL_law 542 = .ok (.aload_n 2, 1) := by decide +kernel
theorem dL_law_543 : decode cL_law 543 = .ok (.aload_n 0, 1) := by decide +kernel
theorem dL_law_544 : decode cL_law 544 = .ok (.iload 4, 2) := by decide +kernel
theorem dL_law_546 : decode cL_law 546 = .ok (.iconst 1, 1) := by decide +kernel
theorem dL_law_547 : decode cL_law 547 = .ok (.iadd, 1) := by decide +kernel
theorem dL_law_548 : decode cL_law 548 = .ok (.iaload, 1) := by decide +kernel
theorem dL_law_549 : decode cL_law 549 = .ok (.aload_n 0, 1) := by decide +kernel
theorem dL_law_550 : decode cL_law 550 = .ok (.iload 4, 2) := by decide +kernel
theorem dL_law_552 : decode cL_law 552 = .ok (.iconst 2, 1) := by decide +kernel
theorem dL_law_553 : decode cL_law 553 = .ok (.iadd, 1) := by decide +kernel
theorem dL_law_554 : decode cL_law 554 = .ok (.iaload, 1) := by decide +kernel
theorem dL_law_555 : decode cL_law 555 = .ok (.invokevirtual 69, 3) := by decide +kernel
theorem dL_law_558 : decode cL_law 558 = .ok (.if_icmp .eq 67, 3) := by decide +kernel
theorem dL_law_561 : decode cL_law 561 = .ok (.iconst 0, 1) := by decide +kernel
theorem dL_law_562 : decode cL_law 562 = .ok (.ireturn, 1) := by decide +kernel
theorem dL_law_563 : decode cL_law 563 = .ok (.aload_n 1, 1) := by decide +kernel
theorem dL_law_564 : decode cL_law 564 = .ok (.aload_n 0, 1) := by decide +kernel
theorem dL_law_565 : decode cL_law 565 = .ok (.iload 4, 2) := by decide +kernel
theorem dL_law_567 : decode cL_law 567 = .ok (.iconst 1, 1) := by decide +kernel
theorem dL_law_568 : decode cL_law 568 = .ok (.iadd, 1) := by decide +kernel
theorem dL_law_569 : decode cL_law 569 = .ok (.iaload, 1) := by decide +kernel
theorem dL_law_570 : decode cL_law 570 = .ok (.aload_n 0, 1) := by decide +kernel
theorem dL_law_571 : decode cL_law 571 = .ok (.iload 4, 2) := by decide +kernel
theorem dL_law_573 : decode cL_law 573 = .ok (.iconst 2, 1) := by decide +kernel
theorem dL_law_574 : decode cL_law 574 = .ok (.iadd, 1) := by decide +kernel
theorem dL_law_575 : decode cL_law 575 = .ok (.iaload, 1) := by decide +kernel
theorem dL_law_576 : decode cL_law 576 = .ok (.invokevirtual 70, 3) := by decide +kernel
theorem dL_law_579 : decode cL_law 579 = .ok (.aload_n 2, 1) := by decide +kernel
theorem dL_law_580 : decode cL_law 580 = .ok (.aload_n 0, 1) := by decide +kernel
theorem dL_law_581 : decode cL_law 581 = .ok (.iload 4, 2) := by decide +kernel
theorem dL_law_583 : decode cL_law 583 = .ok (.iconst 1, 1) := by decide +kernel
theorem dL_law_584 : decode cL_law 584 = .ok (.iadd, 1) := by decide +kernel
theorem dL_law_585 : decode cL_law 585 = .ok (.iaload, 1) := by decide +kernel
theorem dL_law_586 : decode cL_law 586 = .ok (.aload_n 0, 1) := by decide +kernel
theorem dL_law_587 : decode cL_law 587 = .ok (.iload 4, 2) := by decide +kernel
theorem dL_law_589 : decode cL_law 589 = .ok (.iconst 2, 1) := by decide +kernel
theorem dL_law_590 : decode cL_law 590 = .ok (.iadd, 1) := by decide +kernel
theorem dL_law_591 : decode cL_law 591 = .ok (.iaload, 1) := by decide +kernel
theorem dL_law_592 : decode cL_law 592 = .ok (.invokevirtual 73, 3) := by decide +kernel
theorem dL_law_595 : decode cL_law 595 = .ok (.if_icmp .eq 30, 3) := by decide +kernel
theorem dL_law_598 : decode cL_law 598 = .ok (.iconst 0, 1) := by decide +kernel
theorem dL_law_599 : decode cL_law 599 = .ok (.ireturn, 1) := by decide +kernel
theorem dL_law_600 : decode cL_law 600 = .ok (.aload_n 1, 1) := by decide +kernel
theorem dL_law_601 : decode cL_law 601 = .ok (.aload_n 0, 1) := by decide +kernel
theorem dL_law_602 : decode cL_law 602 = .ok (.iload 4, 2) := by decide +kernel
theorem dL_law_604 : decode cL_law 604 = .ok (.iconst 1, 1) := by decide +kernel
theorem dL_law_605 : decode cL_law 605 = .ok (.iadd, 1) := by decide +kernel
theorem dL_law_606 : decode cL_law 606 = .ok (.iaload, 1) := by decide +kernel
theorem dL_law_607 : decode cL_law 607 = .ok (.invokevirtual 74, 3) := by decide +kernel
theorem dL_law_610 : decode cL_law 610 = .ok (.aload_n 2, 1) := by decide +kernel
theorem dL_law_611 : decode cL_law 611 = .ok (.aload_n 0, 1) := by decide +kernel
theorem dL_law_612 : decode cL_law 612 = .ok (.iload 4, 2) := by decide +kernel
theorem dL_law_614 : decode cL_law 614 = .ok (.iconst 1, 1) := by decide +kernel
theorem dL_law_615 : decode cL_law 615 = .ok (.iadd, 1) := by decide +kernel
theorem dL_law_616 : decode cL_law 616 = .ok (.iaload, 1) := by decide +kernel
theorem dL_law_617 : decode cL_law 617 = .ok (.invokevirtual 77, 3) := by decide +kernel
theorem dL_law_620 : decode cL_law 620 = .ok (.if_icmp .eq 5, 3) := by decide +kernel
theorem dL_law_623 : decode cL_law 623 = .ok (.iconst 0, 1) := by decide +kernel
theorem dL_law_624 : decode cL_law 624 = .ok (.ireturn, 1) := by decide +kernel
theorem dL_law_625 : decode cL_law 625 = .ok (.iinc 4 7, 3) := by decide +kernel
theorem dL_law_628 : decode cL_law 628 = .ok (.goto (-605), 3) := by decide +kernel
theorem dL_law_631 : decode cL_law 631 = .ok (.iconst 1, 1) := by decide +kernel
theorem dL_law_632 : decode cL_law 632 = .ok (.ireturn, 1) := by decide +kernel
abbrev vwCl : List vw_C := [(RX0, TX0, 19)]
/-! ===== END printed: names ===== -/

