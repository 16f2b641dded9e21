/-! NAMES of M (PortRulesModel): methods, words, decode rows: by program out of the tables and the listing -/
abbrev cM_init : ByteArray := prog_3_method_1_code
def yM_init : MethodName := ⟨RX1, "<init>", "()V"⟩
abbrev cM_thrown : ByteArray := prog_3_method_2_code
def yM_thrown : MethodName := ⟨RX1, "thrown", "()I"⟩
abbrev cM_part : ByteArray := prog_3_method_4_code
def yM_part : MethodName := ⟨RX1, "part", "(I)I"⟩
abbrev cM_isIn : ByteArray := prog_3_method_3_code
def yM_isIn : MethodName := ⟨RX1, "isIn", "(JJJ)Z"⟩
abbrev cM_port : ByteArray := prog_3_method_5_code
def yM_port : MethodName := ⟨RX1, "port", "(IIZ)I"⟩
abbrev cM_unit : ByteArray := prog_3_method_7_code
def yM_unit : MethodName := ⟨RX1, "unit", "(IIJJ)I"⟩
abbrev cM_isPort : ByteArray := prog_3_method_6_code
def yM_isPort : MethodName := ⟨RX1, "isPort", "(I)Z"⟩
abbrev cM_connect : ByteArray := prog_3_method_9_code
def yM_connect : MethodName := ⟨RX1, "connect", "(II)I"⟩
abbrev cM_isWay : ByteArray := prog_3_method_8_code
def yM_isWay : MethodName := ⟨RX1, "isWay", "(II)Z"⟩
abbrev cM_flatten : ByteArray := prog_3_method_14_code
def yM_flatten : MethodName := ⟨RX1, "flatten", "()I"⟩
abbrev cM_flat : ByteArray := prog_3_method_13_code
def yM_flat : MethodName := ⟨RX1, "flat", "(I)I"⟩
abbrev cM_know : ByteArray := prog_3_method_10_code
def yM_know : MethodName := ⟨RX1, "know", "()V"⟩
abbrev cM_isFlat : ByteArray := prog_3_method_12_code
def yM_isFlat : MethodName := ⟨RX1, "isFlat", "(II)Z"⟩
abbrev cM_isAtomic : ByteArray := prog_3_method_11_code
def yM_isAtomic : MethodName := ⟨RX1, "isAtomic", "(I)Z"⟩
abbrev cM_at : ByteArray := prog_3_method_15_code
def yM_at : MethodName := ⟨RX1, "at", "(II)I"⟩
abbrev cM_check : ByteArray := prog_3_method_21_code
def yM_check : MethodName := ⟨RX1, "check", "()I"⟩
abbrev cM_isReading : ByteArray := prog_3_method_20_code
def yM_isReading : MethodName := ⟨RX1, "isReading", "(I)Z"⟩
abbrev cM_isBrokenAt : ByteArray := prog_3_method_19_code
def yM_isBrokenAt : MethodName := ⟨RX1, "isBrokenAt", "(II)Z"⟩
abbrev cM_leadTo : ByteArray := prog_3_method_18_code
def yM_leadTo : MethodName := ⟨RX1, "leadTo", "(I)I"⟩
abbrev cM_isBroken : ByteArray := prog_3_method_17_code
def yM_isBroken : MethodName := ⟨RX1, "isBroken", "(III)Z"⟩
abbrev cM_isManaging : ByteArray := prog_3_method_16_code
def yM_isManaging : MethodName := ⟨RX1, "isManaging", "(I)Z"⟩
abbrev cM_manager : ByteArray := prog_3_method_22_code
def yM_manager : MethodName := ⟨RX1, "manager", "(II)I"⟩
abbrev cM_fallback : ByteArray := prog_3_method_23_code
def yM_fallback : MethodName := ⟨RX1, "fallback", "(II)I"⟩
abbrev cM_queue : ByteArray := prog_3_method_24_code
def yM_queue : MethodName := ⟨RX1, "queue", "(II)I"⟩
abbrev cM_version : ByteArray := prog_3_method_25_code
def yM_version : MethodName := ⟨RX1, "version", "(II)I"⟩
abbrev cM_open : ByteArray := prog_3_method_26_code
def yM_open : MethodName := ⟨RX1, "open", "(I)I"⟩
def wMA : List Cond := [Cond.initialized RX1, Cond.methodLink RX1 1 objectInit, Cond.instanceMethod objectInit, Cond.code objectInit ⟨#[0xb1]⟩ 1 none, Cond.arrayClass .int, Cond.arrayClass .boolean, Cond.arrayClass .long, Cond.methodLink RX1 61 yM_isIn, Cond.methodLink RX1 74 yM_isPort, Cond.methodLink RX1 82 yM_isWay, Cond.methodLink RX1 95 yM_flat, Cond.methodLink RX1 89 yM_know, Cond.methodLink RX1 92 yM_isFlat, Cond.methodLink RX1 86 yM_isAtomic, Cond.methodLink RX1 105 yM_isReading, Cond.methodLink RX1 108 yM_isBrokenAt, Cond.methodLink RX1 102 yM_leadTo, Cond.methodLink RX1 111 yM_isBroken, Cond.methodLink RX1 99 yM_isManaging, Cond.instanceMethod yM_init, Cond.code yM_init cM_init 1 none, Cond.instanceMethod yM_thrown, Cond.selects RX1 yM_thrown yM_thrown, Cond.code yM_thrown cM_thrown 1 (some .int), Cond.instanceMethod yM_part, Cond.selects RX1 yM_part yM_part, Cond.code yM_part cM_part 2 (some .int), Cond.static yM_isIn, Cond.code yM_isIn cM_isIn 6 (some .boolean), Cond.instanceMethod yM_port, Cond.selects RX1 yM_port yM_port, Cond.code yM_port cM_port 4 (some .int), Cond.instanceMethod yM_unit, Cond.selects RX1 yM_unit yM_unit, Cond.code yM_unit cM_unit 7 (some .int), Cond.instanceMethod yM_isPort, Cond.selects RX1 yM_isPort yM_isPort, Cond.code yM_isPort cM_isPort 2 (some .boolean), Cond.instanceMethod yM_connect, Cond.selects RX1 yM_connect yM_connect, Cond.code yM_connect cM_connect 3 (some .int), Cond.instanceMethod yM_isWay, Cond.selects RX1 yM_isWay yM_isWay, Cond.code yM_isWay cM_isWay 5 (some .boolean), Cond.instanceMethod yM_flatten, Cond.selects RX1 yM_flatten yM_flatten, Cond.code yM_flatten cM_flatten 1 (some .int), Cond.instanceMethod yM_flat, Cond.selects RX1 yM_flat yM_flat, Cond.code yM_flat cM_flat 5 (some .int), Cond.instanceMethod yM_know, Cond.selects RX1 yM_know yM_know, Cond.code yM_know cM_know 4 none, Cond.instanceMethod yM_isFlat, Cond.selects RX1 yM_isFlat yM_isFlat, Cond.code yM_isFlat cM_isFlat 3 (some .boolean), Cond.instanceMethod yM_isAtomic, Cond.selects RX1 yM_isAtomic yM_isAtomic, Cond.code yM_isAtomic cM_isAtomic 4 (some .boolean), Cond.instanceMethod yM_at, Cond.selects RX1 yM_at yM_at, Cond.code yM_at cM_at 4 (some .int), Cond.instanceMethod yM_check, Cond.selects RX1 yM_check yM_check, Cond.code yM_check cM_check 4 (some .int), Cond.instanceMethod yM_isReading, Cond.selects RX1 yM_isReading yM_isReading, Cond.code yM_isReading cM_isReading 2 (some .boolean), Cond.instanceMethod yM_isBrokenAt, Cond.selects RX1 yM_isBrokenAt yM_isBrokenAt, Cond.code yM_isBrokenAt cM_isBrokenAt 4 (some .boolean), Cond.instanceMethod yM_leadTo, Cond.selects RX1 yM_leadTo yM_leadTo, Cond.code yM_leadTo cM_leadTo 4 (some .int), Cond.instanceMethod yM_isBroken, Cond.selects RX1 yM_isBroken yM_isBroken, Cond.code yM_isBroken cM_isBroken 5 (some .boolean), Cond.instanceMethod yM_isManaging, Cond.selects RX1 yM_isManaging yM_isManaging, Cond.code yM_isManaging cM_isManaging 4 (some .boolean), Cond.instanceMethod yM_manager, Cond.selects RX1 yM_manager yM_manager, Cond.code yM_manager cM_manager 3 (some .int), Cond.instanceMethod yM_fallback, Cond.selects RX1 yM_fallback yM_fallback, Cond.code yM_fallback cM_fallback 4 (some .int), Cond.instanceMethod yM_queue, Cond.selects RX1 yM_queue yM_queue, Cond.code yM_queue cM_queue 3 (some .int), Cond.instanceMethod yM_version, Cond.selects RX1 yM_version yM_version, Cond.code yM_version cM_version 3 (some .int), Cond.instanceMethod yM_open, Cond.selects RX1 yM_open yM_open, Cond.code yM_open cM_open 4 (some .int), Cond.fieldLink RX1 54 "PortRulesModel" "code" "I", Cond.fieldLink RX1 58 "PortRulesModel" "parts" "I", Cond.fieldLink RX1 7 "PortRulesModel" "in" "[I", Cond.fieldLink RX1 71 "PortRulesModel" "ports" "I", Cond.fieldLink RX1 13 "PortRulesModel" "partOf" "[I", Cond.fieldLink RX1 16 "PortRulesModel" "kindOf" "[I", Cond.fieldLink RX1 19 "PortRulesModel" "provides" "[Z", Cond.fieldLink RX1 23 "PortRulesModel" "unit" "[I", Cond.fieldLink RX1 26 "PortRulesModel" "up" "[J", Cond.fieldLink RX1 30 "PortRulesModel" "down" "[J", Cond.fieldLink RX1 33 "PortRulesModel" "version" "[I", Cond.fieldLink RX1 36 "PortRulesModel" "hasFallback" "[Z", Cond.fieldLink RX1 39 "PortRulesModel" "fallback" "[I", Cond.fieldLink RX1 42 "PortRulesModel" "queue" "[I", Cond.fieldLink RX1 45 "PortRulesModel" "manager" "[I", Cond.fieldLink RX1 48 "PortRulesModel" "leads" "[Z", Cond.fieldLink RX1 51 "PortRulesModel" "reaches" "[Z", Cond.fieldLink RX1 65 "PortRulesModel" "known" "Z", Cond.constantLong RX1 69 (3), Cond.constantLong RX1 78 (20), Cond.constantLong RX1 80 (1000), Cond.constantLong RX1 115 (9), Cond.constantLong RX1 117 (100), Cond.constantLong RX1 119 (9999)] ++ u_ws RX1 TM 18
def wsM_init : List Cond := .code yM_init cM_init 1 none :: wMA
def wsM_thrown : List Cond := .code yM_thrown cM_thrown 1 (some .int) :: wMA
def wsM_part : List Cond := .code yM_part cM_part 2 (some .int) :: wMA
def wsM_isIn : List Cond := .code yM_isIn cM_isIn 6 (some .boolean) :: wMA
def wsM_port : List Cond := .code yM_port cM_port 4 (some .int) :: wMA
def wsM_unit : List Cond := .code yM_unit cM_unit 7 (some .int) :: wMA
def wsM_isPort : List Cond := .code yM_isPort cM_isPort 2 (some .boolean) :: wMA
def wsM_connect : List Cond := .code yM_connect cM_connect 3 (some .int) :: wMA
def wsM_isWay : List Cond := .code yM_isWay cM_isWay 5 (some .boolean) :: wMA
def wsM_flatten : List Cond := .code yM_flatten cM_flatten 1 (some .int) :: wMA
def wsM_flat : List Cond := .code yM_flat cM_flat 5 (some .int) :: wMA
def wsM_know : List Cond := .code yM_know cM_know 4 none :: wMA
def wsM_isFlat : List Cond := .code yM_isFlat cM_isFlat 3 (some .boolean) :: wMA
def wsM_isAtomic : List Cond := .code yM_isAtomic cM_isAtomic 4 (some .boolean) :: wMA
def wsM_at : List Cond := .code yM_at cM_at 4 (some .int) :: wMA
def wsM_check : List Cond := .code yM_check cM_check 4 (some .int) :: wMA
def wsM_isReading : List Cond := .code yM_isReading cM_isReading 2 (some .boolean) :: wMA
def wsM_isBrokenAt : List Cond := .code yM_isBrokenAt cM_isBrokenAt 4 (some .boolean) :: wMA
def wsM_leadTo : List Cond := .code yM_leadTo cM_leadTo 4 (some .int) :: wMA
def wsM_isBroken : List Cond := .code yM_isBroken cM_isBroken 5 (some .boolean) :: wMA
def wsM_isManaging : List Cond := .code yM_isManaging cM_isManaging 4 (some .boolean) :: wMA
def wsM_manager : List Cond := .code yM_manager cM_manager 3 (some .int) :: wMA
def wsM_fallback : List Cond := .code yM_fallback cM_fallback 4 (some .int) :: wMA
def wsM_queue : List Cond := .code yM_queue cM_queue 3 (some .int) :: wMA
def wsM_version : List Cond := .code yM_version cM_version 3 (some .int) :: wMA
def wsM_open : List Cond := .code yM_open cM_open 4 (some .int) :: wMA
set_option maxRecDepth 20000 in
theorem goodLA1 : GoodIn lw_tbl [Cond.initialized RX1, Cond.methodLink RX1 1 objectInit, Cond.instanceMethod objectInit, Cond.code objectInit ⟨#[0xb1]⟩ 1 none, Cond.arrayClass .int, Cond.arrayClass .boolean, Cond.arrayClass .long, Cond.methodLink RX1 61 yM_isIn, Cond.methodLink RX1 74 yM_isPort, Cond.methodLink RX1 82 yM_isWay, Cond.methodLink RX1 95 yM_flat, Cond.methodLink RX1 89 yM_know, Cond.methodLink RX1 92 yM_isFlat, Cond.methodLink RX1 86 yM_isAtomic, Cond.methodLink RX1 105 yM_isReading, Cond.methodLink RX1 108 yM_isBrokenAt, Cond.methodLink RX1 102 yM_leadTo, Cond.methodLink RX1 111 yM_isBroken, Cond.methodLink RX1 99 yM_isManaging, Cond.instanceMethod yM_init, Cond.code yM_init cM_init 1 none, Cond.instanceMethod yM_thrown, Cond.selects RX1 yM_thrown yM_thrown, Cond.code yM_thrown cM_thrown 1 (some .int), Cond.instanceMethod yM_part, Cond.selects RX1 yM_part yM_part, Cond.code yM_part cM_part 2 (some .int), Cond.static yM_isIn, Cond.code yM_isIn cM_isIn 6 (some .boolean), Cond.instanceMethod yM_port, Cond.selects RX1 yM_port yM_port, Cond.code yM_port cM_port 4 (some .int), Cond.instanceMethod yM_unit, Cond.selects RX1 yM_unit yM_unit, Cond.code yM_unit cM_unit 7 (some .int), Cond.instanceMethod yM_isPort, Cond.selects RX1 yM_isPort yM_isPort, Cond.code yM_isPort cM_isPort 2 (some .boolean), Cond.instanceMethod yM_connect, Cond.selects RX1 yM_connect yM_connect, Cond.code yM_connect cM_connect 3 (some .int), Cond.instanceMethod yM_isWay, Cond.selects RX1 yM_isWay yM_isWay, Cond.code yM_isWay cM_isWay 5 (some .boolean), Cond.instanceMethod yM_flatten, Cond.selects RX1 yM_flatten yM_flatten, Cond.code yM_flatten cM_flatten 1 (some .int), Cond.instanceMethod yM_flat, Cond.selects RX1 yM_flat yM_flat, Cond.code yM_flat cM_flat 5 (some .int), Cond.instanceMethod yM_know, Cond.selects RX1 yM_know yM_know, Cond.code yM_know cM_know 4 none, Cond.instanceMethod yM_isFlat, Cond.selects RX1 yM_isFlat yM_isFlat, Cond.code yM_isFlat cM_isFlat 3 (some .boolean), Cond.instanceMethod yM_isAtomic, Cond.selects RX1 yM_isAtomic yM_isAtomic, Cond.code yM_isAtomic cM_isAtomic 4 (some .boolean), Cond.instanceMethod yM_at, Cond.selects RX1 yM_at yM_at, Cond.code yM_at cM_at 4 (some .int), Cond.instanceMethod yM_check, Cond.selects RX1 yM_check yM_check, Cond.code yM_check cM_check 4 (some .int), Cond.instanceMethod yM_isReading, Cond.selects RX1 yM_isReading yM_isReading, Cond.code yM_isReading cM_isReading 2 (some .boolean), Cond.instanceMethod yM_isBrokenAt, Cond.selects RX1 yM_isBrokenAt yM_isBrokenAt, Cond.code yM_isBrokenAt cM_isBrokenAt 4 (some .boolean), Cond.instanceMethod yM_leadTo, Cond.selects RX1 yM_leadTo yM_leadTo, Cond.code yM_leadTo cM_leadTo 4 (some .int), Cond.instanceMethod yM_isBroken, Cond.selects RX1 yM_isBroken yM_isBroken, Cond.code yM_isBroken cM_isBroken 5 (some .boolean), Cond.instanceMethod yM_isManaging, Cond.selects RX1 yM_isManaging yM_isManaging, Cond.code yM_isManaging cM_isManaging 4 (some .boolean), Cond.instanceMethod yM_manager, Cond.selects RX1 yM_manager yM_manager, Cond.code yM_manager cM_manager 3 (some .int), Cond.instanceMethod yM_fallback, Cond.selects RX1 yM_fallback yM_fallback, Cond.code yM_fallback cM_fallback 4 (some .int), Cond.instanceMethod yM_queue, Cond.selects RX1 yM_queue yM_queue, Cond.code yM_queue cM_queue 3 (some .int), Cond.instanceMethod yM_version, Cond.selects RX1 yM_version yM_version, Cond.code yM_version cM_version 3 (some .int), Cond.instanceMethod yM_open, Cond.selects RX1 yM_open yM_open, Cond.code yM_open cM_open 4 (some .int), Cond.fieldLink RX1 54 "PortRulesModel" "code" "I", Cond.fieldLink RX1 58 "PortRulesModel" "parts" "I", Cond.fieldLink RX1 7 "PortRulesModel" "in" "[I", Cond.fieldLink RX1 71 "PortRulesModel" "ports" "I", Cond.fieldLink RX1 13 "PortRulesModel" "partOf" "[I", Cond.fieldLink RX1 16 "PortRulesModel" "kindOf" "[I", Cond.fieldLink RX1 19 "PortRulesModel" "provides" "[Z", Cond.fieldLink RX1 23 "PortRulesModel" "unit" "[I", Cond.fieldLink RX1 26 "PortRulesModel" "up" "[J", Cond.fieldLink RX1 30 "PortRulesModel" "down" "[J", Cond.fieldLink RX1 33 "PortRulesModel" "version" "[I", Cond.fieldLink RX1 36 "PortRulesModel" "hasFallback" "[Z", Cond.fieldLink RX1 39 "PortRulesModel" "fallback" "[I", Cond.fieldLink RX1 42 "PortRulesModel" "queue" "[I", Cond.fieldLink RX1 45 "PortRulesModel" "manager" "[I", Cond.fieldLink RX1 48 "PortRulesModel" "leads" "[Z", Cond.fieldLink RX1 51 "PortRulesModel" "reaches" "[Z", Cond.fieldLink RX1 65 "PortRulesModel" "known" "Z", Cond.constantLong RX1 69 (3), Cond.constantLong RX1 78 (20), Cond.constantLong RX1 80 (1000), Cond.constantLong RX1 115 (9), Cond.constantLong RX1 117 (100), Cond.constantLong RX1 119 (9999)] := goodIn_r _ [32, 321, 44, 45, 107, 108, 109, 385, 397, 407, 415, 419, 423, 427, 439, 443, 447, 451, 455, 319, 320, 378, 379, 380, 382, 383, 384, 386, 387, 389, 390, 391, 394, 395, 396, 399, 18, 400, 404, 405, 406, 409, 19, 410, 412, 413, 414, 417, 20, 418, 421, 21, 422, 425, 22, 426, 429, 23, 430, 432, 433, 434, 436, 437, 438, 441, 24, 442, 445, 25, 446, 449, 26, 450, 453, 27, 454, 457, 28, 458, 460, 461, 462, 465, 466, 467, 469, 470, 471, 474, 475, 476, 479, 480, 481, 322, 323, 324, 325, 326, 327, 328, 329, 330, 331, 332, 333, 334, 335, 336, 337, 338, 339, 392, 401, 402, 463, 472, 477] (by decide +kernel) (by decide +kernel)
set_option maxRecDepth 20000 in
theorem goodLA2 : GoodIn lw_tbl (u_ws RX1 TM 18) := goodIn_of _ (by decide +kernel)
theorem wMA_f : ∀ w ∈ u_ws RX1 TM 18, w ∈ wMA := fun w h => List.mem_append_right _ h
theorem goodLA : GoodIn lw_tbl wMA := goodIn_app goodLA1 goodLA2
theorem wMA_good : wMA.all goodWord = true := by decide +kernel
theorem goodMA (c : Cond) : GoodIn (c :: wMA) wMA := goodIn_sub (fun w h => List.mem_cons_of_mem _ h) wMA_good
theorem goodMy (c d : Cond) (hd : d ∈ wMA) : GoodIn (c :: wMA) (d :: wMA) := fun w h => (List.mem_cons.mp h).elim (fun e => by rw [e]; exact goodMA c d hd) (goodMA c w)
theorem goodLy (d : Cond) (hd : d ∈ wMA) : GoodIn lw_tbl (d :: wMA) := fun w h => (List.mem_cons.mp h).elim (fun e => by rw [e]; exact goodLA d hd) (goodLA w)
theorem gM_part_M_isIn : GoodIn wsM_part (va_wsS RX1 61 yM_isIn wsM_isIn) := goodIn_app (goodIn_of _ (by decide +kernel)) (goodMy _ _ (by decide +kernel))
theorem gM_port_M_isIn : GoodIn wsM_port (va_wsS RX1 61 yM_isIn wsM_isIn) := goodIn_app (goodIn_of _ (by decide +kernel)) (goodMy _ _ (by decide +kernel))
theorem gM_isPort_M_isIn : GoodIn wsM_isPort (va_wsS RX1 61 yM_isIn wsM_isIn) := goodIn_app (goodIn_of _ (by decide +kernel)) (goodMy _ _ (by decide +kernel))
theorem gM_unit_M_isPort : GoodIn wsM_unit (wsV RX1 74 RX1 yM_isPort wsM_isPort) := goodIn_app (goodIn_of _ (by decide +kernel)) (goodMy _ _ (by decide +kernel))
theorem gM_unit_M_isIn : GoodIn wsM_unit (va_wsS RX1 61 yM_isIn wsM_isIn) := goodIn_app (goodIn_of _ (by decide +kernel)) (goodMy _ _ (by decide +kernel))
theorem gM_connect_M_isPort : GoodIn wsM_connect (wsV RX1 74 RX1 yM_isPort wsM_isPort) := goodIn_app (goodIn_of _ (by decide +kernel)) (goodMy _ _ (by decide +kernel))
theorem gM_connect_M_isWay : GoodIn wsM_connect (wsV RX1 82 RX1 yM_isWay wsM_isWay) := goodIn_app (goodIn_of _ (by decide +kernel)) (goodMy _ _ (by decide +kernel))
theorem gM_isFlat_M_isAtomic : GoodIn wsM_isFlat (wsV RX1 86 RX1 yM_isAtomic wsM_isAtomic) := goodIn_app (goodIn_of _ (by decide +kernel)) (goodMy _ _ (by decide +kernel))
theorem gM_flat_M_know : GoodIn wsM_flat (wsV RX1 89 RX1 yM_know wsM_know) := goodIn_app (goodIn_of _ (by decide +kernel)) (goodMy _ _ (by decide +kernel))
theorem gM_flat_M_isFlat : GoodIn wsM_flat (wsV RX1 92 RX1 yM_isFlat wsM_isFlat) := goodIn_app (goodIn_of _ (by decide +kernel)) (goodMy _ _ (by decide +kernel))
theorem gM_flatten_M_flat : GoodIn wsM_flatten (wsV RX1 95 RX1 yM_flat wsM_flat) := goodIn_app (goodIn_of _ (by decide +kernel)) (goodMy _ _ (by decide +kernel))
theorem gM_at_M_flat : GoodIn wsM_at (wsV RX1 95 RX1 yM_flat wsM_flat) := goodIn_app (goodIn_of _ (by decide +kernel)) (goodMy _ _ (by decide +kernel))
theorem gM_isBroken_M_isManaging : GoodIn wsM_isBroken (wsV RX1 99 RX1 yM_isManaging wsM_isManaging) := goodIn_app (goodIn_of _ (by decide +kernel)) (goodMy _ _ (by decide +kernel))
theorem gM_leadTo_M_know : GoodIn wsM_leadTo (wsV RX1 89 RX1 yM_know wsM_know) := goodIn_app (goodIn_of _ (by decide +kernel)) (goodMy _ _ (by decide +kernel))
theorem gM_leadTo_M_isFlat : GoodIn wsM_leadTo (wsV RX1 92 RX1 yM_isFlat wsM_isFlat) := goodIn_app (goodIn_of _ (by decide +kernel)) (goodMy _ _ (by decide +kernel))
theorem gM_isBrokenAt_M_leadTo : GoodIn wsM_isBrokenAt (wsV RX1 102 RX1 yM_leadTo wsM_leadTo) := goodIn_app (goodIn_of _ (by decide +kernel)) (goodMy _ _ (by decide +kernel))
theorem gM_isReading_M_isAtomic : GoodIn wsM_isReading (wsV RX1 86 RX1 yM_isAtomic wsM_isAtomic) := goodIn_app (goodIn_of _ (by decide +kernel)) (goodMy _ _ (by decide +kernel))
theorem gM_check_M_know : GoodIn wsM_check (wsV RX1 89 RX1 yM_know wsM_know) := goodIn_app (goodIn_of _ (by decide +kernel)) (goodMy _ _ (by decide +kernel))
theorem gM_check_M_isReading : GoodIn wsM_check (wsV RX1 105 RX1 yM_isReading wsM_isReading) := goodIn_app (goodIn_of _ (by decide +kernel)) (goodMy _ _ (by decide +kernel))
theorem gM_check_M_isBrokenAt : GoodIn wsM_check (wsV RX1 108 RX1 yM_isBrokenAt wsM_isBrokenAt) := goodIn_app (goodIn_of _ (by decide +kernel)) (goodMy _ _ (by decide +kernel))
theorem gM_check_M_isFlat : GoodIn wsM_check (wsV RX1 92 RX1 yM_isFlat wsM_isFlat) := goodIn_app (goodIn_of _ (by decide +kernel)) (goodMy _ _ (by decide +kernel))
theorem gM_check_M_isBroken : GoodIn wsM_check (wsV RX1 111 RX1 yM_isBroken wsM_isBroken) := goodIn_app (goodIn_of _ (by decide +kernel)) (goodMy _ _ (by decide +kernel))
theorem gM_manager_M_isIn : GoodIn wsM_manager (va_wsS RX1 61 yM_isIn wsM_isIn) := goodIn_app (goodIn_of _ (by decide +kernel)) (goodMy _ _ (by decide +kernel))
theorem gM_fallback_M_isPort : GoodIn wsM_fallback (wsV RX1 74 RX1 yM_isPort wsM_isPort) := goodIn_app (goodIn_of _ (by decide +kernel)) (goodMy _ _ (by decide +kernel))
theorem gM_queue_M_isPort : GoodIn wsM_queue (wsV RX1 74 RX1 yM_isPort wsM_isPort) := goodIn_app (goodIn_of _ (by decide +kernel)) (goodMy _ _ (by decide +kernel))
theorem gM_queue_M_isIn : GoodIn wsM_queue (va_wsS RX1 61 yM_isIn wsM_isIn) := goodIn_app (goodIn_of _ (by decide +kernel)) (goodMy _ _ (by decide +kernel))
theorem gM_version_M_isPort : GoodIn wsM_version (wsV RX1 74 RX1 yM_isPort wsM_isPort) := goodIn_app (goodIn_of _ (by decide +kernel)) (goodMy _ _ (by decide +kernel))
theorem gM_version_M_isIn : GoodIn wsM_version (va_wsS RX1 61 yM_isIn wsM_isIn) := goodIn_app (goodIn_of _ (by decide +kernel)) (goodMy _ _ (by decide +kernel))
theorem gM_open_M_isReading : GoodIn wsM_open (wsV RX1 105 RX1 yM_isReading wsM_isReading) := goodIn_app (goodIn_of _ (by decide +kernel)) (goodMy _ _ (by decide +kernel))
theorem gM_open_M_leadTo : GoodIn wsM_open (wsV RX1 102 RX1 yM_leadTo wsM_leadTo) := goodIn_app (goodIn_of _ (by decide +kernel)) (goodMy _ _ (by decide +kernel))
theorem gL_law_M_init : GoodIn lw_tbl wsM_init := goodLy _ (by decide +kernel)
theorem gL_law_M_thrown : GoodIn lw_tbl (wsV RL 51 RX1 yM_thrown wsM_thrown) := goodIn_app (goodIn_of _ (by decide +kernel)) (goodLy _ (by decide +kernel))
theorem gL_law_M_part : GoodIn lw_tbl (wsV RL 23 RX1 yM_part wsM_part) := goodIn_app (goodIn_of _ (by decide +kernel)) (goodLy _ (by decide +kernel))
theorem gL_law_M_port : GoodIn lw_tbl (wsV RL 28 RX1 yM_port wsM_port) := goodIn_app (goodIn_of _ (by decide +kernel)) (goodLy _ (by decide +kernel))
theorem gL_law_M_unit : GoodIn lw_tbl (wsV RL 35 RX1 yM_unit wsM_unit) := goodIn_app (goodIn_of _ (by decide +kernel)) (goodLy _ (by decide +kernel))
theorem gL_law_M_connect : GoodIn lw_tbl (wsV RL 39 RX1 yM_connect wsM_connect) := goodIn_app (goodIn_of _ (by decide +kernel)) (goodLy _ (by decide +kernel))
theorem gL_law_M_flatten : GoodIn lw_tbl (wsV RL 44 RX1 yM_flatten wsM_flatten) := goodIn_app (goodIn_of _ (by decide +kernel)) (goodLy _ (by decide +kernel))
theorem gL_law_M_at : GoodIn lw_tbl (wsV RL 50 RX1 yM_at wsM_at) := goodIn_app (goodIn_of _ (by decide +kernel)) (goodLy _ (by decide +kernel))
theorem gL_law_M_check : GoodIn lw_tbl (wsV RL 57 RX1 yM_check wsM_check) := goodIn_app (goodIn_of _ (by decide +kernel)) (goodLy _ (by decide +kernel))
theorem gL_law_M_manager : GoodIn lw_tbl (wsV RL 61 RX1 yM_manager wsM_manager) := goodIn_app (goodIn_of _ (by decide +kernel)) (goodLy _ (by decide +kernel))
theorem gL_law_M_fallback : GoodIn lw_tbl (wsV RL 65 RX1 yM_fallback wsM_fallback) := goodIn_app (goodIn_of _ (by decide +kernel)) (goodLy _ (by decide +kernel))
theorem gL_law_M_queue : GoodIn lw_tbl (wsV RL 69 RX1 yM_queue wsM_queue) := goodIn_app (goodIn_of _ (by decide +kernel)) (goodLy _ (by decide +kernel))
theorem gL_law_M_version : GoodIn lw_tbl (wsV RL 73 RX1 yM_version wsM_version) := goodIn_app (goodIn_of _ (by decide +kernel)) (goodLy _ (by decide +kernel))
theorem gL_law_M_open : GoodIn lw_tbl (wsV RL 77 RX1 yM_open wsM_open) := goodIn_app (goodIn_of _ (by decide +kernel)) (goodLy _ (by decide +kernel))
theorem dM_init_0 : decode cM_init 0 = .ok (.aload_n 0, 1) := by decide +kernel
theorem dM_init_1 : decode cM_init 1 = .ok (.invokespecial 1, 3) := by decide +kernel
theorem dM_init_4 : decode cM_init 4 = .ok (.aload_n 0, 1) := by decide +kernel
theorem dM_init_5 : decode cM_init 5 = .ok (.bipush 31, 2) := by decide +kernel
theorem dM_init_7 : decode cM_init 7 = .ok (.newarray .int, 2) := by decide +kernel
theorem dM_init_9 : decode cM_init 9 = .ok (.putfield 7, 3) := by decide +kernel
theorem dM_init_12 : decode cM_init 12 = .ok (.aload_n 0, 1) := by decide +kernel
theorem dM_init_13 : decode cM_init 13 = .ok (.bipush 61, 2) := by decide +kernel
theorem dM_init_15 : decode cM_init 15 = .ok (.newarray .int, 2) := by decide +kernel
theorem dM_init_17 : decode cM_init 17 = .ok (.putfield 13, 3) := by decide +kernel
theorem dM_init_20 : decode cM_init 20 = .ok (.aload_n 0, 1) := by decide +kernel
theorem dM_init_21 : decode cM_init 21 = .ok (.bipush 61, 2) := by decide +kernel
theorem dM_init_23 : decode cM_init 23 = .ok (.newarray .int, 2) := by decide +kernel
theorem dM_init_25 : decode cM_init 25 = .ok (.putfield 16, 3) := by decide +kernel
theorem dM_init_28 : decode cM_init 28 = .ok (.aload_n 0, 1) := by decide +kernel
theorem dM_init_29 : decode cM_init 29 = .ok (.bipush 61, 2) := by decide +kernel
theorem dM_init_31 : decode cM_init 31 = .ok (.newarray .boolean, 2) := by decide +kernel
theorem dM_init_33 : decode cM_init 33 = .ok (.putfield 19, 3) := by decide +kernel
theorem dM_init_36 : decode cM_init 36 = .ok (.aload_n 0, 1) := by decide +kernel
theorem dM_init_37 : decode cM_init 37 = .ok (.bipush 61, 2) := by decide +kernel
theorem dM_init_39 : decode cM_init 39 = .ok (.newarray .int, 2) := by decide +kernel
theorem dM_init_41 : decode cM_init 41 = .ok (.putfield 23, 3) := by decide +kernel
theorem dM_init_44 : decode cM_init 44 = .ok (.aload_n 0, 1) := by decide +kernel
theorem dM_init_45 : decode cM_init 45 = .ok (.bipush 61, 2) := by decide +kernel
theorem dM_init_47 : decode cM_init 47 = .ok (.newarray .long, 2) := by decide +kernel
theorem dM_init_49 : decode cM_init 49 = .ok (.putfield 26, 3) := by decide +kernel
theorem dM_init_52 : decode cM_init 52 = .ok (.aload_n 0, 1) := by decide +kernel
theorem dM_init_53 : decode cM_init 53 = .ok (.bipush 61, 2) := by decide +kernel
theorem dM_init_55 : decode cM_init 55 = .ok (.newarray .long, 2) := by decide +kernel
theorem dM_init_57 : decode cM_init 57 = .ok (.putfield 30, 3) := by decide +kernel
theorem dM_init_60 : decode cM_init 60 = .ok (.aload_n 0, 1) := by decide +kernel
theorem dM_init_61 : decode cM_init 61 = .ok (.bipush 61, 2) := by decide +kernel
theorem dM_init_63 : decode cM_init 63 = .ok (.newarray .int, 2) := by decide +kernel
theorem dM_init_65 : decode cM_init 65 = .ok (.putfield 33, 3) := by decide +kernel
theorem dM_init_68 : decode cM_init 68 = .ok (.aload_n 0, 1) := by decide +kernel
theorem dM_init_69 : decode cM_init 69 = .ok (.bipush 61, 2) := by decide +kernel
theorem dM_init_71 : decode cM_init 71 = .ok (.newarray .boolean, 2) := by decide +kernel
theorem dM_init_73 : decode cM_init 73 = .ok (.putfield 36, 3) := by decide +kernel
theorem dM_init_76 : decode cM_init 76 = .ok (.aload_n 0, 1) := by decide +kernel
theorem dM_init_77 : decode cM_init 77 = .ok (.bipush 61, 2) := by decide +kernel
theorem dM_init_79 : decode cM_init 79 = .ok (.newarray .int, 2) := by decide +kernel
theorem dM_init_81 : decode cM_init 81 = .ok (.putfield 39, 3) := by decide +kernel
theorem dM_init_84 : decode cM_init 84 = .ok (.aload_n 0, 1) := by decide +kernel
theorem dM_init_85 : decode cM_init 85 = .ok (.bipush 61, 2) := by decide +kernel
theorem dM_init_87 : decode cM_init 87 = .ok (.newarray .int, 2) := by decide +kernel
theorem dM_init_89 : decode cM_init 89 = .ok (.putfield 42, 3) := by decide +kernel
theorem dM_init_92 : decode cM_init 92 = .ok (.aload_n 0, 1) := by decide +kernel
theorem dM_init_93 : decode cM_init 93 = .ok (.bipush 10, 2) := by decide +kernel
theorem dM_init_95 : decode cM_init 95 = .ok (.newarray .int, 2) := by decide +kernel
theorem dM_init_97 : decode cM_init 97 = .ok (.putfield 45, 3) := by decide +kernel
theorem dM_init_100 : decode cM_init 100 = .ok (.aload_n 0, 1) := by decide +kernel
theorem dM_init_101 : decode cM_init 101 = .ok (.sipush 3721, 3) := by decide +kernel
theorem dM_init_104 : decode cM_init 104 = .ok (.newarray .boolean, 2) := by decide +kernel
theorem dM_init_106 : decode cM_init 106 = .ok (.putfield 48, 3) := by decide +kernel
theorem dM_init_109 : decode cM_init 109 = .ok (.aload_n 0, 1) := by decide +kernel
theorem dM_init_110 : decode cM_init 110 = .ok (.sipush 3721, 3) := by decide +kernel
theorem dM_init_113 : decode cM_init 113 = .ok (.newarray .boolean, 2) := by decide +kernel
theorem dM_init_115 : decode cM_init 115 = .ok (.putfield 51, 3) := by decide +kernel
theorem dM_init_118 : decode cM_init 118 = .ok (.return_, 1) := by decide +kernel
theorem dM_thrown_0 : decode cM_thrown 0 = .ok (.aload_n 0, 1) := by decide +kernel
theorem dM_thrown_1 : decode cM_thrown 1 = .ok (.getfield 54, 3) := by decide +kernel
theorem dM_thrown_4 : decode cM_thrown 4 = .ok (.ireturn, 1) := by decide +kernel
theorem dM_isIn_0 : decode cM_isIn 0 = .ok (.lload_n 0, 1) := by decide +kernel
theorem dM_isIn_1 : decode cM_isIn 1 = .ok (.lload_n 2, 1) := by decide +kernel
theorem dM_isIn_2 : decode cM_isIn 2 = .ok (.lcmp, 1) := by decide +kernel
theorem dM_isIn_3 : decode cM_isIn 3 = .ok (.ifCond .lt 14, 3) := by decide +kernel
theorem dM_isIn_6 : decode cM_isIn 6 = .ok (.lload_n 0, 1) := by decide +kernel
theorem dM_isIn_7 : decode cM_isIn 7 = .ok (.lload 4, 2) := by decide +kernel
theorem dM_isIn_9 : decode cM_isIn 9 = .ok (.lcmp, 1) := by decide +kernel
theorem dM_isIn_10 : decode cM_isIn 10 = .ok (.ifCond .gt 7, 3) := by decide +kernel
theorem dM_isIn_13 : decode cM_isIn 13 = .ok (.iconst 1, 1) := by decide +kernel
theorem dM_isIn_14 : decode cM_isIn 14 = .ok (.goto 4, 3) := by decide +kernel
theorem dM_isIn_17 : decode cM_isIn 17 = .ok (.iconst 0, 1) := by decide +kernel
theorem dM_isIn_18 : decode cM_isIn 18 = .ok (.ireturn, 1) := by decide +kernel
theorem dM_part_0 : decode cM_part 0 = .ok (.aload_n 0, 1) := by decide +kernel
theorem dM_part_1 : decode cM_part 1 = .ok (.iconst 0, 1) := by decide +kernel
theorem dM_part_2 : decode cM_part 2 = .ok (.putfield 54, 3) := by decide +kernel
theorem dM_part_5 : decode cM_part 5 = .ok (.iload_n 1, 1) := by decide +kernel
theorem dM_part_6 : decode cM_part 6 = .ok (.i2l, 1) := by decide +kernel
theorem dM_part_7 : decode cM_part 7 = .ok (.lconst 0, 1) := by decide +kernel
theorem dM_part_8 : decode cM_part 8 = .ok (.aload_n 0, 1) := by decide +kernel
theorem dM_part_9 : decode cM_part 9 = .ok (.getfield 58, 3) := by decide +kernel
theorem dM_part_12 : decode cM_part 12 = .ok (.i2l, 1) := by decide +kernel
theorem dM_part_13 : decode cM_part 13 = .ok (.invokestatic 61, 3) := by decide +kernel
theorem dM_part_16 : decode cM_part 16 = .ok (.ifCond .ne 5, 3) := by decide +kernel
theorem dM_part_19 : decode cM_part 19 = .ok (.iconst (-1), 1) := by decide +kernel
theorem dM_part_20 : decode cM_part 20 = .ok (.ireturn, 1) := by decide +kernel
theorem dM_part_21 : decode cM_part 21 = .ok (.aload_n 0, 1) := by decide +kernel
theorem dM_part_22 : decode cM_part 22 = .ok (.getfield 58, 3) := by decide +kernel
theorem dM_part_25 : decode cM_part 25 = .ok (.bipush 30, 2) := by decide +kernel
theorem dM_part_27 : decode cM_part 27 = .ok (.if_icmp .ne 6, 3) := by decide +kernel
theorem dM_part_30 : decode cM_part 30 = .ok (.bipush (-4), 2) := by decide +kernel
theorem dM_part_32 : decode cM_part 32 = .ok (.ireturn, 1) := by decide +kernel
theorem dM_part_33 : decode cM_part 33 = .ok (.aload_n 0, 1) := by decide +kernel
theorem dM_part_34 : decode cM_part 34 = .ok (.dup, 1) := by decide +kernel
theorem dM_part_35 : decode cM_part 35 = .ok (.getfield 58, 3) := by decide +kernel
theorem dM_part_38 : decode cM_part 38 = .ok (.iconst 1, 1) := by decide +kernel
theorem dM_part_39 : decode cM_part 39 = .ok (.iadd, 1) := by decide +kernel
theorem dM_part_40 : decode cM_part 40 = .ok (.putfield 58, 3) := by decide +kernel
theorem dM_part_43 : decode cM_part 43 = .ok (.aload_n 0, 1) := by decide +kernel
theorem dM_part_44 : decode cM_part 44 = .ok (.getfield 7, 3) := by decide +kernel
theorem dM_part_47 : decode cM_part 47 = .ok (.aload_n 0, 1) := by decide +kernel
theorem dM_part_48 : decode cM_part 48 = .ok (.getfield 58, 3) := by decide +kernel
theorem dM_part_51 : decode cM_part 51 = .ok (.iload_n 1, 1) := by decide +kernel
theorem dM_part_52 : decode cM_part 52 = .ok (.iastore, 1) := by decide +kernel
theorem dM_part_53 : decode cM_part 53 = .ok (.aload_n 0, 1) := by decide +kernel
theorem dM_part_54 : decode cM_part 54 = .ok (.iconst 0, 1) := by decide +kernel
theorem dM_part_55 : decode cM_part 55 = .ok (.putfield 65, 3) := by decide +kernel
theorem dM_part_58 : decode cM_part 58 = .ok (.aload_n 0, 1) := by decide +kernel
theorem dM_part_59 : decode cM_part 59 = .ok (.getfield 58, 3) := by decide +kernel
theorem dM_part_62 : decode cM_part 62 = .ok (.ireturn, 1) := by decide +kernel
theorem dM_port_0 : decode cM_port 0 = .ok (.aload_n 0, 1) := by decide +kernel
theorem dM_port_1 : decode cM_port 1 = .ok (.iconst 0, 1) := by decide +kernel
theorem dM_port_2 : decode cM_port 2 = .ok (.putfield 54, 3) := by decide +kernel
theorem dM_port_5 : decode cM_port 5 = .ok (.iload_n 1, 1) := by decide +kernel
theorem dM_port_6 : decode cM_port 6 = .ok (.i2l, 1) := by decide +kernel
theorem dM_port_7 : decode cM_port 7 = .ok (.lconst 1, 1) := by decide +kernel
theorem dM_port_8 : decode cM_port 8 = .ok (.aload_n 0, 1) := by decide +kernel
theorem dM_port_9 : decode cM_port 9 = .ok (.getfield 58, 3) := by decide +kernel
theorem dM_port_12 : decode cM_port 12 = .ok (.i2l, 1) := by decide +kernel
theorem dM_port_13 : decode cM_port 13 = .ok (.invokestatic 61, 3) := by decide +kernel
theorem dM_port_16 : decode cM_port 16 = .ok (.ifCond .ne 5, 3) := by decide +kernel
theorem dM_port_19 : decode cM_port 19 = .ok (.iconst (-1), 1) := by decide +kernel
theorem dM_port_20 : decode cM_port 20 = .ok (.ireturn, 1) := by decide +kernel
theorem dM_port_21 : decode cM_port 21 = .ok (.iload_n 2, 1) := by decide +kernel
theorem dM_port_22 : decode cM_port 22 = .ok (.i2l, 1) := by decide +kernel
theorem dM_port_23 : decode cM_port 23 = .ok (.lconst 0, 1) := by decide +kernel
theorem dM_port_24 : decode cM_port 24 = .ok (.ldc2_w 69, 3) := by decide +kernel
theorem dM_port_27 : decode cM_port 27 = .ok (.invokestatic 61, 3) := by decide +kernel
theorem dM_port_30 : decode cM_port 30 = .ok (.ifCond .ne 6, 3) := by decide +kernel
theorem dM_port_33 : decode cM_port 33 = .ok (.bipush (-2), 2) := by decide +kernel
theorem dM_port_35 : decode cM_port 35 = .ok (.ireturn, 1) := by decide +kernel
theorem dM_port_36 : decode cM_port 36 = .ok (.aload_n 0, 1) := by decide +kernel
theorem dM_port_37 : decode cM_port 37 = .ok (.getfield 71, 3) := by decide +kernel
theorem dM_port_40 : decode cM_port 40 = .ok (.bipush 60, 2) := by decide +kernel
theorem dM_port_42 : decode cM_port 42 = .ok (.if_icmp .ne 6, 3) := by decide +kernel
theorem dM_port_45 : decode cM_port 45 = .ok (.bipush (-4), 2) := by decide +kernel
theorem dM_port_47 : decode cM_port 47 = .ok (.ireturn, 1) := by decide +kernel
theorem dM_port_48 : decode cM_port 48 = .ok (.aload_n 0, 1) := by decide +kernel
theorem dM_port_49 : decode cM_port 49 = .ok (.dup, 1) := by decide +kernel
theorem dM_port_50 : decode cM_port 50 = .ok (.getfield 71, 3) := by decide +kernel
theorem dM_port_53 : decode cM_port 53 = .ok (.iconst 1, 1) := by decide +kernel
theorem dM_port_54 : decode cM_port 54 = .ok (.iadd, 1) := by decide +kernel
theorem dM_port_55 : decode cM_port 55 = .ok (.putfield 71, 3) := by decide +kernel
theorem dM_port_58 : decode cM_port 58 = .ok (.aload_n 0, 1) := by decide +kernel
theorem dM_port_59 : decode cM_port 59 = .ok (.getfield 13, 3) := by decide +kernel
theorem dM_port_62 : decode cM_port 62 = .ok (.aload_n 0, 1) := by decide +kernel
theorem dM_port_63 : decode cM_port 63 = .ok (.getfield 71, 3) := by decide +kernel
theorem dM_port_66 : decode cM_port 66 = .ok (.iload_n 1, 1) := by decide +kernel
theorem dM_port_67 : decode cM_port 67 = .ok (.iastore, 1) := by decide +kernel
theorem dM_port_68 : decode cM_port 68 = .ok (.aload_n 0, 1) := by decide +kernel
theorem dM_port_69 : decode cM_port 69 = .ok (.getfield 16, 3) := by decide +kernel
theorem dM_port_72 : decode cM_port 72 = .ok (.aload_n 0, 1) := by decide +kernel
theorem dM_port_73 : decode cM_port 73 = .ok (.getfield 71, 3) := by decide +kernel
theorem dM_port_76 : decode cM_port 76 = .ok (.iload_n 2, 1) := by decide +kernel
theorem dM_port_77 : decode cM_port 77 = .ok (.iastore, 1) := by decide +kernel
theorem dM_port_78 : decode cM_port 78 = .ok (.aload_n 0, 1) := by decide +kernel
theorem dM_port_79 : decode cM_port 79 = .ok (.getfield 19, 3) := by decide +kernel
theorem dM_port_82 : decode cM_port 82 = .ok (.aload_n 0, 1) := by decide +kernel
theorem dM_port_83 : decode cM_port 83 = .ok (.getfield 71, 3) := by decide +kernel
theorem dM_port_86 : decode cM_port 86 = .ok (.iload_n 3, 1) := by decide +kernel
theorem dM_port_87 : decode cM_port 87 = .ok (.bastore, 1) := by decide +kernel
theorem dM_port_88 : decode cM_port 88 = .ok (.aload_n 0, 1) := by decide +kernel
theorem dM_port_89 : decode cM_port 89 = .ok (.getfield 23, 3) := by decide +kernel
theorem dM_port_92 : decode cM_port 92 = .ok (.aload_n 0, 1) := by decide +kernel
theorem dM_port_93 : decode cM_port 93 = .ok (.getfield 71, 3) := by decide +kernel
theorem dM_port_96 : decode cM_port 96 = .ok (.iconst (-1), 1) := by decide +kernel
theorem dM_port_97 : decode cM_port 97 = .ok (.iastore, 1) := by decide +kernel
theorem dM_port_98 : decode cM_port 98 = .ok (.aload_n 0, 1) := by decide +kernel
theorem dM_port_99 : decode cM_port 99 = .ok (.getfield 33, 3) := by decide +kernel
theorem dM_port_102 : decode cM_port 102 = .ok (.aload_n 0, 1) := by decide +kernel
theorem dM_port_103 : decode cM_port 103 = .ok (.getfield 71, 3) := by decide +kernel
theorem dM_port_106 : decode cM_port 106 = .ok (.iconst (-1), 1) := by decide +kernel
theorem dM_port_107 : decode cM_port 107 = .ok (.iastore, 1) := by decide +kernel
theorem dM_port_108 : decode cM_port 108 = .ok (.aload_n 0, 1) := by decide +kernel
theorem dM_port_109 : decode cM_port 109 = .ok (.iconst 0, 1) := by decide +kernel
theorem dM_port_110 : decode cM_port 110 = .ok (.putfield 65, 3) := by decide +kernel
theorem dM_port_113 : decode cM_port 113 = .ok (.aload_n 0, 1) := by decide +kernel
theorem dM_port_114 : decode cM_port 114 = .ok (.getfield 71, 3) := by decide +kernel
theorem dM_port_117 : decode cM_port 117 = .ok (.ireturn, 1) := by decide +kernel
theorem dM_isPort_0 : decode cM_isPort 0 = .ok (.iload_n 1, 1) := by decide +kernel
theorem dM_isPort_1 : decode cM_isPort 1 = .ok (.i2l, 1) := by decide +kernel
theorem dM_isPort_2 : decode cM_isPort 2 = .ok (.lconst 1, 1) := by decide +kernel
theorem dM_isPort_3 : decode cM_isPort 3 = .ok (.aload_n 0, 1) := by decide +kernel
theorem dM_isPort_4 : decode cM_isPort 4 = .ok (.getfield 71, 3) := by decide +kernel
theorem dM_isPort_7 : decode cM_isPort 7 = .ok (.i2l, 1) := by decide +kernel
theorem dM_isPort_8 : decode cM_isPort 8 = .ok (.invokestatic 61, 3) := by decide +kernel
theorem dM_isPort_11 : decode cM_isPort 11 = .ok (.ireturn, 1) := by decide +kernel
theorem dM_unit_0 : decode cM_unit 0 = .ok (.aload_n 0, 1) := by decide +kernel
theorem dM_unit_1 : decode cM_unit 1 = .ok (.iconst 0, 1) := by decide +kernel
theorem dM_unit_2 : decode cM_unit 2 = .ok (.putfield 54, 3) := by decide +kernel
theorem dM_unit_5 : decode cM_unit 5 = .ok (.aload_n 0, 1) := by decide +kernel
theorem dM_unit_6 : decode cM_unit 6 = .ok (.iload_n 1, 1) := by decide +kernel
theorem dM_unit_7 : decode cM_unit 7 = .ok (.invokevirtual 74, 3) := by decide +kernel
theorem dM_unit_10 : decode cM_unit 10 = .ok (.ifCond .ne 5, 3) := by decide +kernel
theorem dM_unit_13 : decode cM_unit 13 = .ok (.iconst (-1), 1) := by decide +kernel
theorem dM_unit_14 : decode cM_unit 14 = .ok (.ireturn, 1) := by decide +kernel
theorem dM_unit_15 : decode cM_unit 15 = .ok (.iload_n 2, 1) := by decide +kernel
theorem dM_unit_16 : decode cM_unit 16 = .ok (.i2l, 1) := by decide +kernel
theorem dM_unit_17 : decode cM_unit 17 = .ok (.lconst 0, 1) := by decide +kernel
theorem dM_unit_18 : decode cM_unit 18 = .ok (.ldc2_w 78, 3) := by decide +kernel
theorem dM_unit_21 : decode cM_unit 21 = .ok (.invokestatic 61, 3) := by decide +kernel
theorem dM_unit_24 : decode cM_unit 24 = .ok (.ifCond .eq 26, 3) := by decide +kernel
theorem dM_unit_27 : decode cM_unit 27 = .ok (.lload_n 3, 1) := by decide +kernel
theorem dM_unit_28 : decode cM_unit 28 = .ok (.lconst 1, 1) := by decide +kernel
theorem dM_unit_29 : decode cM_unit 29 = .ok (.ldc2_w 80, 3) := by decide +kernel
theorem dM_unit_32 : decode cM_unit 32 = .ok (.invokestatic 61, 3) := by decide +kernel
theorem dM_unit_35 : decode cM_unit 35 = .ok (.ifCond .eq 15, 3) := by decide +kernel
theorem dM_unit_38 : decode cM_unit 38 = .ok (.lload 5, 2) := by decide +kernel
theorem dM_unit_40 : decode cM_unit 40 = .ok (.lconst 1, 1) := by decide +kernel
theorem dM_unit_41 : decode cM_unit 41 = .ok (.ldc2_w 80, 3) := by decide +kernel
theorem dM_unit_44 : decode cM_unit 44 = .ok (.invokestatic 61, 3) := by decide +kernel
theorem dM_unit_47 : decode cM_unit 47 = .ok (.ifCond .ne 6, 3) := by decide +kernel
theorem dM_unit_50 : decode cM_unit 50 = .ok (.bipush (-2), 2) := by decide +kernel
theorem dM_unit_52 : decode cM_unit 52 = .ok (.ireturn, 1) := by decide +kernel
theorem dM_unit_53 : decode cM_unit 53 = .ok (.aload_n 0, 1) := by decide +kernel
theorem dM_unit_54 : decode cM_unit 54 = .ok (.getfield 23, 3) := by decide +kernel
theorem dM_unit_57 : decode cM_unit 57 = .ok (.iload_n 1, 1) := by decide +kernel
theorem dM_unit_58 : decode cM_unit 58 = .ok (.iload_n 2, 1) := by decide +kernel
theorem dM_unit_59 : decode cM_unit 59 = .ok (.iastore, 1) := by decide +kernel
theorem dM_unit_60 : decode cM_unit 60 = .ok (.aload_n 0, 1) := by decide +kernel
theorem dM_unit_61 : decode cM_unit 61 = .ok (.getfield 26, 3) := by decide +kernel
theorem dM_unit_64 : decode cM_unit 64 = .ok (.iload_n 1, 1) := by decide +kernel
theorem dM_unit_65 : decode cM_unit 65 = .ok (.lload_n 3, 1) := by decide +kernel
theorem dM_unit_66 : decode cM_unit 66 = .ok (.lastore, 1) := by decide +kernel
theorem dM_unit_67 : decode cM_unit 67 = .ok (.aload_n 0, 1) := by decide +kernel
theorem dM_unit_68 : decode cM_unit 68 = .ok (.getfield 30, 3) := by decide +kernel
theorem dM_unit_71 : decode cM_unit 71 = .ok (.iload_n 1, 1) := by decide +kernel
theorem dM_unit_72 : decode cM_unit 72 = .ok (.lload 5, 2) := by decide +kernel
theorem dM_unit_74 : decode cM_unit 74 = .ok (.lastore, 1) := by decide +kernel
theorem dM_unit_75 : decode cM_unit 75 = .ok (.iconst 1, 1) := by decide +kernel
theorem dM_unit_76 : decode cM_unit 76 = .ok (.ireturn, 1) := by decide +kernel
theorem dM_isWay_0 : decode cM_isWay 0 = .ok (.aload_n 0, 1) := by decide +kernel
theorem dM_isWay_1 : decode cM_isWay 1 = .ok (.getfield 13, 3) := by decide +kernel
theorem dM_isWay_4 : decode cM_isWay 4 = .ok (.iload_n 1, 1) := by decide +kernel
theorem dM_isWay_5 : decode cM_isWay 5 = .ok (.iaload, 1) := by decide +kernel
theorem dM_isWay_6 : decode cM_isWay 6 = .ok (.istore_n 3, 1) := by decide +kernel
theorem dM_isWay_7 : decode cM_isWay 7 = .ok (.aload_n 0, 1) := by decide +kernel
theorem dM_isWay_8 : decode cM_isWay 8 = .ok (.getfield 13, 3) := by decide +kernel
theorem dM_isWay_11 : decode cM_isWay 11 = .ok (.iload_n 2, 1) := by decide +kernel
theorem dM_isWay_12 : decode cM_isWay 12 = .ok (.iaload, 1) := by decide +kernel
theorem dM_isWay_13 : decode cM_isWay 13 = .ok (.istore 4, 2) := by decide +kernel
theorem dM_isWay_15 : decode cM_isWay 15 = .ok (.aload_n 0, 1) := by decide +kernel
theorem dM_isWay_16 : decode cM_isWay 16 = .ok (.getfield 19, 3) := by decide +kernel
theorem dM_isWay_19 : decode cM_isWay 19 = .ok (.iload_n 1, 1) := by decide +kernel
theorem dM_isWay_20 : decode cM_isWay 20 = .ok (.baload, 1) := by decide +kernel
theorem dM_isWay_21 : decode cM_isWay 21 = .ok (.ifCond .eq 40, 3) := by decide +kernel
theorem dM_isWay_24 : decode cM_isWay 24 = .ok (.aload_n 0, 1) := by decide +kernel
theorem dM_isWay_25 : decode cM_isWay 25 = .ok (.getfield 19, 3) := by decide +kernel
theorem dM_isWay_28 : decode cM_isWay 28 = .ok (.iload_n 2, 1) := by decide +kernel
theorem dM_isWay_29 : decode cM_isWay 29 = .ok (.baload, 1) := by decide +kernel
theorem dM_isWay_30 : decode cM_isWay 30 = .ok (.ifCond .ne 31, 3) := by decide +kernel
theorem dM_isWay_33 : decode cM_isWay 33 = .ok (.iload_n 3, 1) := by decide +kernel
theorem dM_isWay_34 : decode cM_isWay 34 = .ok (.iload 4, 2) := by decide +kernel
theorem dM_isWay_36 : decode cM_isWay 36 = .ok (.if_icmp .eq 23, 3) := by decide +kernel
theorem dM_isWay_39 : decode cM_isWay 39 = .ok (.aload_n 0, 1) := by decide +kernel
theorem dM_isWay_40 : decode cM_isWay 40 = .ok (.getfield 7, 3) := by decide +kernel
theorem dM_isWay_43 : decode cM_isWay 43 = .ok (.iload_n 3, 1) := by decide +kernel
theorem dM_isWay_44 : decode cM_isWay 44 = .ok (.iaload, 1) := by decide +kernel
theorem dM_isWay_45 : decode cM_isWay 45 = .ok (.aload_n 0, 1) := by decide +kernel
theorem dM_isWay_46 : decode cM_isWay 46 = .ok (.getfield 7, 3) := by decide +kernel
theorem dM_isWay_49 : decode cM_isWay 49 = .ok (.iload 4, 2) := by decide +kernel
theorem dM_isWay_51 : decode cM_isWay 51 = .ok (.iaload, 1) := by decide +kernel
theorem dM_isWay_52 : decode cM_isWay 52 = .ok (.if_icmp .ne 7, 3) := by decide +kernel
theorem dM_isWay_55 : decode cM_isWay 55 = .ok (.iconst 1, 1) := by decide +kernel
theorem dM_isWay_56 : decode cM_isWay 56 = .ok (.goto 4, 3) := by decide +kernel
theorem dM_isWay_59 : decode cM_isWay 59 = .ok (.iconst 0, 1) := by decide +kernel
theorem dM_isWay_60 : decode cM_isWay 60 = .ok (.ireturn, 1) := by decide +kernel
theorem dM_isWay_61 : decode cM_isWay 61 = .ok (.aload_n 0, 1) := by decide +kernel
theorem dM_isWay_62 : decode cM_isWay 62 = .ok (.getfield 19, 3) := by decide +kernel
theorem dM_isWay_65 : decode cM_isWay 65 = .ok (.iload_n 1, 1) := by decide +kernel
theorem dM_isWay_66 : decode cM_isWay 66 = .ok (.baload, 1) := by decide +kernel
theorem dM_isWay_67 : decode cM_isWay 67 = .ok (.ifCond .eq 20, 3) := by decide +kernel
theorem dM_isWay_70 : decode cM_isWay 70 = .ok (.aload_n 0, 1) := by decide +kernel
theorem dM_isWay_71 : decode cM_isWay 71 = .ok (.getfield 7, 3) := by decide +kernel
theorem dM_isWay_74 : decode cM_isWay 74 = .ok (.iload_n 3, 1) := by decide +kernel
theorem dM_isWay_75 : decode cM_isWay 75 = .ok (.iaload, 1) := by decide +kernel
theorem dM_isWay_76 : decode cM_isWay 76 = .ok (.iload 4, 2) := by decide +kernel
theorem dM_isWay_78 : decode cM_isWay 78 = .ok (.if_icmp .ne 7, 3) := by decide +kernel
theorem dM_isWay_81 : decode cM_isWay 81 = .ok (.iconst 1, 1) := by decide +kernel
theorem dM_isWay_82 : decode cM_isWay 82 = .ok (.goto 4, 3) := by decide +kernel
theorem dM_isWay_85 : decode cM_isWay 85 = .ok (.iconst 0, 1) := by decide +kernel
theorem dM_isWay_86 : decode cM_isWay 86 = .ok (.ireturn, 1) := by decide +kernel
theorem dM_isWay_87 : decode cM_isWay 87 = .ok (.aload_n 0, 1) := by decide +kernel
theorem dM_isWay_88 : decode cM_isWay 88 = .ok (.getfield 19, 3) := by decide +kernel
theorem dM_isWay_91 : decode cM_isWay 91 = .ok (.iload_n 2, 1) := by decide +kernel
theorem dM_isWay_92 : decode cM_isWay 92 = .ok (.baload, 1) := by decide +kernel
theorem dM_isWay_93 : decode cM_isWay 93 = .ok (.ifCond .ne 18, 3) := by decide +kernel
theorem dM_isWay_96 : decode cM_isWay 96 = .ok (.aload_n 0, 1) := by decide +kernel
theorem dM_isWay_97 : decode cM_isWay 97 = .ok (.getfield 7, 3) := by decide +kernel
theorem dM_isWay_100 : decode cM_isWay 100 = .ok (.iload 4, 2) := by decide +kernel
theorem dM_isWay_102 : decode cM_isWay 102 = .ok (.iaload, 1) := by decide +kernel
theorem dM_isWay_103 : decode cM_isWay 103 = .ok (.iload_n 3, 1) := by decide +kernel
theorem dM_isWay_104 : decode cM_isWay 104 = .ok (.if_icmp .ne 7, 3) := by decide +kernel
theorem dM_isWay_107 : decode cM_isWay 107 = .ok (.iconst 1, 1) := by decide +kernel
theorem dM_isWay_108 : decode cM_isWay 108 = .ok (.goto 4, 3) := by decide +kernel
theorem dM_isWay_111 : decode cM_isWay 111 = .ok (.iconst 0, 1) := by decide +kernel
theorem dM_isWay_112 : decode cM_isWay 112 = .ok (.ireturn, 1) := by decide +kernel
theorem dM_connect_0 : decode cM_connect 0 = .ok (.aload_n 0, 1) := by decide +kernel
theorem dM_connect_1 : decode cM_connect 1 = .ok (.iconst 0, 1) := by decide +kernel
theorem dM_connect_2 : decode cM_connect 2 = .ok (.putfield 54, 3) := by decide +kernel
theorem dM_connect_5 : decode cM_connect 5 = .ok (.aload_n 0, 1) := by decide +kernel
theorem dM_connect_6 : decode cM_connect 6 = .ok (.iload_n 1, 1) := by decide +kernel
theorem dM_connect_7 : decode cM_connect 7 = .ok (.invokevirtual 74, 3) := by decide +kernel
theorem dM_connect_10 : decode cM_connect 10 = .ok (.ifCond .eq 11, 3) := by decide +kernel
theorem dM_connect_13 : decode cM_connect 13 = .ok (.aload_n 0, 1) := by decide +kernel
theorem dM_connect_14 : decode cM_connect 14 = .ok (.iload_n 2, 1) := by decide +kernel
theorem dM_connect_15 : decode cM_connect 15 = .ok (.invokevirtual 74, 3) := by decide +kernel
theorem dM_connect_18 : decode cM_connect 18 = .ok (.ifCond .ne 5, 3) := by decide +kernel
theorem dM_connect_21 : decode cM_connect 21 = .ok (.iconst (-1), 1) := by decide +kernel
theorem dM_connect_22 : decode cM_connect 22 = .ok (.ireturn, 1) := by decide +kernel
theorem dM_connect_23 : decode cM_connect 23 = .ok (.aload_n 0, 1) := by decide +kernel
theorem dM_connect_24 : decode cM_connect 24 = .ok (.getfield 16, 3) := by decide +kernel
theorem dM_connect_27 : decode cM_connect 27 = .ok (.iload_n 1, 1) := by decide +kernel
theorem dM_connect_28 : decode cM_connect 28 = .ok (.iaload, 1) := by decide +kernel
theorem dM_connect_29 : decode cM_connect 29 = .ok (.aload_n 0, 1) := by decide +kernel
theorem dM_connect_30 : decode cM_connect 30 = .ok (.getfield 16, 3) := by decide +kernel
theorem dM_connect_33 : decode cM_connect 33 = .ok (.iload_n 2, 1) := by decide +kernel
theorem dM_connect_34 : decode cM_connect 34 = .ok (.iaload, 1) := by decide +kernel
theorem dM_connect_35 : decode cM_connect 35 = .ok (.if_icmp .ne 12, 3) := by decide +kernel
theorem dM_connect_38 : decode cM_connect 38 = .ok (.aload_n 0, 1) := by decide +kernel
theorem dM_connect_39 : decode cM_connect 39 = .ok (.iload_n 1, 1) := by decide +kernel
theorem dM_connect_40 : decode cM_connect 40 = .ok (.iload_n 2, 1) := by decide +kernel
theorem dM_connect_41 : decode cM_connect 41 = .ok (.invokevirtual 82, 3) := by decide +kernel
theorem dM_connect_44 : decode cM_connect 44 = .ok (.ifCond .ne 6, 3) := by decide +kernel
theorem dM_connect_47 : decode cM_connect 47 = .ok (.bipush (-2), 2) := by decide +kernel
theorem dM_connect_49 : decode cM_connect 49 = .ok (.ireturn, 1) := by decide +kernel
theorem dM_connect_50 : decode cM_connect 50 = .ok (.aload_n 0, 1) := by decide +kernel
theorem dM_connect_51 : decode cM_connect 51 = .ok (.getfield 48, 3) := by decide +kernel
theorem dM_connect_54 : decode cM_connect 54 = .ok (.bipush 61, 2) := by decide +kernel
theorem dM_connect_56 : decode cM_connect 56 = .ok (.iload_n 1, 1) := by decide +kernel
theorem dM_connect_57 : decode cM_connect 57 = .ok (.imul, 1) := by decide +kernel
theorem dM_connect_58 : decode cM_connect 58 = .ok (.iload_n 2, 1) := by decide +kernel
theorem dM_connect_59 : decode cM_connect 59 = .ok (.iadd, 1) := by decide +kernel
theorem dM_connect_60 : decode cM_connect 60 = .ok (.baload, 1) := by decide +kernel
theorem dM_connect_61 : decode cM_connect 61 = .ok (.ifCond .eq 5, 3) := by decide +kernel
theorem dM_connect_64 : decode cM_connect 64 = .ok (.iconst 0, 1) := by decide +kernel
theorem dM_connect_65 : decode cM_connect 65 = .ok (.ireturn, 1) := by decide +kernel
theorem dM_connect_66 : decode cM_connect 66 = .ok (.aload_n 0, 1) := by decide +kernel
theorem dM_connect_67 : decode cM_connect 67 = .ok (.getfield 48, 3) := by decide +kernel
theorem dM_connect_70 : decode cM_connect 70 = .ok (.bipush 61, 2) := by decide +kernel
theorem dM_connect_72 : decode cM_connect 72 = .ok (.iload_n 1, 1) := by decide +kernel
theorem dM_connect_73 : decode cM_connect 73 = .ok (.imul, 1) := by decide +kernel
theorem dM_connect_74 : decode cM_connect 74 = .ok (.iload_n 2, 1) := by decide +kernel
theorem dM_connect_75 : decode cM_connect 75 = .ok (.iadd, 1) := by decide +kernel
theorem dM_connect_76 : decode cM_connect 76 = .ok (.iconst 1, 1) := by decide +kernel
theorem dM_connect_77 : decode cM_connect 77 = .ok (.bastore, 1) := by decide +kernel
theorem dM_connect_78 : decode cM_connect 78 = .ok (.aload_n 0, 1) := by decide +kernel
theorem dM_connect_79 : decode cM_connect 79 = .ok (.iconst 0, 1) := by decide +kernel
theorem dM_connect_80 : decode cM_connect 80 = .ok (.putfield 65, 3) := by decide +kernel
theorem dM_connect_83 : decode cM_connect 83 = .ok (.iconst 1, 1) := by decide +kernel
theorem dM_connect_84 : decode cM_connect 84 = .ok (.ireturn, 1) := by decide +kernel
theorem dM_know_0 : decode cM_know 0 = .ok (.aload_n 0, 1) := by decide +kernel
theorem dM_know_1 : decode cM_know 1 = .ok (.getfield 65, 3) := by decide +kernel
theorem dM_know_4 : decode cM_know 4 = .ok (.ifCond .eq 4, 3) := by decide +kernel
theorem dM_know_7 : decode cM_know 7 = .ok (.return_, 1) := by decide +kernel
theorem dM_know_8 : decode cM_know 8 = .ok (.aload_n 0, 1) := by decide +kernel
theorem dM_know_9 : decode cM_know 9 = .ok (.iconst 1, 1) := by decide +kernel
theorem dM_know_10 : decode cM_know 10 = .ok (.putfield 65, 3) := by decide +kernel
theorem dM_know_13 : decode cM_know 13 = .ok (.iconst 0, 1) := by decide +kernel
theorem dM_know_14 : decode cM_know 14 = .ok (.istore_n 1, 1) := by decide +kernel
theorem dM_know_15 : decode cM_know 15 = .ok (.iload_n 1, 1) := by decide +kernel
theorem dM_know_16 : decode cM_know 16 = .ok (.sipush 3721, 3) := by decide +kernel
theorem dM_know_19 : decode cM_know 19 = .ok (.if_icmp .ge 21, 3) := by decide +kernel
theorem dM_know_22 : decode cM_know 22 = .ok (.aload_n 0, 1) := by decide +kernel
theorem dM_know_23 : decode cM_know 23 = .ok (.getfield 51, 3) := by decide +kernel
theorem dM_know_26 : decode cM_know 26 = .ok (.iload_n 1, 1) := by decide +kernel
theorem dM_know_27 : decode cM_know 27 = .ok (.aload_n 0, 1) := by decide +kernel
theorem dM_know_28 : decode cM_know 28 = .ok (.getfield 48, 3) := by decide +kernel
theorem dM_know_31 : decode cM_know 31 = .ok (.iload_n 1, 1) := by decide +kernel
theorem dM_know_32 : decode cM_know 32 = .ok (.baload, 1) := by decide +kernel
theorem dM_know_33 : decode cM_know 33 = .ok (.bastore, 1) := by decide +kernel
theorem dM_know_34 : decode cM_know 34 = .ok (.iinc 1 1, 3) := by decide +kernel
theorem dM_know_37 : decode cM_know 37 = .ok (.goto (-22), 3) := by decide +kernel
theorem dM_know_40 : decode cM_know 40 = .ok (.iconst 1, 1) := by decide +kernel
theorem dM_know_41 : decode cM_know 41 = .ok (.istore_n 1, 1) := by decide +kernel
theorem dM_know_42 : decode cM_know 42 = .ok (.iload_n 1, 1) := by decide +kernel
theorem dM_know_43 : decode cM_know 43 = .ok (.aload_n 0, 1) := by decide +kernel
theorem dM_know_44 : decode cM_know 44 = .ok (.getfield 71, 3) := by decide +kernel
theorem dM_know_47 : decode cM_know 47 = .ok (.if_icmp .gt 99, 3) := by decide +kernel
theorem dM_know_50 : decode cM_know 50 = .ok (.iconst 1, 1) := by decide +kernel
theorem dM_know_51 : decode cM_know 51 = .ok (.istore_n 2, 1) := by decide +kernel
theorem dM_know_52 : decode cM_know 52 = .ok (.iload_n 2, 1) := by decide +kernel
theorem dM_know_53 : decode cM_know 53 = .ok (.aload_n 0, 1) := by decide +kernel
theorem dM_know_54 : decode cM_know 54 = .ok (.getfield 71, 3) := by decide +kernel
theorem dM_know_57 : decode cM_know 57 = .ok (.if_icmp .gt 83, 3) := by decide +kernel
theorem dM_know_60 : decode cM_know 60 = .ok (.iconst 1, 1) := by decide +kernel
theorem dM_know_61 : decode cM_know 61 = .ok (.istore_n 3, 1) := by decide +kernel
theorem dM_know_62 : decode cM_know 62 = .ok (.iload_n 3, 1) := by decide +kernel
theorem dM_know_63 : decode cM_know 63 = .ok (.aload_n 0, 1) := by decide +kernel
theorem dM_know_64 : decode cM_know 64 = .ok (.getfield 71, 3) := by decide +kernel
theorem dM_know_67 : decode cM_know 67 = .ok (.if_icmp .gt 67, 3) := by decide +kernel
theorem dM_know_70 : decode cM_know 70 = .ok (.aload_n 0, 1) := by decide +kernel
theorem dM_know_71 : decode cM_know 71 = .ok (.getfield 51, 3) := by decide +kernel
theorem dM_know_74 : decode cM_know 74 = .ok (.bipush 61, 2) := by decide +kernel
theorem dM_know_76 : decode cM_know 76 = .ok (.iload_n 2, 1) := by decide +kernel
theorem dM_know_77 : decode cM_know 77 = .ok (.imul, 1) := by decide +kernel
theorem dM_know_78 : decode cM_know 78 = .ok (.iload_n 1, 1) := by decide +kernel
theorem dM_know_79 : decode cM_know 79 = .ok (.iadd, 1) := by decide +kernel
theorem dM_know_80 : decode cM_know 80 = .ok (.baload, 1) := by decide +kernel
theorem dM_know_81 : decode cM_know 81 = .ok (.ifCond .eq 53, 3) := by decide +kernel
theorem dM_know_84 : decode cM_know 84 = .ok (.aload_n 0, 1) := by decide +kernel
theorem dM_know_85 : decode cM_know 85 = .ok (.getfield 51, 3) := by decide +kernel
theorem dM_know_88 : decode cM_know 88 = .ok (.bipush 61, 2) := by decide +kernel
theorem dM_know_90 : decode cM_know 90 = .ok (.iload_n 2, 1) := by decide +kernel
theorem dM_know_91 : decode cM_know 91 = .ok (.imul, 1) := by decide +kernel
theorem dM_know_92 : decode cM_know 92 = .ok (.iload_n 3, 1) := by decide +kernel
theorem dM_know_93 : decode cM_know 93 = .ok (.iadd, 1) := by decide +kernel
theorem dM_know_94 : decode cM_know 94 = .ok (.aload_n 0, 1) := by decide +kernel
theorem dM_know_95 : decode cM_know 95 = .ok (.getfield 51, 3) := by decide +kernel
theorem dM_know_98 : decode cM_know 98 = .ok (.bipush 61, 2) := by decide +kernel
theorem dM_know_100 : decode cM_know 100 = .ok (.iload_n 2, 1) := by decide +kernel
theorem dM_know_101 : decode cM_know 101 = .ok (.imul, 1) := by decide +kernel
theorem dM_know_102 : decode cM_know 102 = .ok (.iload_n 3, 1) := by decide +kernel
theorem dM_know_103 : decode cM_know 103 = .ok (.iadd, 1) := by decide +kernel
theorem dM_know_104 : decode cM_know 104 = .ok (.baload, 1) := by decide +kernel
theorem dM_know_105 : decode cM_know 105 = .ok (.ifCond .ne 17, 3) := by decide +kernel
theorem dM_know_108 : decode cM_know 108 = .ok (.aload_n 0, 1) := by decide +kernel
theorem dM_know_109 : decode cM_know 109 = .ok (.getfield 51, 3) := by decide +kernel
theorem dM_know_112 : decode cM_know 112 = .ok (.bipush 61, 2) := by decide +kernel
theorem dM_know_114 : decode cM_know 114 = .ok (.iload_n 1, 1) := by decide +kernel
theorem dM_know_115 : decode cM_know 115 = .ok (.imul, 1) := by decide +kernel
theorem dM_know_116 : decode cM_know 116 = .ok (.iload_n 3, 1) := by decide +kernel
theorem dM_know_117 : decode cM_know 117 = .ok (.iadd, 1) := by decide +kernel
theorem dM_know_118 : decode cM_know 118 = .ok (.baload, 1) := by decide +kernel
theorem dM_know_119 : decode cM_know 119 = .ok (.ifCond .eq 7, 3) := by decide +kernel
theorem dM_know_122 : decode cM_know 122 = .ok (.iconst 1, 1) := by decide +kernel
theorem dM_know_123 : decode cM_know 123 = .ok (.goto 4, 3) := by decide +kernel
theorem dM_know_126 : decode cM_know 126 = .ok (.iconst 0, 1) := by decide +kernel
theorem dM_know_127 : decode cM_know 127 = .ok (.bastore, 1) := by decide +kernel
theorem dM_know_128 : decode cM_know 128 = .ok (.iinc 3 1, 3) := by decide +kernel
theorem dM_know_131 : decode cM_know 131 = .ok (.goto (-69), 3) := by decide +kernel
theorem dM_know_134 : decode cM_know 134 = .ok (.iinc 2 1, 3) := by decide +kernel
theorem dM_know_137 : decode cM_know 137 = .ok (.goto (-85), 3) := by decide +kernel
theorem dM_know_140 : decode cM_know 140 = .ok (.iinc 1 1, 3) := by decide +kernel
theorem dM_know_143 : decode cM_know 143 = .ok (.goto (-101), 3) := by decide +kernel
theorem dM_know_146 : decode cM_know 146 = .ok (.return_, 1) := by decide +kernel
theorem dM_isAtomic_0 : decode cM_isAtomic 0 = .ok (.iconst 1, 1) := by decide +kernel
theorem dM_isAtomic_1 : decode cM_isAtomic 1 = .ok (.istore_n 2, 1) := by decide +kernel
theorem dM_isAtomic_2 : decode cM_isAtomic 2 = .ok (.iconst 1, 1) := by decide +kernel
theorem dM_isAtomic_3 : decode cM_isAtomic 3 = .ok (.istore_n 3, 1) := by decide +kernel
theorem dM_isAtomic_4 : decode cM_isAtomic 4 = .ok (.iload_n 3, 1) := by decide +kernel
theorem dM_isAtomic_5 : decode cM_isAtomic 5 = .ok (.aload_n 0, 1) := by decide +kernel
theorem dM_isAtomic_6 : decode cM_isAtomic 6 = .ok (.getfield 58, 3) := by decide +kernel
theorem dM_isAtomic_9 : decode cM_isAtomic 9 = .ok (.if_icmp .gt 29, 3) := by decide +kernel
theorem dM_isAtomic_12 : decode cM_isAtomic 12 = .ok (.iload_n 2, 1) := by decide +kernel
theorem dM_isAtomic_13 : decode cM_isAtomic 13 = .ok (.ifCond .eq 17, 3) := by decide +kernel
theorem dM_isAtomic_16 : decode cM_isAtomic 16 = .ok (.aload_n 0, 1) := by decide +kernel
theorem dM_isAtomic_17 : decode cM_isAtomic 17 = .ok (.getfield 7, 3) := by decide +kernel
theorem dM_isAtomic_20 : decode cM_isAtomic 20 = .ok (.iload_n 3, 1) := by decide +kernel
theorem dM_isAtomic_21 : decode cM_isAtomic 21 = .ok (.iaload, 1) := by decide +kernel
theorem dM_isAtomic_22 : decode cM_isAtomic 22 = .ok (.iload_n 1, 1) := by decide +kernel
theorem dM_isAtomic_23 : decode cM_isAtomic 23 = .ok (.if_icmp .eq 7, 3) := by decide +kernel
theorem dM_isAtomic_26 : decode cM_isAtomic 26 = .ok (.iconst 1, 1) := by decide +kernel
theorem dM_isAtomic_27 : decode cM_isAtomic 27 = .ok (.goto 4, 3) := by decide +kernel
theorem dM_isAtomic_30 : decode cM_isAtomic 30 = .ok (.iconst 0, 1) := by decide +kernel
theorem dM_isAtomic_31 : decode cM_isAtomic 31 = .ok (.istore_n 2, 1) := by decide +kernel
theorem dM_isAtomic_32 : decode cM_isAtomic 32 = .ok (.iinc 3 1, 3) := by decide +kernel
theorem dM_isAtomic_35 : decode cM_isAtomic 35 = .ok (.goto (-31), 3) := by decide +kernel
theorem dM_isAtomic_38 : decode cM_isAtomic 38 = .ok (.iload_n 2, 1) := by decide +kernel
theorem dM_isAtomic_39 : decode cM_isAtomic 39 = .ok (.ireturn, 1) := by decide +kernel
theorem dM_isFlat_0 : decode cM_isFlat 0 = .ok (.aload_n 0, 1) := by decide +kernel
theorem dM_isFlat_1 : decode cM_isFlat 1 = .ok (.getfield 19, 3) := by decide +kernel
theorem dM_isFlat_4 : decode cM_isFlat 4 = .ok (.iload_n 1, 1) := by decide +kernel
theorem dM_isFlat_5 : decode cM_isFlat 5 = .ok (.baload, 1) := by decide +kernel
theorem dM_isFlat_6 : decode cM_isFlat 6 = .ok (.ifCond .eq 56, 3) := by decide +kernel
theorem dM_isFlat_9 : decode cM_isFlat 9 = .ok (.aload_n 0, 1) := by decide +kernel
theorem dM_isFlat_10 : decode cM_isFlat 10 = .ok (.getfield 19, 3) := by decide +kernel
theorem dM_isFlat_13 : decode cM_isFlat 13 = .ok (.iload_n 2, 1) := by decide +kernel
theorem dM_isFlat_14 : decode cM_isFlat 14 = .ok (.baload, 1) := by decide +kernel
theorem dM_isFlat_15 : decode cM_isFlat 15 = .ok (.ifCond .ne 47, 3) := by decide +kernel
theorem dM_isFlat_18 : decode cM_isFlat 18 = .ok (.aload_n 0, 1) := by decide +kernel
theorem dM_isFlat_19 : decode cM_isFlat 19 = .ok (.getfield 51, 3) := by decide +kernel
theorem dM_isFlat_22 : decode cM_isFlat 22 = .ok (.bipush 61, 2) := by decide +kernel
theorem dM_isFlat_24 : decode cM_isFlat 24 = .ok (.iload_n 1, 1) := by decide +kernel
theorem dM_isFlat_25 : decode cM_isFlat 25 = .ok (.imul, 1) := by decide +kernel
theorem dM_isFlat_26 : decode cM_isFlat 26 = .ok (.iload_n 2, 1) := by decide +kernel
theorem dM_isFlat_27 : decode cM_isFlat 27 = .ok (.iadd, 1) := by decide +kernel
theorem dM_isFlat_28 : decode cM_isFlat 28 = .ok (.baload, 1) := by decide +kernel
theorem dM_isFlat_29 : decode cM_isFlat 29 = .ok (.ifCond .eq 33, 3) := by decide +kernel
theorem dM_isFlat_32 : decode cM_isFlat 32 = .ok (.aload_n 0, 1) := by decide +kernel
theorem dM_isFlat_33 : decode cM_isFlat 33 = .ok (.aload_n 0, 1) := by decide +kernel
theorem dM_isFlat_34 : decode cM_isFlat 34 = .ok (.getfield 13, 3) := by decide +kernel
theorem dM_isFlat_37 : decode cM_isFlat 37 = .ok (.iload_n 1, 1) := by decide +kernel
theorem dM_isFlat_38 : decode cM_isFlat 38 = .ok (.iaload, 1) := by decide +kernel
theorem dM_isFlat_39 : decode cM_isFlat 39 = .ok (.invokevirtual 86, 3) := by decide +kernel
theorem dM_isFlat_42 : decode cM_isFlat 42 = .ok (.ifCond .eq 20, 3) := by decide +kernel
theorem dM_isFlat_45 : decode cM_isFlat 45 = .ok (.aload_n 0, 1) := by decide +kernel
theorem dM_isFlat_46 : decode cM_isFlat 46 = .ok (.aload_n 0, 1) := by decide +kernel
theorem dM_isFlat_47 : decode cM_isFlat 47 = .ok (.getfield 13, 3) := by decide +kernel
theorem dM_isFlat_50 : decode cM_isFlat 50 = .ok (.iload_n 2, 1) := by decide +kernel
theorem dM_isFlat_51 : decode cM_isFlat 51 = .ok (.iaload, 1) := by decide +kernel
theorem dM_isFlat_52 : decode cM_isFlat 52 = .ok (.invokevirtual 86, 3) := by decide +kernel
theorem dM_isFlat_55 : decode cM_isFlat 55 = .ok (.ifCond .eq 7, 3) := by decide +kernel
theorem dM_isFlat_58 : decode cM_isFlat 58 = .ok (.iconst 1, 1) := by decide +kernel
theorem dM_isFlat_59 : decode cM_isFlat 59 = .ok (.goto 4, 3) := by decide +kernel
theorem dM_isFlat_62 : decode cM_isFlat 62 = .ok (.iconst 0, 1) := by decide +kernel
theorem dM_isFlat_63 : decode cM_isFlat 63 = .ok (.ireturn, 1) := by decide +kernel
theorem dM_flat_0 : decode cM_flat 0 = .ok (.aload_n 0, 1) := by decide +kernel
theorem dM_flat_1 : decode cM_flat 1 = .ok (.invokevirtual 89, 3) := by decide +kernel
theorem dM_flat_4 : decode cM_flat 4 = .ok (.iconst 0, 1) := by decide +kernel
theorem dM_flat_5 : decode cM_flat 5 = .ok (.istore_n 2, 1) := by decide +kernel
theorem dM_flat_6 : decode cM_flat 6 = .ok (.iconst 1, 1) := by decide +kernel
theorem dM_flat_7 : decode cM_flat 7 = .ok (.istore_n 3, 1) := by decide +kernel
theorem dM_flat_8 : decode cM_flat 8 = .ok (.iload_n 3, 1) := by decide +kernel
theorem dM_flat_9 : decode cM_flat 9 = .ok (.aload_n 0, 1) := by decide +kernel
theorem dM_flat_10 : decode cM_flat 10 = .ok (.getfield 71, 3) := by decide +kernel
theorem dM_flat_13 : decode cM_flat 13 = .ok (.if_icmp .gt 53, 3) := by decide +kernel
theorem dM_flat_16 : decode cM_flat 16 = .ok (.iconst 1, 1) := by decide +kernel
theorem dM_flat_17 : decode cM_flat 17 = .ok (.istore 4, 2) := by decide +kernel
theorem dM_flat_19 : decode cM_flat 19 = .ok (.iload 4, 2) := by decide +kernel
theorem dM_flat_21 : decode cM_flat 21 = .ok (.aload_n 0, 1) := by decide +kernel
theorem dM_flat_22 : decode cM_flat 22 = .ok (.getfield 71, 3) := by decide +kernel
theorem dM_flat_25 : decode cM_flat 25 = .ok (.if_icmp .gt 35, 3) := by decide +kernel
theorem dM_flat_28 : decode cM_flat 28 = .ok (.aload_n 0, 1) := by decide +kernel
theorem dM_flat_29 : decode cM_flat 29 = .ok (.iload_n 3, 1) := by decide +kernel
theorem dM_flat_30 : decode cM_flat 30 = .ok (.iload 4, 2) := by decide +kernel
theorem dM_flat_32 : decode cM_flat 32 = .ok (.invokevirtual 92, 3) := by decide +kernel
theorem dM_flat_35 : decode cM_flat 35 = .ok (.ifCond .eq 19, 3) := by decide +kernel
theorem dM_flat_38 : decode cM_flat 38 = .ok (.iload_n 2, 1) := by decide +kernel
theorem dM_flat_39 : decode cM_flat 39 = .ok (.iload_n 1, 1) := by decide +kernel
theorem dM_flat_40 : decode cM_flat 40 = .ok (.if_icmp .ne 11, 3) := by decide +kernel
theorem dM_flat_43 : decode cM_flat 43 = .ok (.bipush 61, 2) := by decide +kernel
theorem dM_flat_45 : decode cM_flat 45 = .ok (.iload_n 3, 1) := by decide +kernel
theorem dM_flat_46 : decode cM_flat 46 = .ok (.imul, 1) := by decide +kernel
theorem dM_flat_47 : decode cM_flat 47 = .ok (.iload 4, 2) := by decide +kernel
theorem dM_flat_49 : decode cM_flat 49 = .ok (.iadd, 1) := by decide +kernel
theorem dM_flat_50 : decode cM_flat 50 = .ok (.ireturn, 1) := by decide +kernel
theorem dM_flat_51 : decode cM_flat 51 = .ok (.iinc 2 1, 3) := by decide +kernel
theorem dM_flat_54 : decode cM_flat 54 = .ok (.iinc 4 1, 3) := by decide +kernel
theorem dM_flat_57 : decode cM_flat 57 = .ok (.goto (-38), 3) := by decide +kernel
theorem dM_flat_60 : decode cM_flat 60 = .ok (.iinc 3 1, 3) := by decide +kernel
theorem dM_flat_63 : decode cM_flat 63 = .ok (.goto (-55), 3) := by decide +kernel
theorem dM_flat_66 : decode cM_flat 66 = .ok (.iload_n 2, 1) := by decide +kernel
theorem dM_flat_67 : decode cM_flat 67 = .ok (.sipush 10000, 3) := by decide +kernel
theorem dM_flat_70 : decode cM_flat 70 = .ok (.isub, 1) := by decide +kernel
theorem dM_flat_71 : decode cM_flat 71 = .ok (.ireturn, 1) := by decide +kernel
theorem dM_flatten_0 : decode cM_flatten 0 = .ok (.aload_n 0, 1) := by decide +kernel
theorem dM_flatten_1 : decode cM_flatten 1 = .ok (.iconst 0, 1) := by decide +kernel
theorem dM_flatten_2 : decode cM_flatten 2 = .ok (.putfield 54, 3) := by decide +kernel
theorem dM_flatten_5 : decode cM_flatten 5 = .ok (.aload_n 0, 1) := by decide +kernel
theorem dM_flatten_6 : decode cM_flatten 6 = .ok (.iconst (-1), 1) := by decide +kernel
theorem dM_flatten_7 : decode cM_flatten 7 = .ok (.invokevirtual 95, 3) := by decide +kernel
theorem dM_flatten_10 : decode cM_flatten 10 = .ok (.sipush 10000, 3) := by decide +kernel
theorem dM_flatten_13 : decode cM_flatten 13 = .ok (.iadd, 1) := by decide +kernel
theorem dM_flatten_14 : decode cM_flatten 14 = .ok (.ireturn, 1) := by decide +kernel
theorem dM_at_0 : decode cM_at 0 = .ok (.iload_n 1, 1) := by decide +kernel
theorem dM_at_1 : decode cM_at 1 = .ok (.ifCond .ge 7, 3) := by decide +kernel
theorem dM_at_4 : decode cM_at 4 = .ok (.iconst (-1), 1) := by decide +kernel
theorem dM_at_5 : decode cM_at 5 = .ok (.goto 8, 3) := by decide +kernel
theorem dM_at_8 : decode cM_at 8 = .ok (.aload_n 0, 1) := by decide +kernel
theorem dM_at_9 : decode cM_at 9 = .ok (.iload_n 1, 1) := by decide +kernel
theorem dM_at_10 : decode cM_at 10 = .ok (.invokevirtual 95, 3) := by decide +kernel
theorem dM_at_13 : decode cM_at 13 = .ok (.istore_n 3, 1) := by decide +kernel
theorem dM_at_14 : decode cM_at 14 = .ok (.aload_n 0, 1) := by decide +kernel
theorem dM_at_15 : decode cM_at 15 = .ok (.iload_n 3, 1) := by decide +kernel
theorem dM_at_16 : decode cM_at 16 = .ok (.ifCond .ge 7, 3) := by decide +kernel
theorem dM_at_19 : decode cM_at 19 = .ok (.iconst 1, 1) := by decide +kernel
theorem dM_at_20 : decode cM_at 20 = .ok (.goto 4, 3) := by decide +kernel
theorem dM_at_23 : decode cM_at 23 = .ok (.iconst 0, 1) := by decide +kernel
theorem dM_at_24 : decode cM_at 24 = .ok (.putfield 54, 3) := by decide +kernel
theorem dM_at_27 : decode cM_at 27 = .ok (.aload_n 0, 1) := by decide +kernel
theorem dM_at_28 : decode cM_at 28 = .ok (.getfield 54, 3) := by decide +kernel
theorem dM_at_31 : decode cM_at 31 = .ok (.ifCond .le 7, 3) := by decide +kernel
theorem dM_at_34 : decode cM_at 34 = .ok (.iconst 0, 1) := by decide +kernel
theorem dM_at_35 : decode cM_at 35 = .ok (.goto 18, 3) := by decide +kernel
theorem dM_at_38 : decode cM_at 38 = .ok (.iload_n 2, 1) := by decide +kernel
theorem dM_at_39 : decode cM_at 39 = .ok (.ifCond .ne 10, 3) := by decide +kernel
theorem dM_at_42 : decode cM_at 42 = .ok (.iload_n 3, 1) := by decide +kernel
theorem dM_at_43 : decode cM_at 43 = .ok (.bipush 61, 2) := by decide +kernel
theorem dM_at_45 : decode cM_at 45 = .ok (.idiv, 1) := by decide +kernel
theorem dM_at_46 : decode cM_at 46 = .ok (.goto 7, 3) := by decide +kernel
theorem dM_at_49 : decode cM_at 49 = .ok (.iload_n 3, 1) := by decide +kernel
theorem dM_at_50 : decode cM_at 50 = .ok (.bipush 61, 2) := by decide +kernel
theorem dM_at_52 : decode cM_at 52 = .ok (.irem, 1) := by decide +kernel
theorem dM_at_53 : decode cM_at 53 = .ok (.ireturn, 1) := by decide +kernel
theorem dM_isManaging_0 : decode cM_isManaging 0 = .ok (.iconst 0, 1) := by decide +kernel
theorem dM_isManaging_1 : decode cM_isManaging 1 = .ok (.istore_n 2, 1) := by decide +kernel
theorem dM_isManaging_2 : decode cM_isManaging 2 = .ok (.iconst 0, 1) := by decide +kernel
theorem dM_isManaging_3 : decode cM_isManaging 3 = .ok (.istore_n 3, 1) := by decide +kernel
theorem dM_isManaging_4 : decode cM_isManaging 4 = .ok (.iload_n 3, 1) := by decide +kernel
theorem dM_isManaging_5 : decode cM_isManaging 5 = .ok (.bipush 10, 2) := by decide +kernel
theorem dM_isManaging_7 : decode cM_isManaging 7 = .ok (.if_icmp .ge 29, 3) := by decide +kernel
theorem dM_isManaging_10 : decode cM_isManaging 10 = .ok (.iload_n 2, 1) := by decide +kernel
theorem dM_isManaging_11 : decode cM_isManaging 11 = .ok (.ifCond .ne 13, 3) := by decide +kernel
theorem dM_isManaging_14 : decode cM_isManaging 14 = .ok (.aload_n 0, 1) := by decide +kernel
theorem dM_isManaging_15 : decode cM_isManaging 15 = .ok (.getfield 45, 3) := by decide +kernel
theorem dM_isManaging_18 : decode cM_isManaging 18 = .ok (.iload_n 3, 1) := by decide +kernel
theorem dM_isManaging_19 : decode cM_isManaging 19 = .ok (.iaload, 1) := by decide +kernel
theorem dM_isManaging_20 : decode cM_isManaging 20 = .ok (.iload_n 1, 1) := by decide +kernel
theorem dM_isManaging_21 : decode cM_isManaging 21 = .ok (.if_icmp .ne 7, 3) := by decide +kernel
theorem dM_isManaging_24 : decode cM_isManaging 24 = .ok (.iconst 1, 1) := by decide +kernel
theorem dM_isManaging_25 : decode cM_isManaging 25 = .ok (.goto 4, 3) := by decide +kernel
theorem dM_isManaging_28 : decode cM_isManaging 28 = .ok (.iconst 0, 1) := by decide +kernel
theorem dM_isManaging_29 : decode cM_isManaging 29 = .ok (.istore_n 2, 1) := by decide +kernel
theorem dM_isManaging_30 : decode cM_isManaging 30 = .ok (.iinc 3 1, 3) := by decide +kernel
theorem dM_isManaging_33 : decode cM_isManaging 33 = .ok (.goto (-29), 3) := by decide +kernel
theorem dM_isManaging_36 : decode cM_isManaging 36 = .ok (.iload_n 2, 1) := by decide +kernel
theorem dM_isManaging_37 : decode cM_isManaging 37 = .ok (.ireturn, 1) := by decide +kernel
theorem dM_isBroken_0 : decode cM_isBroken 0 = .ok (.aload_n 0, 1) := by decide +kernel
theorem dM_isBroken_1 : decode cM_isBroken 1 = .ok (.getfield 23, 3) := by decide +kernel
theorem dM_isBroken_4 : decode cM_isBroken 4 = .ok (.iload_n 2, 1) := by decide +kernel
theorem dM_isBroken_5 : decode cM_isBroken 5 = .ok (.iaload, 1) := by decide +kernel
theorem dM_isBroken_6 : decode cM_isBroken 6 = .ok (.ifCond .lt 16, 3) := by decide +kernel
theorem dM_isBroken_9 : decode cM_isBroken 9 = .ok (.aload_n 0, 1) := by decide +kernel
theorem dM_isBroken_10 : decode cM_isBroken 10 = .ok (.getfield 23, 3) := by decide +kernel
theorem dM_isBroken_13 : decode cM_isBroken 13 = .ok (.iload_n 3, 1) := by decide +kernel
theorem dM_isBroken_14 : decode cM_isBroken 14 = .ok (.iaload, 1) := by decide +kernel
theorem dM_isBroken_15 : decode cM_isBroken 15 = .ok (.ifCond .lt 7, 3) := by decide +kernel
theorem dM_isBroken_18 : decode cM_isBroken 18 = .ok (.iconst 1, 1) := by decide +kernel
theorem dM_isBroken_19 : decode cM_isBroken 19 = .ok (.goto 4, 3) := by decide +kernel
theorem dM_isBroken_22 : decode cM_isBroken 22 = .ok (.iconst 0, 1) := by decide +kernel
theorem dM_isBroken_23 : decode cM_isBroken 23 = .ok (.istore 4, 2) := by decide +kernel
theorem dM_isBroken_25 : decode cM_isBroken 25 = .ok (.iload_n 1, 1) := by decide +kernel
theorem dM_isBroken_26 : decode cM_isBroken 26 = .ok (.tableswitch 187 1 4 #[30, 67, 93, 136], 30) := by decide +kernel
theorem dM_isBroken_56 : decode cM_isBroken 56 = .ok (.aload_n 0, 1) := by decide +kernel
theorem dM_isBroken_57 : decode cM_isBroken 57 = .ok (.getfield 23, 3) := by decide +kernel
theorem dM_isBroken_60 : decode cM_isBroken 60 = .ok (.iload_n 2, 1) := by decide +kernel
theorem dM_isBroken_61 : decode cM_isBroken 61 = .ok (.iaload, 1) := by decide +kernel
theorem dM_isBroken_62 : decode cM_isBroken 62 = .ok (.ifCond .lt 7, 3) := by decide +kernel
theorem dM_isBroken_65 : decode cM_isBroken 65 = .ok (.iconst 1, 1) := by decide +kernel
theorem dM_isBroken_66 : decode cM_isBroken 66 = .ok (.goto 4, 3) := by decide +kernel
theorem dM_isBroken_69 : decode cM_isBroken 69 = .ok (.iconst 0, 1) := by decide +kernel
theorem dM_isBroken_70 : decode cM_isBroken 70 = .ok (.aload_n 0, 1) := by decide +kernel
theorem dM_isBroken_71 : decode cM_isBroken 71 = .ok (.getfield 23, 3) := by decide +kernel
theorem dM_isBroken_74 : decode cM_isBroken 74 = .ok (.iload_n 3, 1) := by decide +kernel
theorem dM_isBroken_75 : decode cM_isBroken 75 = .ok (.iaload, 1) := by decide +kernel
theorem dM_isBroken_76 : decode cM_isBroken 76 = .ok (.ifCond .lt 7, 3) := by decide +kernel
theorem dM_isBroken_79 : decode cM_isBroken 79 = .ok (.iconst 1, 1) := by decide +kernel
theorem dM_isBroken_80 : decode cM_isBroken 80 = .ok (.goto 4, 3) := by decide +kernel
theorem dM_isBroken_83 : decode cM_isBroken 83 = .ok (.iconst 0, 1) := by decide +kernel
theorem dM_isBroken_84 : decode cM_isBroken 84 = .ok (.if_icmp .eq 7, 3) := by decide +kernel
theorem dM_isBroken_87 : decode cM_isBroken 87 = .ok (.iconst 1, 1) := by decide +kernel
theorem dM_isBroken_88 : decode cM_isBroken 88 = .ok (.goto 4, 3) := by decide +kernel
theorem dM_isBroken_91 : decode cM_isBroken 91 = .ok (.iconst 0, 1) := by decide +kernel
theorem dM_isBroken_92 : decode cM_isBroken 92 = .ok (.ireturn, 1) := by decide +kernel
theorem dM_isBroken_93 : decode cM_isBroken 93 = .ok (.iload 4, 2) := by decide +kernel
theorem dM_isBroken_95 : decode cM_isBroken 95 = .ok (.ifCond .eq 22, 3) := by decide +kernel
theorem dM_isBroken_98 : decode cM_isBroken 98 = .ok (.aload_n 0, 1) := by decide +kernel
theorem dM_isBroken_99 : decode cM_isBroken 99 = .ok (.getfield 23, 3) := by decide +kernel
theorem dM_isBroken_102 : decode cM_isBroken 102 = .ok (.iload_n 2, 1) := by decide +kernel
theorem dM_isBroken_103 : decode cM_isBroken 103 = .ok (.iaload, 1) := by decide +kernel
theorem dM_isBroken_104 : decode cM_isBroken 104 = .ok (.aload_n 0, 1) := by decide +kernel
theorem dM_isBroken_105 : decode cM_isBroken 105 = .ok (.getfield 23, 3) := by decide +kernel
theorem dM_isBroken_108 : decode cM_isBroken 108 = .ok (.iload_n 3, 1) := by decide +kernel
theorem dM_isBroken_109 : decode cM_isBroken 109 = .ok (.iaload, 1) := by decide +kernel
theorem dM_isBroken_110 : decode cM_isBroken 110 = .ok (.if_icmp .eq 7, 3) := by decide +kernel
theorem dM_isBroken_113 : decode cM_isBroken 113 = .ok (.iconst 1, 1) := by decide +kernel
theorem dM_isBroken_114 : decode cM_isBroken 114 = .ok (.goto 4, 3) := by decide +kernel
theorem dM_isBroken_117 : decode cM_isBroken 117 = .ok (.iconst 0, 1) := by decide +kernel
theorem dM_isBroken_118 : decode cM_isBroken 118 = .ok (.ireturn, 1) := by decide +kernel
theorem dM_isBroken_119 : decode cM_isBroken 119 = .ok (.iload 4, 2) := by decide +kernel
theorem dM_isBroken_121 : decode cM_isBroken 121 = .ok (.ifCond .eq 39, 3) := by decide +kernel
theorem dM_isBroken_124 : decode cM_isBroken 124 = .ok (.aload_n 0, 1) := by decide +kernel
theorem dM_isBroken_125 : decode cM_isBroken 125 = .ok (.getfield 26, 3) := by decide +kernel
theorem dM_isBroken_128 : decode cM_isBroken 128 = .ok (.iload_n 2, 1) := by decide +kernel
theorem dM_isBroken_129 : decode cM_isBroken 129 = .ok (.laload, 1) := by decide +kernel
theorem dM_isBroken_130 : decode cM_isBroken 130 = .ok (.aload_n 0, 1) := by decide +kernel
theorem dM_isBroken_131 : decode cM_isBroken 131 = .ok (.getfield 30, 3) := by decide +kernel
theorem dM_isBroken_134 : decode cM_isBroken 134 = .ok (.iload_n 3, 1) := by decide +kernel
theorem dM_isBroken_135 : decode cM_isBroken 135 = .ok (.laload, 1) := by decide +kernel
theorem dM_isBroken_136 : decode cM_isBroken 136 = .ok (.lmul, 1) := by decide +kernel
theorem dM_isBroken_137 : decode cM_isBroken 137 = .ok (.aload_n 0, 1) := by decide +kernel
theorem dM_isBroken_138 : decode cM_isBroken 138 = .ok (.getfield 30, 3) := by decide +kernel
theorem dM_isBroken_141 : decode cM_isBroken 141 = .ok (.iload_n 2, 1) := by decide +kernel
theorem dM_isBroken_142 : decode cM_isBroken 142 = .ok (.laload, 1) := by decide +kernel
theorem dM_isBroken_143 : decode cM_isBroken 143 = .ok (.aload_n 0, 1) := by decide +kernel
theorem dM_isBroken_144 : decode cM_isBroken 144 = .ok (.getfield 26, 3) := by decide +kernel
theorem dM_isBroken_147 : decode cM_isBroken 147 = .ok (.iload_n 3, 1) := by decide +kernel
theorem dM_isBroken_148 : decode cM_isBroken 148 = .ok (.laload, 1) := by decide +kernel
theorem dM_isBroken_149 : decode cM_isBroken 149 = .ok (.lmul, 1) := by decide +kernel
theorem dM_isBroken_150 : decode cM_isBroken 150 = .ok (.lrem, 1) := by decide +kernel
theorem dM_isBroken_151 : decode cM_isBroken 151 = .ok (.lconst 0, 1) := by decide +kernel
theorem dM_isBroken_152 : decode cM_isBroken 152 = .ok (.lcmp, 1) := by decide +kernel
theorem dM_isBroken_153 : decode cM_isBroken 153 = .ok (.ifCond .eq 7, 3) := by decide +kernel
theorem dM_isBroken_156 : decode cM_isBroken 156 = .ok (.iconst 1, 1) := by decide +kernel
theorem dM_isBroken_157 : decode cM_isBroken 157 = .ok (.goto 4, 3) := by decide +kernel
theorem dM_isBroken_160 : decode cM_isBroken 160 = .ok (.iconst 0, 1) := by decide +kernel
theorem dM_isBroken_161 : decode cM_isBroken 161 = .ok (.ireturn, 1) := by decide +kernel
theorem dM_isBroken_162 : decode cM_isBroken 162 = .ok (.aload_n 0, 1) := by decide +kernel
theorem dM_isBroken_163 : decode cM_isBroken 163 = .ok (.getfield 33, 3) := by decide +kernel
theorem dM_isBroken_166 : decode cM_isBroken 166 = .ok (.iload_n 3, 1) := by decide +kernel
theorem dM_isBroken_167 : decode cM_isBroken 167 = .ok (.iaload, 1) := by decide +kernel
theorem dM_isBroken_168 : decode cM_isBroken 168 = .ok (.ifCond .lt 43, 3) := by decide +kernel
theorem dM_isBroken_171 : decode cM_isBroken 171 = .ok (.aload_n 0, 1) := by decide +kernel
theorem dM_isBroken_172 : decode cM_isBroken 172 = .ok (.getfield 33, 3) := by decide +kernel
theorem dM_isBroken_175 : decode cM_isBroken 175 = .ok (.iload_n 2, 1) := by decide +kernel
theorem dM_isBroken_176 : decode cM_isBroken 176 = .ok (.iaload, 1) := by decide +kernel
theorem dM_isBroken_177 : decode cM_isBroken 177 = .ok (.aload_n 0, 1) := by decide +kernel
theorem dM_isBroken_178 : decode cM_isBroken 178 = .ok (.getfield 33, 3) := by decide +kernel
theorem dM_isBroken_181 : decode cM_isBroken 181 = .ok (.iload_n 3, 1) := by decide +kernel
theorem dM_isBroken_182 : decode cM_isBroken 182 = .ok (.iaload, 1) := by decide +kernel
theorem dM_isBroken_183 : decode cM_isBroken 183 = .ok (.if_icmp .lt 24, 3) := by decide +kernel
theorem dM_isBroken_186 : decode cM_isBroken 186 = .ok (.aload_n 0, 1) := by decide +kernel
theorem dM_isBroken_187 : decode cM_isBroken 187 = .ok (.getfield 33, 3) := by decide +kernel
theorem dM_isBroken_190 : decode cM_isBroken 190 = .ok (.iload_n 2, 1) := by decide +kernel
theorem dM_isBroken_191 : decode cM_isBroken 191 = .ok (.iaload, 1) := by decide +kernel
theorem dM_isBroken_192 : decode cM_isBroken 192 = .ok (.bipush 100, 2) := by decide +kernel
theorem dM_isBroken_194 : decode cM_isBroken 194 = .ok (.idiv, 1) := by decide +kernel
theorem dM_isBroken_195 : decode cM_isBroken 195 = .ok (.aload_n 0, 1) := by decide +kernel
theorem dM_isBroken_196 : decode cM_isBroken 196 = .ok (.getfield 33, 3) := by decide +kernel
theorem dM_isBroken_199 : decode cM_isBroken 199 = .ok (.iload_n 3, 1) := by decide +kernel
theorem dM_isBroken_200 : decode cM_isBroken 200 = .ok (.iaload, 1) := by decide +kernel
theorem dM_isBroken_201 : decode cM_isBroken 201 = .ok (.bipush 100, 2) := by decide +kernel
theorem dM_isBroken_203 : decode cM_isBroken 203 = .ok (.idiv, 1) := by decide +kernel
theorem dM_isBroken_204 : decode cM_isBroken 204 = .ok (.if_icmp .eq 7, 3) := by decide +kernel
theorem dM_isBroken_207 : decode cM_isBroken 207 = .ok (.iconst 1, 1) := by decide +kernel
theorem dM_isBroken_208 : decode cM_isBroken 208 = .ok (.goto 4, 3) := by decide +kernel
theorem dM_isBroken_211 : decode cM_isBroken 211 = .ok (.iconst 0, 1) := by decide +kernel
theorem dM_isBroken_212 : decode cM_isBroken 212 = .ok (.ireturn, 1) := by decide +kernel
theorem dM_isBroken_213 : decode cM_isBroken 213 = .ok (.aload_n 0, 1) := by decide +kernel
theorem dM_isBroken_214 : decode cM_isBroken 214 = .ok (.getfield 16, 3) := by decide +kernel
theorem dM_isBroken_217 : decode cM_isBroken 217 = .ok (.iload_n 2, 1) := by decide +kernel
theorem dM_isBroken_218 : decode cM_isBroken 218 = .ok (.iaload, 1) := by decide +kernel
theorem dM_isBroken_219 : decode cM_isBroken 219 = .ok (.iconst 3, 1) := by decide +kernel
theorem dM_isBroken_220 : decode cM_isBroken 220 = .ok (.if_icmp .ne 20, 3) := by decide +kernel
theorem dM_isBroken_223 : decode cM_isBroken 223 = .ok (.aload_n 0, 1) := by decide +kernel
theorem dM_isBroken_224 : decode cM_isBroken 224 = .ok (.aload_n 0, 1) := by decide +kernel
theorem dM_isBroken_225 : decode cM_isBroken 225 = .ok (.getfield 13, 3) := by decide +kernel
theorem dM_isBroken_228 : decode cM_isBroken 228 = .ok (.iload_n 2, 1) := by decide +kernel
theorem dM_isBroken_229 : decode cM_isBroken 229 = .ok (.iaload, 1) := by decide +kernel
theorem dM_isBroken_230 : decode cM_isBroken 230 = .ok (.invokevirtual 99, 3) := by decide +kernel
theorem dM_isBroken_233 : decode cM_isBroken 233 = .ok (.ifCond .ne 7, 3) := by decide +kernel
theorem dM_isBroken_236 : decode cM_isBroken 236 = .ok (.iconst 1, 1) := by decide +kernel
theorem dM_isBroken_237 : decode cM_isBroken 237 = .ok (.goto 4, 3) := by decide +kernel
theorem dM_isBroken_240 : decode cM_isBroken 240 = .ok (.iconst 0, 1) := by decide +kernel
theorem dM_isBroken_241 : decode cM_isBroken 241 = .ok (.ireturn, 1) := by decide +kernel
theorem dM_leadTo_0 : decode cM_leadTo 0 = .ok (.aload_n 0, 1) := by decide +kernel
theorem dM_leadTo_1 : decode cM_leadTo 1 = .ok (.invokevirtual 89, 3) := by decide +kernel
theorem dM_leadTo_4 : decode cM_leadTo 4 = .ok (.iconst 0, 1) := by decide +kernel
theorem dM_leadTo_5 : decode cM_leadTo 5 = .ok (.istore_n 2, 1) := by decide +kernel
theorem dM_leadTo_6 : decode cM_leadTo 6 = .ok (.iconst 1, 1) := by decide +kernel
theorem dM_leadTo_7 : decode cM_leadTo 7 = .ok (.istore_n 3, 1) := by decide +kernel
theorem dM_leadTo_8 : decode cM_leadTo 8 = .ok (.iload_n 3, 1) := by decide +kernel
theorem dM_leadTo_9 : decode cM_leadTo 9 = .ok (.aload_n 0, 1) := by decide +kernel
theorem dM_leadTo_10 : decode cM_leadTo 10 = .ok (.getfield 71, 3) := by decide +kernel
theorem dM_leadTo_13 : decode cM_leadTo 13 = .ok (.if_icmp .gt 26, 3) := by decide +kernel
theorem dM_leadTo_16 : decode cM_leadTo 16 = .ok (.iload_n 2, 1) := by decide +kernel
theorem dM_leadTo_17 : decode cM_leadTo 17 = .ok (.aload_n 0, 1) := by decide +kernel
theorem dM_leadTo_18 : decode cM_leadTo 18 = .ok (.iload_n 3, 1) := by decide +kernel
theorem dM_leadTo_19 : decode cM_leadTo 19 = .ok (.iload_n 1, 1) := by decide +kernel
theorem dM_leadTo_20 : decode cM_leadTo 20 = .ok (.invokevirtual 92, 3) := by decide +kernel
theorem dM_leadTo_23 : decode cM_leadTo 23 = .ok (.ifCond .eq 7, 3) := by decide +kernel
theorem dM_leadTo_26 : decode cM_leadTo 26 = .ok (.iconst 1, 1) := by decide +kernel
theorem dM_leadTo_27 : decode cM_leadTo 27 = .ok (.goto 4, 3) := by decide +kernel
theorem dM_leadTo_30 : decode cM_leadTo 30 = .ok (.iconst 0, 1) := by decide +kernel
theorem dM_leadTo_31 : decode cM_leadTo 31 = .ok (.iadd, 1) := by decide +kernel
theorem dM_leadTo_32 : decode cM_leadTo 32 = .ok (.istore_n 2, 1) := by decide +kernel
theorem dM_leadTo_33 : decode cM_leadTo 33 = .ok (.iinc 3 1, 3) := by decide +kernel
theorem dM_leadTo_36 : decode cM_leadTo 36 = .ok (.goto (-28), 3) := by decide +kernel
theorem dM_leadTo_39 : decode cM_leadTo 39 = .ok (.iload_n 2, 1) := by decide +kernel
theorem dM_leadTo_40 : decode cM_leadTo 40 = .ok (.ireturn, 1) := by decide +kernel
theorem dM_isBrokenAt_0 : decode cM_isBrokenAt 0 = .ok (.aload_n 0, 1) := by decide +kernel
theorem dM_isBrokenAt_1 : decode cM_isBrokenAt 1 = .ok (.iload_n 2, 1) := by decide +kernel
theorem dM_isBrokenAt_2 : decode cM_isBrokenAt 2 = .ok (.invokevirtual 102, 3) := by decide +kernel
theorem dM_isBrokenAt_5 : decode cM_isBrokenAt 5 = .ok (.istore_n 3, 1) := by decide +kernel
theorem dM_isBrokenAt_6 : decode cM_isBrokenAt 6 = .ok (.iload_n 1, 1) := by decide +kernel
theorem dM_isBrokenAt_7 : decode cM_isBrokenAt 7 = .ok (.tableswitch 95 5 7 #[25, 54, 74], 25) := by decide +kernel
theorem dM_isBrokenAt_32 : decode cM_isBrokenAt 32 = .ok (.aload_n 0, 1) := by decide +kernel
theorem dM_isBrokenAt_33 : decode cM_isBrokenAt 33 = .ok (.getfield 16, 3) := by decide +kernel
theorem dM_isBrokenAt_36 : decode cM_isBrokenAt 36 = .ok (.iload_n 2, 1) := by decide +kernel
theorem dM_isBrokenAt_37 : decode cM_isBrokenAt 37 = .ok (.iaload, 1) := by decide +kernel
theorem dM_isBrokenAt_38 : decode cM_isBrokenAt 38 = .ok (.iconst 2, 1) := by decide +kernel
theorem dM_isBrokenAt_39 : decode cM_isBrokenAt 39 = .ok (.if_icmp .eq 20, 3) := by decide +kernel
theorem dM_isBrokenAt_42 : decode cM_isBrokenAt 42 = .ok (.iload_n 3, 1) := by decide +kernel
theorem dM_isBrokenAt_43 : decode cM_isBrokenAt 43 = .ok (.ifCond .ne 16, 3) := by decide +kernel
theorem dM_isBrokenAt_46 : decode cM_isBrokenAt 46 = .ok (.aload_n 0, 1) := by decide +kernel
theorem dM_isBrokenAt_47 : decode cM_isBrokenAt 47 = .ok (.getfield 36, 3) := by decide +kernel
theorem dM_isBrokenAt_50 : decode cM_isBrokenAt 50 = .ok (.iload_n 2, 1) := by decide +kernel
theorem dM_isBrokenAt_51 : decode cM_isBrokenAt 51 = .ok (.baload, 1) := by decide +kernel
theorem dM_isBrokenAt_52 : decode cM_isBrokenAt 52 = .ok (.ifCond .ne 7, 3) := by decide +kernel
theorem dM_isBrokenAt_55 : decode cM_isBrokenAt 55 = .ok (.iconst 1, 1) := by decide +kernel
theorem dM_isBrokenAt_56 : decode cM_isBrokenAt 56 = .ok (.goto 4, 3) := by decide +kernel
theorem dM_isBrokenAt_59 : decode cM_isBrokenAt 59 = .ok (.iconst 0, 1) := by decide +kernel
theorem dM_isBrokenAt_60 : decode cM_isBrokenAt 60 = .ok (.ireturn, 1) := by decide +kernel
theorem dM_isBrokenAt_61 : decode cM_isBrokenAt 61 = .ok (.aload_n 0, 1) := by decide +kernel
theorem dM_isBrokenAt_62 : decode cM_isBrokenAt 62 = .ok (.getfield 16, 3) := by decide +kernel
theorem dM_isBrokenAt_65 : decode cM_isBrokenAt 65 = .ok (.iload_n 2, 1) := by decide +kernel
theorem dM_isBrokenAt_66 : decode cM_isBrokenAt 66 = .ok (.iaload, 1) := by decide +kernel
theorem dM_isBrokenAt_67 : decode cM_isBrokenAt 67 = .ok (.iconst 2, 1) := by decide +kernel
theorem dM_isBrokenAt_68 : decode cM_isBrokenAt 68 = .ok (.if_icmp .ne 11, 3) := by decide +kernel
theorem dM_isBrokenAt_71 : decode cM_isBrokenAt 71 = .ok (.iload_n 3, 1) := by decide +kernel
theorem dM_isBrokenAt_72 : decode cM_isBrokenAt 72 = .ok (.ifCond .ne 7, 3) := by decide +kernel
theorem dM_isBrokenAt_75 : decode cM_isBrokenAt 75 = .ok (.iconst 1, 1) := by decide +kernel
theorem dM_isBrokenAt_76 : decode cM_isBrokenAt 76 = .ok (.goto 4, 3) := by decide +kernel
theorem dM_isBrokenAt_79 : decode cM_isBrokenAt 79 = .ok (.iconst 0, 1) := by decide +kernel
theorem dM_isBrokenAt_80 : decode cM_isBrokenAt 80 = .ok (.ireturn, 1) := by decide +kernel
theorem dM_isBrokenAt_81 : decode cM_isBrokenAt 81 = .ok (.aload_n 0, 1) := by decide +kernel
theorem dM_isBrokenAt_82 : decode cM_isBrokenAt 82 = .ok (.getfield 16, 3) := by decide +kernel
theorem dM_isBrokenAt_85 : decode cM_isBrokenAt 85 = .ok (.iload_n 2, 1) := by decide +kernel
theorem dM_isBrokenAt_86 : decode cM_isBrokenAt 86 = .ok (.iaload, 1) := by decide +kernel
theorem dM_isBrokenAt_87 : decode cM_isBrokenAt 87 = .ok (.iconst 2, 1) := by decide +kernel
theorem dM_isBrokenAt_88 : decode cM_isBrokenAt 88 = .ok (.if_icmp .ne 12, 3) := by decide +kernel
theorem dM_isBrokenAt_91 : decode cM_isBrokenAt 91 = .ok (.iload_n 3, 1) := by decide +kernel
theorem dM_isBrokenAt_92 : decode cM_isBrokenAt 92 = .ok (.iconst 1, 1) := by decide +kernel
theorem dM_isBrokenAt_93 : decode cM_isBrokenAt 93 = .ok (.if_icmp .le 7, 3) := by decide +kernel
theorem dM_isBrokenAt_96 : decode cM_isBrokenAt 96 = .ok (.iconst 1, 1) := by decide +kernel
theorem dM_isBrokenAt_97 : decode cM_isBrokenAt 97 = .ok (.goto 4, 3) := by decide +kernel
theorem dM_isBrokenAt_100 : decode cM_isBrokenAt 100 = .ok (.iconst 0, 1) := by decide +kernel
theorem dM_isBrokenAt_101 : decode cM_isBrokenAt 101 = .ok (.ireturn, 1) := by decide +kernel
theorem dM_isBrokenAt_102 : decode cM_isBrokenAt 102 = .ok (.aload_n 0, 1) := by decide +kernel
theorem dM_isBrokenAt_103 : decode cM_isBrokenAt 103 = .ok (.getfield 16, 3) := by decide +kernel
theorem dM_isBrokenAt_106 : decode cM_isBrokenAt 106 = .ok (.iload_n 2, 1) := by decide +kernel
theorem dM_isBrokenAt_107 : decode cM_isBrokenAt 107 = .ok (.iaload, 1) := by decide +kernel
theorem dM_isBrokenAt_108 : decode cM_isBrokenAt 108 = .ok (.iconst 1, 1) := by decide +kernel
theorem dM_isBrokenAt_109 : decode cM_isBrokenAt 109 = .ok (.if_icmp .ne 16, 3) := by decide +kernel
theorem dM_isBrokenAt_112 : decode cM_isBrokenAt 112 = .ok (.aload_n 0, 1) := by decide +kernel
theorem dM_isBrokenAt_113 : decode cM_isBrokenAt 113 = .ok (.getfield 42, 3) := by decide +kernel
theorem dM_isBrokenAt_116 : decode cM_isBrokenAt 116 = .ok (.iload_n 2, 1) := by decide +kernel
theorem dM_isBrokenAt_117 : decode cM_isBrokenAt 117 = .ok (.iaload, 1) := by decide +kernel
theorem dM_isBrokenAt_118 : decode cM_isBrokenAt 118 = .ok (.ifCond .ne 7, 3) := by decide +kernel
theorem dM_isBrokenAt_121 : decode cM_isBrokenAt 121 = .ok (.iconst 1, 1) := by decide +kernel
theorem dM_isBrokenAt_122 : decode cM_isBrokenAt 122 = .ok (.goto 4, 3) := by decide +kernel
theorem dM_isBrokenAt_125 : decode cM_isBrokenAt 125 = .ok (.iconst 0, 1) := by decide +kernel
theorem dM_isBrokenAt_126 : decode cM_isBrokenAt 126 = .ok (.ireturn, 1) := by decide +kernel
theorem dM_isReading_0 : decode cM_isReading 0 = .ok (.aload_n 0, 1) := by decide +kernel
theorem dM_isReading_1 : decode cM_isReading 1 = .ok (.getfield 19, 3) := by decide +kernel
theorem dM_isReading_4 : decode cM_isReading 4 = .ok (.iload_n 1, 1) := by decide +kernel
theorem dM_isReading_5 : decode cM_isReading 5 = .ok (.baload, 1) := by decide +kernel
theorem dM_isReading_6 : decode cM_isReading 6 = .ok (.ifCond .ne 20, 3) := by decide +kernel
theorem dM_isReading_9 : decode cM_isReading 9 = .ok (.aload_n 0, 1) := by decide +kernel
theorem dM_isReading_10 : decode cM_isReading 10 = .ok (.aload_n 0, 1) := by decide +kernel
theorem dM_isReading_11 : decode cM_isReading 11 = .ok (.getfield 13, 3) := by decide +kernel
theorem dM_isReading_14 : decode cM_isReading 14 = .ok (.iload_n 1, 1) := by decide +kernel
theorem dM_isReading_15 : decode cM_isReading 15 = .ok (.iaload, 1) := by decide +kernel
theorem dM_isReading_16 : decode cM_isReading 16 = .ok (.invokevirtual 86, 3) := by decide +kernel
theorem dM_isReading_19 : decode cM_isReading 19 = .ok (.ifCond .eq 7, 3) := by decide +kernel
theorem dM_isReading_22 : decode cM_isReading 22 = .ok (.iconst 1, 1) := by decide +kernel
theorem dM_isReading_23 : decode cM_isReading 23 = .ok (.goto 4, 3) := by decide +kernel
theorem dM_isReading_26 : decode cM_isReading 26 = .ok (.iconst 0, 1) := by decide +kernel
theorem dM_isReading_27 : decode cM_isReading 27 = .ok (.ireturn, 1) := by decide +kernel
theorem dM_check_0 : decode cM_check 0 = .ok (.aload_n 0, 1) := by decide +kernel
theorem dM_check_1 : decode cM_check 1 = .ok (.iconst 0, 1) := by decide +kernel
theorem dM_check_2 : decode cM_check 2 = .ok (.putfield 54, 3) := by decide +kernel
theorem dM_check_5 : decode cM_check 5 = .ok (.aload_n 0, 1) := by decide +kernel
theorem dM_check_6 : decode cM_check 6 = .ok (.invokevirtual 89, 3) := by decide +kernel
theorem dM_check_9 : decode cM_check 9 = .ok (.iconst 1, 1) := by decide +kernel
theorem dM_check_10 : decode cM_check 10 = .ok (.istore_n 1, 1) := by decide +kernel
theorem dM_check_11 : decode cM_check 11 = .ok (.iload_n 1, 1) := by decide +kernel
theorem dM_check_12 : decode cM_check 12 = .ok (.bipush 10, 2) := by decide +kernel
theorem dM_check_14 : decode cM_check 14 = .ok (.if_icmp .ge 104, 3) := by decide +kernel
theorem dM_check_17 : decode cM_check 17 = .ok (.iconst 1, 1) := by decide +kernel
theorem dM_check_18 : decode cM_check 18 = .ok (.istore_n 2, 1) := by decide +kernel
theorem dM_check_19 : decode cM_check 19 = .ok (.iload_n 2, 1) := by decide +kernel
theorem dM_check_20 : decode cM_check 20 = .ok (.aload_n 0, 1) := by decide +kernel
theorem dM_check_21 : decode cM_check 21 = .ok (.getfield 71, 3) := by decide +kernel
theorem dM_check_24 : decode cM_check 24 = .ok (.if_icmp .gt 88, 3) := by decide +kernel
theorem dM_check_27 : decode cM_check 27 = .ok (.iload_n 1, 1) := by decide +kernel
theorem dM_check_28 : decode cM_check 28 = .ok (.iconst 4, 1) := by decide +kernel
theorem dM_check_29 : decode cM_check 29 = .ok (.if_icmp .le 34, 3) := by decide +kernel
theorem dM_check_32 : decode cM_check 32 = .ok (.iload_n 1, 1) := by decide +kernel
theorem dM_check_33 : decode cM_check 33 = .ok (.bipush 9, 2) := by decide +kernel
theorem dM_check_35 : decode cM_check 35 = .ok (.if_icmp .ge 28, 3) := by decide +kernel
theorem dM_check_38 : decode cM_check 38 = .ok (.aload_n 0, 1) := by decide +kernel
theorem dM_check_39 : decode cM_check 39 = .ok (.iload_n 2, 1) := by decide +kernel
theorem dM_check_40 : decode cM_check 40 = .ok (.invokevirtual 105, 3) := by decide +kernel
theorem dM_check_43 : decode cM_check 43 = .ok (.ifCond .eq 63, 3) := by decide +kernel
theorem dM_check_46 : decode cM_check 46 = .ok (.aload_n 0, 1) := by decide +kernel
theorem dM_check_47 : decode cM_check 47 = .ok (.iload_n 1, 1) := by decide +kernel
theorem dM_check_48 : decode cM_check 48 = .ok (.iload_n 2, 1) := by decide +kernel
theorem dM_check_49 : decode cM_check 49 = .ok (.invokevirtual 108, 3) := by decide +kernel
theorem dM_check_52 : decode cM_check 52 = .ok (.ifCond .eq 54, 3) := by decide +kernel
theorem dM_check_55 : decode cM_check 55 = .ok (.sipush 1000, 3) := by decide +kernel
theorem dM_check_58 : decode cM_check 58 = .ok (.iload_n 1, 1) := by decide +kernel
theorem dM_check_59 : decode cM_check 59 = .ok (.imul, 1) := by decide +kernel
theorem dM_check_60 : decode cM_check 60 = .ok (.iload_n 2, 1) := by decide +kernel
theorem dM_check_61 : decode cM_check 61 = .ok (.iadd, 1) := by decide +kernel
theorem dM_check_62 : decode cM_check 62 = .ok (.ireturn, 1) := by decide +kernel
theorem dM_check_63 : decode cM_check 63 = .ok (.iconst 1, 1) := by decide +kernel
theorem dM_check_64 : decode cM_check 64 = .ok (.istore_n 3, 1) := by decide +kernel
theorem dM_check_65 : decode cM_check 65 = .ok (.iload_n 3, 1) := by decide +kernel
theorem dM_check_66 : decode cM_check 66 = .ok (.aload_n 0, 1) := by decide +kernel
theorem dM_check_67 : decode cM_check 67 = .ok (.getfield 71, 3) := by decide +kernel
theorem dM_check_70 : decode cM_check 70 = .ok (.if_icmp .gt 36, 3) := by decide +kernel
theorem dM_check_73 : decode cM_check 73 = .ok (.aload_n 0, 1) := by decide +kernel
theorem dM_check_74 : decode cM_check 74 = .ok (.iload_n 2, 1) := by decide +kernel
theorem dM_check_75 : decode cM_check 75 = .ok (.iload_n 3, 1) := by decide +kernel
theorem dM_check_76 : decode cM_check 76 = .ok (.invokevirtual 92, 3) := by decide +kernel
theorem dM_check_79 : decode cM_check 79 = .ok (.ifCond .eq 21, 3) := by decide +kernel
theorem dM_check_82 : decode cM_check 82 = .ok (.aload_n 0, 1) := by decide +kernel
theorem dM_check_83 : decode cM_check 83 = .ok (.iload_n 1, 1) := by decide +kernel
theorem dM_check_84 : decode cM_check 84 = .ok (.iload_n 2, 1) := by decide +kernel
theorem dM_check_85 : decode cM_check 85 = .ok (.iload_n 3, 1) := by decide +kernel
theorem dM_check_86 : decode cM_check 86 = .ok (.invokevirtual 111, 3) := by decide +kernel
theorem dM_check_89 : decode cM_check 89 = .ok (.ifCond .eq 11, 3) := by decide +kernel
theorem dM_check_92 : decode cM_check 92 = .ok (.sipush 1000, 3) := by decide +kernel
theorem dM_check_95 : decode cM_check 95 = .ok (.iload_n 1, 1) := by decide +kernel
theorem dM_check_96 : decode cM_check 96 = .ok (.imul, 1) := by decide +kernel
theorem dM_check_97 : decode cM_check 97 = .ok (.iload_n 3, 1) := by decide +kernel
theorem dM_check_98 : decode cM_check 98 = .ok (.iadd, 1) := by decide +kernel
theorem dM_check_99 : decode cM_check 99 = .ok (.ireturn, 1) := by decide +kernel
theorem dM_check_100 : decode cM_check 100 = .ok (.iinc 3 1, 3) := by decide +kernel
theorem dM_check_103 : decode cM_check 103 = .ok (.goto (-38), 3) := by decide +kernel
theorem dM_check_106 : decode cM_check 106 = .ok (.iinc 2 1, 3) := by decide +kernel
theorem dM_check_109 : decode cM_check 109 = .ok (.goto (-90), 3) := by decide +kernel
theorem dM_check_112 : decode cM_check 112 = .ok (.iinc 1 1, 3) := by decide +kernel
theorem dM_check_115 : decode cM_check 115 = .ok (.goto (-104), 3) := by decide +kernel
theorem dM_check_118 : decode cM_check 118 = .ok (.iconst 0, 1) := by decide +kernel
theorem dM_check_119 : decode cM_check 119 = .ok (.ireturn, 1) := by decide +kernel
theorem dM_manager_0 : decode cM_manager 0 = .ok (.aload_n 0, 1) := by decide +kernel
theorem dM_manager_1 : decode cM_manager 1 = .ok (.iconst 0, 1) := by decide +kernel
theorem dM_manager_2 : decode cM_manager 2 = .ok (.putfield 54, 3) := by decide +kernel
theorem dM_manager_5 : decode cM_manager 5 = .ok (.iload_n 2, 1) := by decide +kernel
theorem dM_manager_6 : decode cM_manager 6 = .ok (.i2l, 1) := by decide +kernel
theorem dM_manager_7 : decode cM_manager 7 = .ok (.lconst 1, 1) := by decide +kernel
theorem dM_manager_8 : decode cM_manager 8 = .ok (.aload_n 0, 1) := by decide +kernel
theorem dM_manager_9 : decode cM_manager 9 = .ok (.getfield 58, 3) := by decide +kernel
theorem dM_manager_12 : decode cM_manager 12 = .ok (.i2l, 1) := by decide +kernel
theorem dM_manager_13 : decode cM_manager 13 = .ok (.invokestatic 61, 3) := by decide +kernel
theorem dM_manager_16 : decode cM_manager 16 = .ok (.ifCond .ne 5, 3) := by decide +kernel
theorem dM_manager_19 : decode cM_manager 19 = .ok (.iconst (-1), 1) := by decide +kernel
theorem dM_manager_20 : decode cM_manager 20 = .ok (.ireturn, 1) := by decide +kernel
theorem dM_manager_21 : decode cM_manager 21 = .ok (.iload_n 1, 1) := by decide +kernel
theorem dM_manager_22 : decode cM_manager 22 = .ok (.i2l, 1) := by decide +kernel
theorem dM_manager_23 : decode cM_manager 23 = .ok (.lconst 0, 1) := by decide +kernel
theorem dM_manager_24 : decode cM_manager 24 = .ok (.ldc2_w 115, 3) := by decide +kernel
theorem dM_manager_27 : decode cM_manager 27 = .ok (.invokestatic 61, 3) := by decide +kernel
theorem dM_manager_30 : decode cM_manager 30 = .ok (.ifCond .ne 6, 3) := by decide +kernel
theorem dM_manager_33 : decode cM_manager 33 = .ok (.bipush (-2), 2) := by decide +kernel
theorem dM_manager_35 : decode cM_manager 35 = .ok (.ireturn, 1) := by decide +kernel
theorem dM_manager_36 : decode cM_manager 36 = .ok (.aload_n 0, 1) := by decide +kernel
theorem dM_manager_37 : decode cM_manager 37 = .ok (.getfield 45, 3) := by decide +kernel
theorem dM_manager_40 : decode cM_manager 40 = .ok (.iload_n 1, 1) := by decide +kernel
theorem dM_manager_41 : decode cM_manager 41 = .ok (.iaload, 1) := by decide +kernel
theorem dM_manager_42 : decode cM_manager 42 = .ok (.ifCond .eq 15, 3) := by decide +kernel
theorem dM_manager_45 : decode cM_manager 45 = .ok (.aload_n 0, 1) := by decide +kernel
theorem dM_manager_46 : decode cM_manager 46 = .ok (.getfield 45, 3) := by decide +kernel
theorem dM_manager_49 : decode cM_manager 49 = .ok (.iload_n 1, 1) := by decide +kernel
theorem dM_manager_50 : decode cM_manager 50 = .ok (.iaload, 1) := by decide +kernel
theorem dM_manager_51 : decode cM_manager 51 = .ok (.iload_n 2, 1) := by decide +kernel
theorem dM_manager_52 : decode cM_manager 52 = .ok (.if_icmp .eq 5, 3) := by decide +kernel
theorem dM_manager_55 : decode cM_manager 55 = .ok (.iconst 0, 1) := by decide +kernel
theorem dM_manager_56 : decode cM_manager 56 = .ok (.ireturn, 1) := by decide +kernel
theorem dM_manager_57 : decode cM_manager 57 = .ok (.aload_n 0, 1) := by decide +kernel
theorem dM_manager_58 : decode cM_manager 58 = .ok (.getfield 45, 3) := by decide +kernel
theorem dM_manager_61 : decode cM_manager 61 = .ok (.iload_n 1, 1) := by decide +kernel
theorem dM_manager_62 : decode cM_manager 62 = .ok (.iload_n 2, 1) := by decide +kernel
theorem dM_manager_63 : decode cM_manager 63 = .ok (.iastore, 1) := by decide +kernel
theorem dM_manager_64 : decode cM_manager 64 = .ok (.iconst 1, 1) := by decide +kernel
theorem dM_manager_65 : decode cM_manager 65 = .ok (.ireturn, 1) := by decide +kernel
theorem dM_fallback_0 : decode cM_fallback 0 = .ok (.aload_n 0, 1) := by decide +kernel
theorem dM_fallback_1 : decode cM_fallback 1 = .ok (.iconst 0, 1) := by decide +kernel
theorem dM_fallback_2 : decode cM_fallback 2 = .ok (.putfield 54, 3) := by decide +kernel
theorem dM_fallback_5 : decode cM_fallback 5 = .ok (.aload_n 0, 1) := by decide +kernel
theorem dM_fallback_6 : decode cM_fallback 6 = .ok (.iload_n 1, 1) := by decide +kernel
theorem dM_fallback_7 : decode cM_fallback 7 = .ok (.invokevirtual 74, 3) := by decide +kernel
theorem dM_fallback_10 : decode cM_fallback 10 = .ok (.ifCond .ne 5, 3) := by decide +kernel
theorem dM_fallback_13 : decode cM_fallback 13 = .ok (.iconst (-1), 1) := by decide +kernel
theorem dM_fallback_14 : decode cM_fallback 14 = .ok (.ireturn, 1) := by decide +kernel
theorem dM_fallback_15 : decode cM_fallback 15 = .ok (.aload_n 0, 1) := by decide +kernel
theorem dM_fallback_16 : decode cM_fallback 16 = .ok (.getfield 19, 3) := by decide +kernel
theorem dM_fallback_19 : decode cM_fallback 19 = .ok (.iload_n 1, 1) := by decide +kernel
theorem dM_fallback_20 : decode cM_fallback 20 = .ok (.baload, 1) := by decide +kernel
theorem dM_fallback_21 : decode cM_fallback 21 = .ok (.ifCond .eq 6, 3) := by decide +kernel
theorem dM_fallback_24 : decode cM_fallback 24 = .ok (.bipush (-3), 2) := by decide +kernel
theorem dM_fallback_26 : decode cM_fallback 26 = .ok (.ireturn, 1) := by decide +kernel
theorem dM_fallback_27 : decode cM_fallback 27 = .ok (.aload_n 0, 1) := by decide +kernel
theorem dM_fallback_28 : decode cM_fallback 28 = .ok (.getfield 39, 3) := by decide +kernel
theorem dM_fallback_31 : decode cM_fallback 31 = .ok (.iload_n 1, 1) := by decide +kernel
theorem dM_fallback_32 : decode cM_fallback 32 = .ok (.iaload, 1) := by decide +kernel
theorem dM_fallback_33 : decode cM_fallback 33 = .ok (.istore_n 3, 1) := by decide +kernel
theorem dM_fallback_34 : decode cM_fallback 34 = .ok (.aload_n 0, 1) := by decide +kernel
theorem dM_fallback_35 : decode cM_fallback 35 = .ok (.getfield 39, 3) := by decide +kernel
theorem dM_fallback_38 : decode cM_fallback 38 = .ok (.iload_n 1, 1) := by decide +kernel
theorem dM_fallback_39 : decode cM_fallback 39 = .ok (.iload_n 2, 1) := by decide +kernel
theorem dM_fallback_40 : decode cM_fallback 40 = .ok (.iastore, 1) := by decide +kernel
theorem dM_fallback_41 : decode cM_fallback 41 = .ok (.aload_n 0, 1) := by decide +kernel
theorem dM_fallback_42 : decode cM_fallback 42 = .ok (.getfield 36, 3) := by decide +kernel
theorem dM_fallback_45 : decode cM_fallback 45 = .ok (.iload_n 1, 1) := by decide +kernel
theorem dM_fallback_46 : decode cM_fallback 46 = .ok (.iconst 1, 1) := by decide +kernel
theorem dM_fallback_47 : decode cM_fallback 47 = .ok (.bastore, 1) := by decide +kernel
theorem dM_fallback_48 : decode cM_fallback 48 = .ok (.iload_n 3, 1) := by decide +kernel
theorem dM_fallback_49 : decode cM_fallback 49 = .ok (.ireturn, 1) := by decide +kernel
theorem dM_queue_0 : decode cM_queue 0 = .ok (.aload_n 0, 1) := by decide +kernel
theorem dM_queue_1 : decode cM_queue 1 = .ok (.iconst 0, 1) := by decide +kernel
theorem dM_queue_2 : decode cM_queue 2 = .ok (.putfield 54, 3) := by decide +kernel
theorem dM_queue_5 : decode cM_queue 5 = .ok (.aload_n 0, 1) := by decide +kernel
theorem dM_queue_6 : decode cM_queue 6 = .ok (.iload_n 1, 1) := by decide +kernel
theorem dM_queue_7 : decode cM_queue 7 = .ok (.invokevirtual 74, 3) := by decide +kernel
theorem dM_queue_10 : decode cM_queue 10 = .ok (.ifCond .ne 5, 3) := by decide +kernel
theorem dM_queue_13 : decode cM_queue 13 = .ok (.iconst (-1), 1) := by decide +kernel
theorem dM_queue_14 : decode cM_queue 14 = .ok (.ireturn, 1) := by decide +kernel
theorem dM_queue_15 : decode cM_queue 15 = .ok (.iload_n 2, 1) := by decide +kernel
theorem dM_queue_16 : decode cM_queue 16 = .ok (.i2l, 1) := by decide +kernel
theorem dM_queue_17 : decode cM_queue 17 = .ok (.lconst 1, 1) := by decide +kernel
theorem dM_queue_18 : decode cM_queue 18 = .ok (.ldc2_w 117, 3) := by decide +kernel
theorem dM_queue_21 : decode cM_queue 21 = .ok (.invokestatic 61, 3) := by decide +kernel
theorem dM_queue_24 : decode cM_queue 24 = .ok (.ifCond .ne 6, 3) := by decide +kernel
theorem dM_queue_27 : decode cM_queue 27 = .ok (.bipush (-2), 2) := by decide +kernel
theorem dM_queue_29 : decode cM_queue 29 = .ok (.ireturn, 1) := by decide +kernel
theorem dM_queue_30 : decode cM_queue 30 = .ok (.aload_n 0, 1) := by decide +kernel
theorem dM_queue_31 : decode cM_queue 31 = .ok (.getfield 16, 3) := by decide +kernel
theorem dM_queue_34 : decode cM_queue 34 = .ok (.iload_n 1, 1) := by decide +kernel
theorem dM_queue_35 : decode cM_queue 35 = .ok (.iaload, 1) := by decide +kernel
theorem dM_queue_36 : decode cM_queue 36 = .ok (.iconst 1, 1) := by decide +kernel
theorem dM_queue_37 : decode cM_queue 37 = .ok (.if_icmp .eq 6, 3) := by decide +kernel
theorem dM_queue_40 : decode cM_queue 40 = .ok (.bipush (-3), 2) := by decide +kernel
theorem dM_queue_42 : decode cM_queue 42 = .ok (.ireturn, 1) := by decide +kernel
theorem dM_queue_43 : decode cM_queue 43 = .ok (.aload_n 0, 1) := by decide +kernel
theorem dM_queue_44 : decode cM_queue 44 = .ok (.getfield 42, 3) := by decide +kernel
theorem dM_queue_47 : decode cM_queue 47 = .ok (.iload_n 1, 1) := by decide +kernel
theorem dM_queue_48 : decode cM_queue 48 = .ok (.iload_n 2, 1) := by decide +kernel
theorem dM_queue_49 : decode cM_queue 49 = .ok (.iastore, 1) := by decide +kernel
theorem dM_queue_50 : decode cM_queue 50 = .ok (.iconst 1, 1) := by decide +kernel
theorem dM_queue_51 : decode cM_queue 51 = .ok (.ireturn, 1) := by decide +kernel
theorem dM_version_0 : decode cM_version 0 = .ok (.aload_n 0, 1) := by decide +kernel
theorem dM_version_1 : decode cM_version 1 = .ok (.iconst 0, 1) := by decide +kernel
theorem dM_version_2 : decode cM_version 2 = .ok (.putfield 54, 3) := by decide +kernel
theorem dM_version_5 : decode cM_version 5 = .ok (.aload_n 0, 1) := by decide +kernel
theorem dM_version_6 : decode cM_version 6 = .ok (.iload_n 1, 1) := by decide +kernel
theorem dM_version_7 : decode cM_version 7 = .ok (.invokevirtual 74, 3) := by decide +kernel
theorem dM_version_10 : decode cM_version 10 = .ok (.ifCond .ne 5, 3) := by decide +kernel
theorem dM_version_13 : decode cM_version 13 = .ok (.iconst (-1), 1) := by decide +kernel
theorem dM_version_14 : decode cM_version 14 = .ok (.ireturn, 1) := by decide +kernel
theorem dM_version_15 : decode cM_version 15 = .ok (.iload_n 2, 1) := by decide +kernel
theorem dM_version_16 : decode cM_version 16 = .ok (.i2l, 1) := by decide +kernel
theorem dM_version_17 : decode cM_version 17 = .ok (.lconst 0, 1) := by decide +kernel
theorem dM_version_18 : decode cM_version 18 = .ok (.ldc2_w 119, 3) := by decide +kernel
theorem dM_version_21 : decode cM_version 21 = .ok (.invokestatic 61, 3) := by decide +kernel
theorem dM_version_24 : decode cM_version 24 = .ok (.ifCond .ne 6, 3) := by decide +kernel
theorem dM_version_27 : decode cM_version 27 = .ok (.bipush (-2), 2) := by decide +kernel
theorem dM_version_29 : decode cM_version 29 = .ok (.ireturn, 1) := by decide +kernel
theorem dM_version_30 : decode cM_version 30 = .ok (.aload_n 0, 1) := by decide +kernel
theorem dM_version_31 : decode cM_version 31 = .ok (.getfield 33, 3) := by decide +kernel
theorem dM_version_34 : decode cM_version 34 = .ok (.iload_n 1, 1) := by decide +kernel
theorem dM_version_35 : decode cM_version 35 = .ok (.iload_n 2, 1) := by decide +kernel
theorem dM_version_36 : decode cM_version 36 = .ok (.iastore, 1) := by decide +kernel
theorem dM_version_37 : decode cM_version 37 = .ok (.iconst 1, 1) := by decide +kernel
theorem dM_version_38 : decode cM_version 38 = .ok (.ireturn, 1) := by decide +kernel
theorem dM_open_0 : decode cM_open 0 = .ok (.aload_n 0, 1) := by decide +kernel
theorem dM_open_1 : decode cM_open 1 = .ok (.iconst 0, 1) := by decide +kernel
theorem dM_open_2 : decode cM_open 2 = .ok (.putfield 54, 3) := by decide +kernel
theorem dM_open_5 : decode cM_open 5 = .ok (.iconst 0, 1) := by decide +kernel
theorem dM_open_6 : decode cM_open 6 = .ok (.istore_n 2, 1) := by decide +kernel
theorem dM_open_7 : decode cM_open 7 = .ok (.iconst 1, 1) := by decide +kernel
theorem dM_open_8 : decode cM_open 8 = .ok (.istore_n 3, 1) := by decide +kernel
theorem dM_open_9 : decode cM_open 9 = .ok (.iload_n 3, 1) := by decide +kernel
theorem dM_open_10 : decode cM_open 10 = .ok (.aload_n 0, 1) := by decide +kernel
theorem dM_open_11 : decode cM_open 11 = .ok (.getfield 71, 3) := by decide +kernel
theorem dM_open_14 : decode cM_open 14 = .ok (.if_icmp .gt 35, 3) := by decide +kernel
theorem dM_open_17 : decode cM_open 17 = .ok (.aload_n 0, 1) := by decide +kernel
theorem dM_open_18 : decode cM_open 18 = .ok (.iload_n 3, 1) := by decide +kernel
theorem dM_open_19 : decode cM_open 19 = .ok (.invokevirtual 105, 3) := by decide +kernel
theorem dM_open_22 : decode cM_open 22 = .ok (.ifCond .eq 21, 3) := by decide +kernel
theorem dM_open_25 : decode cM_open 25 = .ok (.aload_n 0, 1) := by decide +kernel
theorem dM_open_26 : decode cM_open 26 = .ok (.iload_n 3, 1) := by decide +kernel
theorem dM_open_27 : decode cM_open 27 = .ok (.invokevirtual 102, 3) := by decide +kernel
theorem dM_open_30 : decode cM_open 30 = .ok (.ifCond .ne 13, 3) := by decide +kernel
theorem dM_open_33 : decode cM_open 33 = .ok (.iload_n 2, 1) := by decide +kernel
theorem dM_open_34 : decode cM_open 34 = .ok (.iload_n 1, 1) := by decide +kernel
theorem dM_open_35 : decode cM_open 35 = .ok (.if_icmp .ne 5, 3) := by decide +kernel
theorem dM_open_38 : decode cM_open 38 = .ok (.iload_n 3, 1) := by decide +kernel
theorem dM_open_39 : decode cM_open 39 = .ok (.ireturn, 1) := by decide +kernel
theorem dM_open_40 : decode cM_open 40 = .ok (.iinc 2 1, 3) := by decide +kernel
theorem dM_open_43 : decode cM_open 43 = .ok (.iinc 3 1, 3) := by decide +kernel
theorem dM_open_46 : decode cM_open 46 = .ok (.goto (-37), 3) := by decide +kernel
theorem dM_open_49 : decode cM_open 49 = .ok (.iconst 0, 1) := by decide +kernel
theorem dM_open_50 : decode cM_open 50 = .ok (.ireturn, 1) := by decide +kernel
