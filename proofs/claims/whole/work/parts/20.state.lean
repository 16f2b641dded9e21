/-! THE CELLS of X and M; the fields of M -/
def TM : u_T := fun k => match k with
  | 0 => ("PortRulesModel", "code", "I", false)
  | 1 => ("PortRulesModel", "parts", "I", false)
  | 2 => ("PortRulesModel", "in", "[I", true)
  | 3 => ("PortRulesModel", "ports", "I", false)
  | 4 => ("PortRulesModel", "partOf", "[I", true)
  | 5 => ("PortRulesModel", "kindOf", "[I", true)
  | 6 => ("PortRulesModel", "provides", "[Z", true)
  | 7 => ("PortRulesModel", "unit", "[I", true)
  | 8 => ("PortRulesModel", "up", "[J", true)
  | 9 => ("PortRulesModel", "down", "[J", true)
  | 10 => ("PortRulesModel", "version", "[I", true)
  | 11 => ("PortRulesModel", "hasFallback", "[Z", true)
  | 12 => ("PortRulesModel", "fallback", "[I", true)
  | 13 => ("PortRulesModel", "queue", "[I", true)
  | 14 => ("PortRulesModel", "manager", "[I", true)
  | 15 => ("PortRulesModel", "leads", "[Z", true)
  | 16 => ("PortRulesModel", "reaches", "[Z", true)
  | _ => ("PortRulesModel", "known", "Z", false)
def tyM : Nat → FieldType := fun k => match k with
  | 0 => .int
  | 1 => .int
  | 2 => .array .int
  | 3 => .int
  | 4 => .array .int
  | 5 => .array .int
  | 6 => .array .boolean
  | 7 => .array .int
  | 8 => .array .long
  | 9 => .array .long
  | 10 => .array .int
  | 11 => .array .boolean
  | 12 => .array .int
  | 13 => .array .int
  | 14 => .array .int
  | 15 => .array .boolean
  | 16 => .array .boolean
  | _ => .boolean
theorem nmM : ∀ a, a < 18 → ∀ b, b < 18 → a ≠ b → (TM a).2.1 ≠ (TM b).2.1 := by decide +kernel
theorem tyM_ok : ∀ k, k < 18 → parseFieldDescriptor (TM k).2.2.1 = some (tyM k) := by decide +kernel
abbrev vwC2 : List vw_C := [(RX0, TX0, 19), (RX1, TM, 18)]
abbrev tT (cA : Nat → ClassId) : List (ClassId × FieldType) := [(cA 0, .int), (cA 1, .boolean), (cA 2, .long)]
abbrev xO (a : Nat → Nat) (V : XV) : List Value := [.int (nI (xnp V)), .ref (a 1), .ref (a 2), .ref (a 3), .int (nI (xnq V)), .ref (a 5), .ref (a 6), .ref (a 7), .ref (a 8), .ref (a 9), .ref (a 10), .ref (a 11), .ref (a 12), .ref (a 13), .ref (a 14), .ref (a 15), .ref (a 16), .long (xap V), .long (xar V)]
abbrev xW (cA : Nat → ClassId) (a : Nat → Nat) (V : XV) : va_W := [(a 0, .inr (0, xO a V)), (a 1, .inl (cA 0, 31, .inl (xf V 1))), (a 2, .inl (cA 1, 31, .inl (xf V 2))), (a 3, .inl (cA 0, 10, .inl (xf V 3))), (a 5, .inl (cA 0, 61, .inl (xf V 5))), (a 6, .inl (cA 0, 61, .inl (xf V 6))), (a 7, .inl (cA 1, 61, .inl (xf V 7))), (a 8, .inl (cA 0, 61, .inl (xf V 8))), (a 9, .inl (cA 2, 61, .inr (.inl (xg V 9)))), (a 10, .inl (cA 2, 61, .inr (.inl (xg V 10)))), (a 11, .inl (cA 0, 61, .inl (xf V 11))), (a 12, .inl (cA 1, 61, .inl (xf V 12))), (a 13, .inl (cA 0, 61, .inl (xf V 13))), (a 14, .inl (cA 0, 61, .inl (xf V 14))), (a 15, .inl (cA 2, 61, .inr (.inl (xg V 15)))), (a 16, .inl (cA 2, 61, .inr (.inl (xg V 16))))]
abbrev mO (a : Nat → Nat) (V : MV) : List Value := [.int (mco V), .int (nI (mnp V)), .ref (a 2), .int (nI (mnq V)), .ref (a 4), .ref (a 5), .ref (a 6), .ref (a 7), .ref (a 8), .ref (a 9), .ref (a 10), .ref (a 11), .ref (a 12), .ref (a 13), .ref (a 14), .ref (a 15), .ref (a 16), .int (mkn V)]
abbrev mW (cA : Nat → ClassId) (a : Nat → Nat) (V : MV) : va_W := [(a 0, .inr (1, mO a V)), (a 2, .inl (cA 0, 31, .inl (mf V 2))), (a 4, .inl (cA 0, 61, .inl (mf V 4))), (a 5, .inl (cA 0, 61, .inl (mf V 5))), (a 6, .inl (cA 1, 61, .inl (mf V 6))), (a 7, .inl (cA 0, 61, .inl (mf V 7))), (a 8, .inl (cA 2, 61, .inr (.inl (mg V 8)))), (a 9, .inl (cA 2, 61, .inr (.inl (mg V 9)))), (a 10, .inl (cA 0, 61, .inl (mf V 10))), (a 11, .inl (cA 1, 61, .inl (mf V 11))), (a 12, .inl (cA 0, 61, .inl (mf V 12))), (a 13, .inl (cA 0, 61, .inl (mf V 13))), (a 14, .inl (cA 0, 10, .inl (mf V 14))), (a 15, .inl (cA 1, 3721, .inl (mf V 15))), (a 16, .inl (cA 1, 3721, .inl (mf V 16)))]
