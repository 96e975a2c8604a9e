/-! ===== BEGIN printed: names, fields, word lists, decode rows ===== -/
def RX0 : String := "HayBarn$1"
def TX0 : u_T := fun k => match k with
  | _ => ("", "", "", false)
def tyX0 : Nat → FieldType := fun k => match k with
  | _ => .int
abbrev wsX00 : List Cond := u_ws RX0 TX0 0
theorem nmX0 : ∀ a, a < 0 → ∀ b, b < 0 → a ≠ b → (TX0 a).2.1 ≠ (TX0 b).2.1 := by decide +kernel
theorem tyX0_ok : ∀ k, k < 0 → parseFieldDescriptor (TX0 k).2.2.1 = some (tyX0 k) := by decide +kernel
def RX1 : String := "HayBarn$Bales"
def TX1 : u_T := fun k => match k with
  | 0 => ("HayBarn$Bales", "lying", "[I", true)
  | 1 => ("HayBarn$Bales", "places", "[I", true)
  | 2 => ("HayBarn$Bales", "sizes", "[I", true)
  | 3 => ("HayBarn$Bales", "ages", "[I", true)
  | 4 => ("HayBarn$Bales", "ropeCounts", "[I", true)
  | _ => ("HayBarn$Bales", "leads", "[I", true)
def tyX1 : Nat → FieldType := fun k => match k with
  | 0 => .array .int
  | 1 => .array .int
  | 2 => .array .int
  | 3 => .array .int
  | 4 => .array .int
  | _ => .array .int
abbrev wsX10 : List Cond := u_ws RX1 TX1 6
theorem nmX1 : ∀ a, a < 6 → ∀ b, b < 6 → a ≠ b → (TX1 a).2.1 ≠ (TX1 b).2.1 := by decide +kernel
theorem tyX1_ok : ∀ k, k < 6 → parseFieldDescriptor (TX1 k).2.2.1 = some (tyX1 k) := by decide +kernel
abbrev cX1_init : ByteArray := prog_3_method_1_code
def yX1_init : MethodName := ⟨RX1, "<init>", "()V"⟩
abbrev cX1_clear : ByteArray := prog_3_method_2_code
def yX1_clear : MethodName := ⟨RX1, "clear", "()V"⟩
abbrev cX1_imitate : ByteArray := prog_3_method_3_code
def yX1_imitate : MethodName := ⟨RX1, "imitate", "(LHayBarn$Bales;)V"⟩
abbrev cX1_add : ByteArray := prog_3_method_4_code
def yX1_add : MethodName := ⟨RX1, "add", "(III)I"⟩
abbrev cX1_remove : ByteArray := prog_3_method_5_code
def yX1_remove : MethodName := ⟨RX1, "remove", "(I)V"⟩
abbrev cX1_copyTo : ByteArray := prog_3_method_6_code
def yX1_copyTo : MethodName := ⟨RX1, "copyTo", "(II)V"⟩
abbrev cX1_promoteTo : ByteArray := prog_3_method_7_code
def yX1_promoteTo : MethodName := ⟨RX1, "promoteTo", "(II)V"⟩
abbrev cX1_isGone : ByteArray := prog_3_method_8_code
def yX1_isGone : MethodName := ⟨RX1, "isGone", "(I)Z"⟩
abbrev cX1_liesInHalf : ByteArray := prog_3_method_9_code
def yX1_liesInHalf : MethodName := ⟨RX1, "liesInHalf", "(I)Z"⟩
abbrev cX1_liesInLoft : ByteArray := prog_3_method_10_code
def yX1_liesInLoft : MethodName := ⟨RX1, "liesInLoft", "(I)Z"⟩
abbrev cX1_place : ByteArray := prog_3_method_11_code
def yX1_place : MethodName := ⟨RX1, "place", "(I)I"⟩
abbrev cX1_size : ByteArray := prog_3_method_12_code
def yX1_size : MethodName := ⟨RX1, "size", "(I)I"⟩
abbrev cX1_age : ByteArray := prog_3_method_13_code
def yX1_age : MethodName := ⟨RX1, "age", "(I)I"⟩
abbrev cX1_ropes : ByteArray := prog_3_method_14_code
def yX1_ropes : MethodName := ⟨RX1, "ropes", "(I)I"⟩
abbrev cX1_hasRope : ByteArray := prog_3_method_15_code
def yX1_hasRope : MethodName := ⟨RX1, "hasRope", "(II)Z"⟩
abbrev cX1_lead : ByteArray := prog_3_method_16_code
def yX1_lead : MethodName := ⟨RX1, "lead", "(II)I"⟩
abbrev cX1_leadCount : ByteArray := prog_3_method_17_code
def yX1_leadCount : MethodName := ⟨RX1, "leadCount", "(I)I"⟩
abbrev cX1_setLead : ByteArray := prog_3_method_18_code
def yX1_setLead : MethodName := ⟨RX1, "setLead", "(III)V"⟩
abbrev cX1_untieFromGone : ByteArray := prog_3_method_19_code
def yX1_untieFromGone : MethodName := ⟨RX1, "untieFromGone", "()V"⟩
def RX2 : String := "HayBarn$Barn"
def TX2 : u_T := fun k => match k with
  | 0 => ("HayBarn$Barn", "pool", "LHayBarn$Bales;", true)
  | 1 => ("HayBarn$Barn", "loft", "LHayBarn$Loft;", true)
  | 2 => ("HayBarn$Barn", "line", "LHayBarn$Line;", true)
  | 3 => ("HayBarn$Barn", "hookBales", "[I", true)
  | 4 => ("HayBarn$Barn", "row", "[I", false)
  | 5 => ("HayBarn$Barn", "oldRow", "[I", false)
  | 6 => ("HayBarn$Barn", "plan", "LHayBarn$Plan;", false)
  | 7 => ("HayBarn$Barn", "rowCount", "I", false)
  | 8 => ("HayBarn$Barn", "used", "I", false)
  | 9 => ("HayBarn$Barn", "working", "I", false)
  | 10 => ("HayBarn$Barn", "stepsGone", "I", false)
  | 11 => ("HayBarn$Barn", "refused", "I", false)
  | 12 => ("HayBarn$Barn", "copied", "I", false)
  | 13 => ("HayBarn$Barn", "promoted", "I", false)
  | _ => ("HayBarn$Barn", "gone", "I", false)
def tyX2 : Nat → FieldType := fun k => match k with
  | 0 => .object "HayBarn$Bales"
  | 1 => .object "HayBarn$Loft"
  | 2 => .object "HayBarn$Line"
  | 3 => .array .int
  | 4 => .array .int
  | 5 => .array .int
  | 6 => .object "HayBarn$Plan"
  | 7 => .int
  | 8 => .int
  | 9 => .int
  | 10 => .int
  | 11 => .int
  | 12 => .int
  | 13 => .int
  | _ => .int
abbrev wsX20 : List Cond := u_ws RX2 TX2 15
theorem nmX2 : ∀ a, a < 15 → ∀ b, b < 15 → a ≠ b → (TX2 a).2.1 ≠ (TX2 b).2.1 := by decide +kernel
theorem tyX2_ok : ∀ k, k < 15 → parseFieldDescriptor (TX2 k).2.2.1 = some (tyX2 k) := by decide +kernel
abbrev cX2_init : ByteArray := prog_4_method_1_code
def yX2_init : MethodName := ⟨RX2, "<init>", "(LHayBarn$Plan;)V"⟩
abbrev cX2_begin : ByteArray := prog_4_method_2_code
def yX2_begin : MethodName := ⟨RX2, "begin", "(LHayBarn$Plan;)V"⟩
abbrev cX2_imitate : ByteArray := prog_4_method_3_code
def yX2_imitate : MethodName := ⟨RX2, "imitate", "(LHayBarn$Barn;)V"⟩
abbrev cX2_held : ByteArray := prog_4_method_4_code
def yX2_held : MethodName := ⟨RX2, "held", "(I)I"⟩
abbrev cX2_sameHeld : ByteArray := prog_4_method_5_code
def yX2_sameHeld : MethodName := ⟨RX2, "sameHeld", "(II)Z"⟩
abbrev cX2_inRow : ByteArray := prog_4_method_6_code
def yX2_inRow : MethodName := ⟨RX2, "inRow", "(I)I"⟩
abbrev cX2_loftBaleFrom : ByteArray := prog_4_method_7_code
def yX2_loftBaleFrom : MethodName := ⟨RX2, "loftBaleFrom", "(I)I"⟩
abbrev cX2_baleCount : ByteArray := prog_4_method_8_code
def yX2_baleCount : MethodName := ⟨RX2, "baleCount", "()I"⟩
abbrev cX2_freePlaces : ByteArray := prog_4_method_9_code
def yX2_freePlaces : MethodName := ⟨RX2, "freePlaces", "()I"⟩
abbrev cX2_uselessCount : ByteArray := prog_4_method_10_code
def yX2_uselessCount : MethodName := ⟨RX2, "uselessCount", "()I"⟩
abbrev cX2_ropesAway : ByteArray := prog_4_method_11_code
def yX2_ropesAway : MethodName := ⟨RX2, "ropesAway", "(II)I"⟩
abbrev cX2_makeBale : ByteArray := prog_4_method_12_code
def yX2_makeBale : MethodName := ⟨RX2, "makeBale", "(III)Z"⟩
abbrev cX2_tieRope : ByteArray := prog_4_method_13_code
def yX2_tieRope : MethodName := ⟨RX2, "tieRope", "(III)Z"⟩
abbrev cX2_untieRope : ByteArray := prog_4_method_14_code
def yX2_untieRope : MethodName := ⟨RX2, "untieRope", "(II)Z"⟩
abbrev cX2_followRope : ByteArray := prog_4_method_15_code
def yX2_followRope : MethodName := ⟨RX2, "followRope", "(III)Z"⟩
abbrev cX2_dropBale : ByteArray := prog_4_method_16_code
def yX2_dropBale : MethodName := ⟨RX2, "dropBale", "(I)Z"⟩
abbrev cX2_copyHalf : ByteArray := prog_4_method_17_code
def yX2_copyHalf : MethodName := ⟨RX2, "copyHalf", "()I"⟩
abbrev cX2_sweep : ByteArray := prog_4_method_18_code
def yX2_sweep : MethodName := ⟨RX2, "sweep", "()I"⟩
abbrev cX2_hold : ByteArray := prog_4_method_19_code
def yX2_hold : MethodName := ⟨RX2, "hold", "(II)V"⟩
abbrev cX2_loseRest : ByteArray := prog_4_method_20_code
def yX2_loseRest : MethodName := ⟨RX2, "loseRest", "([II)I"⟩
abbrev cX2_layInRow : ByteArray := prog_4_method_21_code
def yX2_layInRow : MethodName := ⟨RX2, "layInRow", "(II)V"⟩
abbrev cX2_findReached : ByteArray := prog_4_method_22_code
def yX2_findReached : MethodName := ⟨RX2, "findReached", "()V"⟩
abbrev cX2_followLine : ByteArray := prog_4_method_23_code
def yX2_followLine : MethodName := ⟨RX2, "followLine", "()V"⟩
abbrev cX2_takeOver : ByteArray := prog_4_method_24_code
def yX2_takeOver : MethodName := ⟨RX2, "takeOver", "(I)V"⟩
def RX3 : String := "HayBarn$Hands"
def TX3 : u_T := fun k => match k with
  | _ => ("HayBarn$Hands", "reckoner", "LHayBarn$Reckoner;", true)
def tyX3 : Nat → FieldType := fun k => match k with
  | _ => .object "HayBarn$Reckoner"
abbrev wsX30 : List Cond := u_ws RX3 TX3 1
theorem nmX3 : ∀ a, a < 1 → ∀ b, b < 1 → a ≠ b → (TX3 a).2.1 ≠ (TX3 b).2.1 := by decide +kernel
theorem tyX3_ok : ∀ k, k < 1 → parseFieldDescriptor (TX3 k).2.2.1 = some (tyX3 k) := by decide +kernel
abbrev cX3_init : ByteArray := prog_5_method_1_code
def yX3_init : MethodName := ⟨RX3, "<init>", "()V"⟩
abbrev cX3_goOn : ByteArray := prog_5_method_2_code
def yX3_goOn : MethodName := ⟨RX3, "goOn", "(LHayBarn$Barn;I)I"⟩
abbrev cX3_passNext : ByteArray := prog_5_method_3_code
def yX3_passNext : MethodName := ⟨RX3, "passNext", "(LHayBarn$Barn;)Z"⟩
abbrev cX3_perform : ByteArray := prog_5_method_4_code
def yX3_perform : MethodName := ⟨RX3, "perform", "(LHayBarn$Barn;LHayBarn$Step;)Z"⟩
def RX4 : String := "HayBarn$Line"
def TX4 : u_T := fun k => match k with
  | 0 => ("HayBarn$Line", "row", "[I", true)
  | 1 => ("HayBarn$Line", "ropes", "[I", true)
  | _ => ("HayBarn$Line", "count", "I", false)
def tyX4 : Nat → FieldType := fun k => match k with
  | 0 => .array .int
  | 1 => .array .int
  | _ => .int
abbrev wsX40 : List Cond := u_ws RX4 TX4 3
theorem nmX4 : ∀ a, a < 3 → ∀ b, b < 3 → a ≠ b → (TX4 a).2.1 ≠ (TX4 b).2.1 := by decide +kernel
theorem tyX4_ok : ∀ k, k < 3 → parseFieldDescriptor (TX4 k).2.2.1 = some (tyX4 k) := by decide +kernel
abbrev cX4_init : ByteArray := prog_6_method_1_code
def yX4_init : MethodName := ⟨RX4, "<init>", "()V"⟩
abbrev cX4_clear : ByteArray := prog_6_method_2_code
def yX4_clear : MethodName := ⟨RX4, "clear", "()V"⟩
abbrev cX4_add : ByteArray := prog_6_method_3_code
def yX4_add : MethodName := ⟨RX4, "add", "(II)Z"⟩
abbrev cX4_has : ByteArray := prog_6_method_4_code
def yX4_has : MethodName := ⟨RX4, "has", "(I)Z"⟩
abbrev cX4_ropesTo : ByteArray := prog_6_method_5_code
def yX4_ropesTo : MethodName := ⟨RX4, "ropesTo", "(I)I"⟩
abbrev cX4_at : ByteArray := prog_6_method_6_code
def yX4_at : MethodName := ⟨RX4, "at", "(I)I"⟩
abbrev cX4_length : ByteArray := prog_6_method_7_code
def yX4_length : MethodName := ⟨RX4, "length", "()I"⟩
def RX5 : String := "HayBarn$Loft"
def TX5 : u_T := fun k => match k with
  | 0 => ("HayBarn$Loft", "row", "[I", true)
  | 1 => ("HayBarn$Loft", "length", "I", false)
  | _ => ("HayBarn$Loft", "baleCount", "I", false)
def tyX5 : Nat → FieldType := fun k => match k with
  | 0 => .array .int
  | 1 => .int
  | _ => .int
abbrev wsX50 : List Cond := u_ws RX5 TX5 3
theorem nmX5 : ∀ a, a < 3 → ∀ b, b < 3 → a ≠ b → (TX5 a).2.1 ≠ (TX5 b).2.1 := by decide +kernel
theorem tyX5_ok : ∀ k, k < 3 → parseFieldDescriptor (TX5 k).2.2.1 = some (tyX5 k) := by decide +kernel
abbrev cX5_init : ByteArray := prog_7_method_1_code
def yX5_init : MethodName := ⟨RX5, "<init>", "()V"⟩
abbrev cX5_clear : ByteArray := prog_7_method_2_code
def yX5_clear : MethodName := ⟨RX5, "clear", "(I)V"⟩
abbrev cX5_imitate : ByteArray := prog_7_method_3_code
def yX5_imitate : MethodName := ⟨RX5, "imitate", "(LHayBarn$Loft;)V"⟩
abbrev cX5_at : ByteArray := prog_7_method_4_code
def yX5_at : MethodName := ⟨RX5, "at", "(I)I"⟩
abbrev cX5_lay : ByteArray := prog_7_method_5_code
def yX5_lay : MethodName := ⟨RX5, "lay", "(III)V"⟩
abbrev cX5_gapFor : ByteArray := prog_7_method_6_code
def yX5_gapFor : MethodName := ⟨RX5, "gapFor", "(I)I"⟩
abbrev cX5_widestGap : ByteArray := prog_7_method_7_code
def yX5_widestGap : MethodName := ⟨RX5, "widestGap", "()I"⟩
abbrev cX5_usedCount : ByteArray := prog_7_method_8_code
def yX5_usedCount : MethodName := ⟨RX5, "usedCount", "()I"⟩
def RX6 : String := "HayBarn$Plan"
def TX6 : u_T := fun k => match k with
  | 0 => ("HayBarn$Plan", "halfPlaces", "I", false)
  | 1 => ("HayBarn$Plan", "loftPlaces", "I", false)
  | 2 => ("HayBarn$Plan", "promoteAge", "I", false)
  | 3 => ("HayBarn$Plan", "hookCount", "I", false)
  | 4 => ("HayBarn$Plan", "stepCount", "I", false)
  | 5 => ("HayBarn$Plan", "orderCount", "I", false)
  | 6 => ("HayBarn$Plan", "told", "[LHayBarn$Step;", true)
  | 7 => ("HayBarn$Plan", "orders", "[LHayBarn$Sign;", true)
  | _ => ("HayBarn$Plan", "numbers", "[I", true)
def tyX6 : Nat → FieldType := fun k => match k with
  | 0 => .int
  | 1 => .int
  | 2 => .int
  | 3 => .int
  | 4 => .int
  | 5 => .int
  | 6 => .array (.object "HayBarn$Step")
  | 7 => .array (.object "HayBarn$Sign")
  | _ => .array .int
abbrev wsX60 : List Cond := u_ws RX6 TX6 9
theorem nmX6 : ∀ a, a < 9 → ∀ b, b < 9 → a ≠ b → (TX6 a).2.1 ≠ (TX6 b).2.1 := by decide +kernel
theorem tyX6_ok : ∀ k, k < 9 → parseFieldDescriptor (TX6 k).2.2.1 = some (tyX6 k) := by decide +kernel
abbrev cX6_init : ByteArray := prog_8_method_1_code
def yX6_init : MethodName := ⟨RX6, "<init>", "()V"⟩
abbrev cX6_clear : ByteArray := prog_8_method_2_code
def yX6_clear : MethodName := ⟨RX6, "clear", "()V"⟩
abbrev cX6_addStep : ByteArray := prog_8_method_3_code
def yX6_addStep : MethodName := ⟨RX6, "addStep", "(LHayBarn$Sign;)LHayBarn$Step;"⟩
abbrev cX6_stepWith : ByteArray := prog_8_method_4_code
def yX6_stepWith : MethodName := ⟨RX6, "stepWith", "(I)LHayBarn$Step;"⟩
abbrev cX6_addOrder : ByteArray := prog_8_method_5_code
def yX6_addOrder : MethodName := ⟨RX6, "addOrder", "(LHayBarn$Sign;I)V"⟩
abbrev cX6_order : ByteArray := prog_8_method_6_code
def yX6_order : MethodName := ⟨RX6, "order", "(I)LHayBarn$Sign;"⟩
abbrev cX6_orderNumber : ByteArray := prog_8_method_7_code
def yX6_orderNumber : MethodName := ⟨RX6, "orderNumber", "(I)I"⟩
abbrev cX6_isOrder : ByteArray := prog_8_method_8_code
def yX6_isOrder : MethodName := ⟨RX6, "isOrder", "(I)Z"⟩
def RX7 : String := "HayBarn$Reader"
def TX7 : u_T := fun k => match k with
  | 0 => ("HayBarn$Reader", "tokens", "LHayBarn$Tokens;", true)
  | 1 => ("HayBarn$Reader", "hookNames", "[I", true)
  | 2 => ("HayBarn$Reader", "plan", "LHayBarn$Plan;", false)
  | 3 => ("HayBarn$Reader", "token", "I", false)
  | 4 => ("HayBarn$Reader", "error", "I", false)
  | _ => ("HayBarn$Reader", "blamedToken", "I", false)
def tyX7 : Nat → FieldType := fun k => match k with
  | 0 => .object "HayBarn$Tokens"
  | 1 => .array .int
  | 2 => .object "HayBarn$Plan"
  | 3 => .int
  | 4 => .int
  | _ => .int
abbrev wsX70 : List Cond := u_ws RX7 TX7 6
theorem nmX7 : ∀ a, a < 6 → ∀ b, b < 6 → a ≠ b → (TX7 a).2.1 ≠ (TX7 b).2.1 := by decide +kernel
theorem tyX7_ok : ∀ k, k < 6 → parseFieldDescriptor (TX7 k).2.2.1 = some (tyX7 k) := by decide +kernel
abbrev cX7_init : ByteArray := prog_9_method_1_code
def yX7_init : MethodName := ⟨RX7, "<init>", "([BLHayBarn$Plan;)V"⟩
abbrev cX7_read : ByteArray := prog_9_method_2_code
def yX7_read : MethodName := ⟨RX7, "read", "(ILHayBarn$Plan;)I"⟩
abbrev cX7_position : ByteArray := prog_9_method_3_code
def yX7_position : MethodName := ⟨RX7, "position", "()I"⟩
abbrev cX7_isStep : ByteArray := prog_9_method_4_code
def yX7_isStep : MethodName := ⟨RX7, "isStep", "(LHayBarn$Sign;)Z"⟩
abbrev cX7_readSetting : ByteArray := prog_9_method_5_code
def yX7_readSetting : MethodName := ⟨RX7, "readSetting", "()V"⟩
abbrev cX7_readStep : ByteArray := prog_9_method_6_code
def yX7_readStep : MethodName := ⟨RX7, "readStep", "(LHayBarn$Sign;)V"⟩
abbrev cX7_readTest : ByteArray := prog_9_method_7_code
def yX7_readTest : MethodName := ⟨RX7, "readTest", "(I)V"⟩
abbrev cX7_readBoth : ByteArray := prog_9_method_8_code
def yX7_readBoth : MethodName := ⟨RX7, "readBoth", "(I)V"⟩
abbrev cX7_readSingle : ByteArray := prog_9_method_9_code
def yX7_readSingle : MethodName := ⟨RX7, "readSingle", "(I)V"⟩
abbrev cX7_readSame : ByteArray := prog_9_method_10_code
def yX7_readSame : MethodName := ⟨RX7, "readSame", "()V"⟩
abbrev cX7_isRelation : ByteArray := prog_9_method_11_code
def yX7_isRelation : MethodName := ⟨RX7, "isRelation", "(LHayBarn$Sign;)Z"⟩
abbrev cX7_readSum : ByteArray := prog_9_method_12_code
def yX7_readSum : MethodName := ⟨RX7, "readSum", "(I)V"⟩
abbrev cX7_readProduct : ByteArray := prog_9_method_13_code
def yX7_readProduct : MethodName := ⟨RX7, "readProduct", "(I)V"⟩
abbrev cX7_readValue : ByteArray := prog_9_method_14_code
def yX7_readValue : MethodName := ⟨RX7, "readValue", "(I)V"⟩
abbrev cX7_readPair : ByteArray := prog_9_method_15_code
def yX7_readPair : MethodName := ⟨RX7, "readPair", "(LHayBarn$Sign;I)V"⟩
abbrev cX7_readNumber : ByteArray := prog_9_method_16_code
def yX7_readNumber : MethodName := ⟨RX7, "readNumber", "(II)I"⟩
abbrev cX7_readRope : ByteArray := prog_9_method_17_code
def yX7_readRope : MethodName := ⟨RX7, "readRope", "(LHayBarn$Sign;)I"⟩
abbrev cX7_readNewHook : ByteArray := prog_9_method_18_code
def yX7_readNewHook : MethodName := ⟨RX7, "readNewHook", "()V"⟩
abbrev cX7_readHook : ByteArray := prog_9_method_19_code
def yX7_readHook : MethodName := ⟨RX7, "readHook", "()I"⟩
abbrev cX7_hookNamed : ByteArray := prog_9_method_20_code
def yX7_hookNamed : MethodName := ⟨RX7, "hookNamed", "(I)I"⟩
abbrev cX7_sign : ByteArray := prog_9_method_21_code
def yX7_sign : MethodName := ⟨RX7, "sign", "()LHayBarn$Sign;"⟩
abbrev cX7_take : ByteArray := prog_9_method_22_code
def yX7_take : MethodName := ⟨RX7, "take", "(LHayBarn$Sign;)Z"⟩
abbrev cX7_takeDeeper : ByteArray := prog_9_method_23_code
def yX7_takeDeeper : MethodName := ⟨RX7, "takeDeeper", "(I)Z"⟩
abbrev cX7_fail : ByteArray := prog_9_method_24_code
def yX7_fail : MethodName := ⟨RX7, "fail", "()V"⟩
abbrev cX7_blame : ByteArray := prog_9_method_25_code
def yX7_blame : MethodName := ⟨RX7, "blame", "(II)V"⟩
def RX8 : String := "HayBarn$Reckoner"
def TX8 : u_T := fun k => match k with
  | 0 => ("HayBarn$Reckoner", "stack", "[I", true)
  | _ => ("HayBarn$Reckoner", "height", "I", false)
def tyX8 : Nat → FieldType := fun k => match k with
  | 0 => .array .int
  | _ => .int
abbrev wsX80 : List Cond := u_ws RX8 TX8 2
theorem nmX8 : ∀ a, a < 2 → ∀ b, b < 2 → a ≠ b → (TX8 a).2.1 ≠ (TX8 b).2.1 := by decide +kernel
theorem tyX8_ok : ∀ k, k < 2 → parseFieldDescriptor (TX8 k).2.2.1 = some (tyX8 k) := by decide +kernel
abbrev cX8_init : ByteArray := prog_10_method_1_code
def yX8_init : MethodName := ⟨RX8, "<init>", "()V"⟩
abbrev cX8_reckon : ByteArray := prog_10_method_2_code
def yX8_reckon : MethodName := ⟨RX8, "reckon", "(LHayBarn$Barn;II)I"⟩
abbrev cX8_obey : ByteArray := prog_10_method_3_code
def yX8_obey : MethodName := ⟨RX8, "obey", "(LHayBarn$Barn;LHayBarn$Sign;I)V"⟩
abbrev cX8_value : ByteArray := prog_10_method_4_code
def yX8_value : MethodName := ⟨RX8, "value", "(LHayBarn$Barn;LHayBarn$Sign;I)I"⟩
abbrev cX8_joined : ByteArray := prog_10_method_5_code
def yX8_joined : MethodName := ⟨RX8, "joined", "(LHayBarn$Sign;II)I"⟩
abbrev cX8_one : ByteArray := prog_10_method_6_code
def yX8_one : MethodName := ⟨RX8, "one", "(Z)I"⟩
abbrev cX8_push : ByteArray := prog_10_method_7_code
def yX8_push : MethodName := ⟨RX8, "push", "(I)V"⟩
abbrev cX8_pop : ByteArray := prog_10_method_8_code
def yX8_pop : MethodName := ⟨RX8, "pop", "()I"⟩
def RX9 : String := "HayBarn$Sign"
def TX9 : u_T := fun k => match k with
  | _ => ("", "", "", false)
def tyX9 : Nat → FieldType := fun k => match k with
  | _ => .int
abbrev wsX90 : List Cond := u_ws RX9 TX9 0
theorem nmX9 : ∀ a, a < 0 → ∀ b, b < 0 → a ≠ b → (TX9 a).2.1 ≠ (TX9 b).2.1 := by decide +kernel
theorem tyX9_ok : ∀ k, k < 0 → parseFieldDescriptor (TX9 k).2.2.1 = some (tyX9 k) := by decide +kernel
def RX10 : String := "HayBarn$Step"
def TX10 : u_T := fun k => match k with
  | 0 => ("HayBarn$Step", "kind", "LHayBarn$Sign;", false)
  | 1 => ("HayBarn$Step", "hook", "I", false)
  | 2 => ("HayBarn$Step", "other", "I", false)
  | 3 => ("HayBarn$Step", "number", "I", false)
  | 4 => ("HayBarn$Step", "sumFrom", "I", false)
  | 5 => ("HayBarn$Step", "sumTo", "I", false)
  | 6 => ("HayBarn$Step", "testFrom", "I", false)
  | _ => ("HayBarn$Step", "testTo", "I", false)
def tyX10 : Nat → FieldType := fun k => match k with
  | 0 => .object "HayBarn$Sign"
  | 1 => .int
  | 2 => .int
  | 3 => .int
  | 4 => .int
  | 5 => .int
  | 6 => .int
  | _ => .int
abbrev wsX100 : List Cond := u_ws RX10 TX10 8
theorem nmX10 : ∀ a, a < 8 → ∀ b, b < 8 → a ≠ b → (TX10 a).2.1 ≠ (TX10 b).2.1 := by decide +kernel
theorem tyX10_ok : ∀ k, k < 8 → parseFieldDescriptor (TX10 k).2.2.1 = some (tyX10 k) := by decide +kernel
abbrev cX10_init : ByteArray := prog_12_method_1_code
def yX10_init : MethodName := ⟨RX10, "<init>", "()V"⟩
abbrev cX10_clear : ByteArray := prog_12_method_2_code
def yX10_clear : MethodName := ⟨RX10, "clear", "(LHayBarn$Sign;)V"⟩
abbrev cX10_hasTest : ByteArray := prog_12_method_3_code
def yX10_hasTest : MethodName := ⟨RX10, "hasTest", "()Z"⟩
def RX11 : String := "HayBarn$Tokens"
def TX11 : u_T := fun k => match k with
  | 0 => ("HayBarn$Tokens", "tape", "[B", true)
  | 1 => ("HayBarn$Tokens", "signs", "[LHayBarn$Sign;", true)
  | 2 => ("HayBarn$Tokens", "starts", "[I", true)
  | 3 => ("HayBarn$Tokens", "lengths", "[I", true)
  | 4 => ("HayBarn$Tokens", "values", "[I", true)
  | 5 => ("HayBarn$Tokens", "tapeLength", "I", false)
  | _ => ("HayBarn$Tokens", "count", "I", false)
def tyX11 : Nat → FieldType := fun k => match k with
  | 0 => .array .byte
  | 1 => .array (.object "HayBarn$Sign")
  | 2 => .array .int
  | 3 => .array .int
  | 4 => .array .int
  | 5 => .int
  | _ => .int
abbrev wsX110 : List Cond := u_ws RX11 TX11 7
theorem nmX11 : ∀ a, a < 7 → ∀ b, b < 7 → a ≠ b → (TX11 a).2.1 ≠ (TX11 b).2.1 := by decide +kernel
theorem tyX11_ok : ∀ k, k < 7 → parseFieldDescriptor (TX11 k).2.2.1 = some (tyX11 k) := by decide +kernel
abbrev cX11_init : ByteArray := prog_13_method_1_code
def yX11_init : MethodName := ⟨RX11, "<init>", "([B)V"⟩
abbrev cX11_split : ByteArray := prog_13_method_2_code
def yX11_split : MethodName := ⟨RX11, "split", "(I)V"⟩
abbrev cX11_sign : ByteArray := prog_13_method_3_code
def yX11_sign : MethodName := ⟨RX11, "sign", "(I)LHayBarn$Sign;"⟩
abbrev cX11_position : ByteArray := prog_13_method_4_code
def yX11_position : MethodName := ⟨RX11, "position", "(I)I"⟩
abbrev cX11_value : ByteArray := prog_13_method_5_code
def yX11_value : MethodName := ⟨RX11, "value", "(I)I"⟩
abbrev cX11_add : ByteArray := prog_13_method_6_code
def yX11_add : MethodName := ⟨RX11, "add", "(LHayBarn$Sign;II)V"⟩
abbrev cX11_valueOf : ByteArray := prog_13_method_7_code
def yX11_valueOf : MethodName := ⟨RX11, "valueOf", "(LHayBarn$Sign;II)I"⟩
abbrev cX11_numberAt : ByteArray := prog_13_method_8_code
def yX11_numberAt : MethodName := ⟨RX11, "numberAt", "(II)I"⟩
abbrev cX11_firstLike : ByteArray := prog_13_method_9_code
def yX11_firstLike : MethodName := ⟨RX11, "firstLike", "(II)I"⟩
abbrev cX11_isSame : ByteArray := prog_13_method_10_code
def yX11_isSame : MethodName := ⟨RX11, "isSame", "(III)Z"⟩
abbrev cX11_at : ByteArray := prog_13_method_11_code
def yX11_at : MethodName := ⟨RX11, "at", "(I)I"⟩
abbrev cX11_behindBlanks : ByteArray := prog_13_method_12_code
def yX11_behindBlanks : MethodName := ⟨RX11, "behindBlanks", "(I)I"⟩
abbrev cX11_tokenLength : ByteArray := prog_13_method_13_code
def yX11_tokenLength : MethodName := ⟨RX11, "tokenLength", "(I)I"⟩
abbrev cX11_tokenSign : ByteArray := prog_13_method_14_code
def yX11_tokenSign : MethodName := ⟨RX11, "tokenSign", "(II)LHayBarn$Sign;"⟩
abbrev cX11_writtenSign : ByteArray := prog_13_method_15_code
def yX11_writtenSign : MethodName := ⟨RX11, "writtenSign", "(II)LHayBarn$Sign;"⟩
abbrev cX11_isWritten : ByteArray := prog_13_method_16_code
def yX11_isWritten : MethodName := ⟨RX11, "isWritten", "(Ljava/lang/String;I)Z"⟩
abbrev cX11_wordLength : ByteArray := prog_13_method_17_code
def yX11_wordLength : MethodName := ⟨RX11, "wordLength", "(I)I"⟩
abbrev cX11_digitCount : ByteArray := prog_13_method_18_code
def yX11_digitCount : MethodName := ⟨RX11, "digitCount", "(I)I"⟩
abbrev cX11_lengthWithin : ByteArray := prog_13_method_19_code
def yX11_lengthWithin : MethodName := ⟨RX11, "lengthWithin", "(II)I"⟩
abbrev cX11_isLetter : ByteArray := prog_13_method_20_code
def yX11_isLetter : MethodName := ⟨RX11, "isLetter", "(I)Z"⟩
abbrev cX11_isDigit : ByteArray := prog_13_method_21_code
def yX11_isDigit : MethodName := ⟨RX11, "isDigit", "(I)Z"⟩
def RX12 : String := "HayBarn"
def TX12 : u_T := fun k => match k with
  | 0 => ("HayBarn", "tape", "[B", true)
  | 1 => ("HayBarn", "plan", "LHayBarn$Plan;", false)
  | 2 => ("HayBarn", "sparePlan", "LHayBarn$Plan;", false)
  | 3 => ("HayBarn", "reader", "LHayBarn$Reader;", true)
  | 4 => ("HayBarn", "barn", "LHayBarn$Barn;", true)
  | 5 => ("HayBarn", "trial", "LHayBarn$Barn;", true)
  | 6 => ("HayBarn", "hands", "LHayBarn$Hands;", true)
  | 7 => ("HayBarn", "tapeLength", "I", false)
  | _ => ("HayBarn", "errorPosition", "I", false)
def tyX12 : Nat → FieldType := fun k => match k with
  | 0 => .array .byte
  | 1 => .object "HayBarn$Plan"
  | 2 => .object "HayBarn$Plan"
  | 3 => .object "HayBarn$Reader"
  | 4 => .object "HayBarn$Barn"
  | 5 => .object "HayBarn$Barn"
  | 6 => .object "HayBarn$Hands"
  | 7 => .int
  | _ => .int
abbrev wsX120 : List Cond := u_ws RX12 TX12 9
theorem nmX12 : ∀ a, a < 9 → ∀ b, b < 9 → a ≠ b → (TX12 a).2.1 ≠ (TX12 b).2.1 := by decide +kernel
theorem tyX12_ok : ∀ k, k < 9 → parseFieldDescriptor (TX12 k).2.2.1 = some (tyX12 k) := by decide +kernel
abbrev cX12_init : ByteArray := prog_1_method_1_code
def yX12_init : MethodName := ⟨RX12, "<init>", "()V"⟩
abbrev cX12_feed : ByteArray := prog_1_method_2_code
def yX12_feed : MethodName := ⟨RX12, "feed", "(IIIII)I"⟩
abbrev cX12_trim : ByteArray := prog_1_method_3_code
def yX12_trim : MethodName := ⟨RX12, "trim", "(I)I"⟩
abbrev cX12_teach : ByteArray := prog_1_method_4_code
def yX12_teach : MethodName := ⟨RX12, "teach", "()I"⟩
abbrev cX12_hooks : ByteArray := prog_1_method_6_code
def yX12_hooks : MethodName := ⟨RX12, "hooks", "()I"⟩
abbrev cX12_steps : ByteArray := prog_1_method_7_code
def yX12_steps : MethodName := ⟨RX12, "steps", "()I"⟩
abbrev cX12_placesOfHalf : ByteArray := prog_1_method_8_code
def yX12_placesOfHalf : MethodName := ⟨RX12, "placesOfHalf", "()I"⟩
abbrev cX12_stepsGoneBy : ByteArray := prog_1_method_9_code
def yX12_stepsGoneBy : MethodName := ⟨RX12, "stepsGoneBy", "()I"⟩
abbrev cX12_stepsRefused : ByteArray := prog_1_method_10_code
def yX12_stepsRefused : MethodName := ⟨RX12, "stepsRefused", "()I"⟩
abbrev cX12_workingHalf : ByteArray := prog_1_method_11_code
def yX12_workingHalf : MethodName := ⟨RX12, "workingHalf", "()I"⟩
abbrev cX12_usedPlaces : ByteArray := prog_1_method_12_code
def yX12_usedPlaces : MethodName := ⟨RX12, "usedPlaces", "()I"⟩
abbrev cX12_usedInLoft : ByteArray := prog_1_method_13_code
def yX12_usedInLoft : MethodName := ⟨RX12, "usedInLoft", "()I"⟩
abbrev cX12_longestGap : ByteArray := prog_1_method_14_code
def yX12_longestGap : MethodName := ⟨RX12, "longestGap", "()I"⟩
abbrev cX12_bales : ByteArray := prog_1_method_15_code
def yX12_bales : MethodName := ⟨RX12, "bales", "()I"⟩
abbrev cX12_balesInLoft : ByteArray := prog_1_method_16_code
def yX12_balesInLoft : MethodName := ⟨RX12, "balesInLoft", "()I"⟩
abbrev cX12_uselessBales : ByteArray := prog_1_method_17_code
def yX12_uselessBales : MethodName := ⟨RX12, "uselessBales", "()I"⟩
abbrev cX12_copyings : ByteArray := prog_1_method_18_code
def yX12_copyings : MethodName := ⟨RX12, "copyings", "()I"⟩
abbrev cX12_balesPromoted : ByteArray := prog_1_method_19_code
def yX12_balesPromoted : MethodName := ⟨RX12, "balesPromoted", "()I"⟩
abbrev cX12_balesGone : ByteArray := prog_1_method_20_code
def yX12_balesGone : MethodName := ⟨RX12, "balesGone", "()I"⟩
abbrev cX12_holdsBale : ByteArray := prog_1_method_21_code
def yX12_holdsBale : MethodName := ⟨RX12, "holdsBale", "(I)Z"⟩
abbrev cX12_placeOf : ByteArray := prog_1_method_22_code
def yX12_placeOf : MethodName := ⟨RX12, "placeOf", "(I)I"⟩
abbrev cX12_sizeOf : ByteArray := prog_1_method_23_code
def yX12_sizeOf : MethodName := ⟨RX12, "sizeOf", "(I)I"⟩
abbrev cX12_ropesOf : ByteArray := prog_1_method_24_code
def yX12_ropesOf : MethodName := ⟨RX12, "ropesOf", "(I)I"⟩
abbrev cX12_ageOf : ByteArray := prog_1_method_25_code
def yX12_ageOf : MethodName := ⟨RX12, "ageOf", "(I)I"⟩
abbrev cX12_isInLoft : ByteArray := prog_1_method_26_code
def yX12_isInLoft : MethodName := ⟨RX12, "isInLoft", "(I)Z"⟩
abbrev cX12_ropeLeads : ByteArray := prog_1_method_27_code
def yX12_ropeLeads : MethodName := ⟨RX12, "ropeLeads", "(II)Z"⟩
abbrev cX12_holdSame : ByteArray := prog_1_method_28_code
def yX12_holdSame : MethodName := ⟨RX12, "holdSame", "(II)Z"⟩
abbrev cX12_ropesBetween : ByteArray := prog_1_method_29_code
def yX12_ropesBetween : MethodName := ⟨RX12, "ropesBetween", "(II)I"⟩
abbrev cX12_make : ByteArray := prog_1_method_30_code
def yX12_make : MethodName := ⟨RX12, "make", "(III)I"⟩
abbrev cX12_tie : ByteArray := prog_1_method_31_code
def yX12_tie : MethodName := ⟨RX12, "tie", "(III)I"⟩
abbrev cX12_follow : ByteArray := prog_1_method_32_code
def yX12_follow : MethodName := ⟨RX12, "follow", "(III)I"⟩
abbrev cX12_drop : ByteArray := prog_1_method_33_code
def yX12_drop : MethodName := ⟨RX12, "drop", "(I)I"⟩
abbrev cX12_copyNow : ByteArray := prog_1_method_34_code
def yX12_copyNow : MethodName := ⟨RX12, "copyNow", "()I"⟩
abbrev cX12_sweepLoft : ByteArray := prog_1_method_35_code
def yX12_sweepLoft : MethodName := ⟨RX12, "sweepLoft", "()I"⟩
abbrev cX12_work : ByteArray := prog_1_method_36_code
def yX12_work : MethodName := ⟨RX12, "work", "(I)I"⟩
abbrev cX12_stepsUntilCopying : ByteArray := prog_1_method_37_code
def yX12_stepsUntilCopying : MethodName := ⟨RX12, "stepsUntilCopying", "()I"⟩
abbrev cX12_usedAfter : ByteArray := prog_1_method_38_code
def yX12_usedAfter : MethodName := ⟨RX12, "usedAfter", "(I)I"⟩
abbrev cX12_usedIfCopied : ByteArray := prog_1_method_39_code
def yX12_usedIfCopied : MethodName := ⟨RX12, "usedIfCopied", "()I"⟩
abbrev cX12_meanSize : ByteArray := prog_1_method_40_code
def yX12_meanSize : MethodName := ⟨RX12, "meanSize", "()D"⟩
abbrev cX12_digest : ByteArray := prog_1_method_41_code
def yX12_digest : MethodName := ⟨RX12, "digest", "()J"⟩
abbrev cX12_append : ByteArray := prog_1_method_42_code
def yX12_append : MethodName := ⟨RX12, "append", "(I)V"⟩
abbrev cX12_checkHook : ByteArray := prog_1_method_43_code
def yX12_checkHook : MethodName := ⟨RX12, "checkHook", "(I)V"⟩
abbrev cX12_heldBale : ByteArray := prog_1_method_44_code
def yX12_heldBale : MethodName := ⟨RX12, "heldBale", "(I)I"⟩
abbrev cX12_checkWork : ByteArray := prog_1_method_45_code
def yX12_checkWork : MethodName := ⟨RX12, "checkWork", "(I)V"⟩
abbrev cX12_digestOfCounts : ByteArray := prog_1_method_46_code
def yX12_digestOfCounts : MethodName := ⟨RX12, "digestOfCounts", "()J"⟩
abbrev cX12_digestWithBale : ByteArray := prog_1_method_47_code
def yX12_digestWithBale : MethodName := ⟨RX12, "digestWithBale", "(JI)J"⟩
abbrev cX12_digestOfLead : ByteArray := prog_1_method_48_code
def yX12_digestOfLead : MethodName := ⟨RX12, "digestOfLead", "(I)I"⟩
def RX13 : String := "HayBarnLaw$Bale"
def TX13 : u_T := fun k => match k with
  | 0 => ("HayBarnLaw$Bale", "size", "I", false)
  | 1 => ("HayBarnLaw$Bale", "age", "I", false)
  | 2 => ("HayBarnLaw$Bale", "place", "I", false)
  | 3 => ("HayBarnLaw$Bale", "isUp", "Z", false)
  | _ => ("HayBarnLaw$Bale", "ropes", "[LHayBarnLaw$Bale;", false)
def tyX13 : Nat → FieldType := fun k => match k with
  | 0 => .int
  | 1 => .int
  | 2 => .int
  | 3 => .boolean
  | _ => .array (.object "HayBarnLaw$Bale")
abbrev wsX130 : List Cond := u_ws RX13 TX13 5
theorem nmX13 : ∀ a, a < 5 → ∀ b, b < 5 → a ≠ b → (TX13 a).2.1 ≠ (TX13 b).2.1 := by decide +kernel
theorem tyX13_ok : ∀ k, k < 5 → parseFieldDescriptor (TX13 k).2.2.1 = some (tyX13 k) := by decide +kernel
abbrev cX13_init : ByteArray := prog_15_method_1_code
def yX13_init : MethodName := ⟨RX13, "<init>", "(II)V"⟩
def RX14 : String := "HayBarnLaw$Sim"
def TX14 : u_T := fun k => match k with
  | 0 => ("HayBarnLaw$Sim", "half", "[LHayBarnLaw$Bale;", false)
  | 1 => ("HayBarnLaw$Sim", "loft", "[LHayBarnLaw$Bale;", false)
  | 2 => ("HayBarnLaw$Sim", "hooks", "[LHayBarnLaw$Bale;", false)
  | 3 => ("HayBarnLaw$Sim", "places", "I", false)
  | 4 => ("HayBarnLaw$Sim", "up", "I", false)
  | 5 => ("HayBarnLaw$Sim", "promote", "I", false)
  | 6 => ("HayBarnLaw$Sim", "steps", "[[I", false)
  | 7 => ("HayBarnLaw$Sim", "gone", "I", false)
  | 8 => ("HayBarnLaw$Sim", "refused", "I", false)
  | 9 => ("HayBarnLaw$Sim", "working", "I", false)
  | 10 => ("HayBarnLaw$Sim", "copies", "I", false)
  | 11 => ("HayBarnLaw$Sim", "promoted", "I", false)
  | _ => ("HayBarnLaw$Sim", "lost", "I", false)
def tyX14 : Nat → FieldType := fun k => match k with
  | 0 => .array (.object "HayBarnLaw$Bale")
  | 1 => .array (.object "HayBarnLaw$Bale")
  | 2 => .array (.object "HayBarnLaw$Bale")
  | 3 => .int
  | 4 => .int
  | 5 => .int
  | 6 => .array (.array .int)
  | 7 => .int
  | 8 => .int
  | 9 => .int
  | 10 => .int
  | 11 => .int
  | _ => .int
abbrev wsX140 : List Cond := u_ws RX14 TX14 13
theorem nmX14 : ∀ a, a < 13 → ∀ b, b < 13 → a ≠ b → (TX14 a).2.1 ≠ (TX14 b).2.1 := by decide +kernel
theorem tyX14_ok : ∀ k, k < 13 → parseFieldDescriptor (TX14 k).2.2.1 = some (tyX14 k) := by decide +kernel
abbrev cX14_init : ByteArray := prog_16_method_1_code
def yX14_init : MethodName := ⟨RX14, "<init>", "(IIII)V"⟩
abbrev cX14_with : ByteArray := prog_16_method_2_code
def yX14_with : MethodName := ⟨RX14, "with", "([LHayBarnLaw$Bale;LHayBarnLaw$Bale;)[LHayBarnLaw$Bale;"⟩
abbrev cX14_isIn : ByteArray := prog_16_method_3_code
def yX14_isIn : MethodName := ⟨RX14, "isIn", "([LHayBarnLaw$Bale;LHayBarnLaw$Bale;)Z"⟩
abbrev cX14_all : ByteArray := prog_16_method_5_code
def yX14_all : MethodName := ⟨RX14, "all", "()[LHayBarnLaw$Bale;"⟩
abbrev cX14_used : ByteArray := prog_16_method_7_code
def yX14_used : MethodName := ⟨RX14, "used", "([LHayBarnLaw$Bale;)I"⟩
abbrev cX14_empty : ByteArray := prog_16_method_8_code
def yX14_empty : MethodName := ⟨RX14, "empty", "()[Z"⟩
abbrev cX14_gap : ByteArray := prog_16_method_9_code
def yX14_gap : MethodName := ⟨RX14, "gap", "(I)I"⟩
abbrev cX14_reached : ByteArray := prog_16_method_10_code
def yX14_reached : MethodName := ⟨RX14, "reached", "()[LHayBarnLaw$Bale;"⟩
abbrev cX14_useless : ByteArray := prog_16_method_11_code
def yX14_useless : MethodName := ⟨RX14, "useless", "()I"⟩
abbrev cX14_take : ByteArray := prog_16_method_12_code
def yX14_take : MethodName := ⟨RX14, "take", "([LHayBarnLaw$Bale;[LHayBarnLaw$Bale;LHayBarnLaw$Bale;)[LHayBarnLaw$Bale;"⟩
abbrev cX14_copyAll : ByteArray := prog_16_method_13_code
def yX14_copyAll : MethodName := ⟨RX14, "copyAll", "()I"⟩
abbrev cX14_sweep : ByteArray := prog_16_method_14_code
def yX14_sweep : MethodName := ⟨RX14, "sweep", "()I"⟩
abbrev cX14_make : ByteArray := prog_16_method_15_code
def yX14_make : MethodName := ⟨RX14, "make", "(III)Z"⟩
abbrev cX14_hasRope : ByteArray := prog_16_method_16_code
def yX14_hasRope : MethodName := ⟨RX14, "hasRope", "(II)Z"⟩
abbrev cX14_tie : ByteArray := prog_16_method_17_code
def yX14_tie : MethodName := ⟨RX14, "tie", "(III)Z"⟩
abbrev cX14_follow : ByteArray := prog_16_method_18_code
def yX14_follow : MethodName := ⟨RX14, "follow", "(III)Z"⟩
abbrev cX14_sum : ByteArray := prog_16_method_19_code
def yX14_sum : MethodName := ⟨RX14, "sum", "([I)I"⟩
abbrev cX14_isDue : ByteArray := prog_16_method_20_code
def yX14_isDue : MethodName := ⟨RX14, "isDue", "([I)Z"⟩
abbrev cX14_isDone : ByteArray := prog_16_method_21_code
def yX14_isDone : MethodName := ⟨RX14, "isDone", "([I)Z"⟩
abbrev cX14_work : ByteArray := prog_16_method_22_code
def yX14_work : MethodName := ⟨RX14, "work", "(I)I"⟩
abbrev cX14_isSame : ByteArray := prog_16_method_23_code
def yX14_isSame : MethodName := ⟨RX14, "isSame", "(LHayBarn;)Z"⟩
def RX15 : String := "HayBarnModel$Plan"
def TX15 : u_T := fun k => match k with
  | _ => ("", "", "", false)
def tyX15 : Nat → FieldType := fun k => match k with
  | _ => .int
abbrev wsX150 : List Cond := u_ws RX15 TX15 0
theorem nmX15 : ∀ a, a < 0 → ∀ b, b < 0 → a ≠ b → (TX15 a).2.1 ≠ (TX15 b).2.1 := by decide +kernel
theorem tyX15_ok : ∀ k, k < 0 → parseFieldDescriptor (TX15 k).2.2.1 = some (tyX15 k) := by decide +kernel
def RX16 : String := "HayBarnModel$State"
def TX16 : u_T := fun k => match k with
  | _ => ("", "", "", false)
def tyX16 : Nat → FieldType := fun k => match k with
  | _ => .int
abbrev wsX160 : List Cond := u_ws RX16 TX16 0
theorem nmX16 : ∀ a, a < 0 → ∀ b, b < 0 → a ≠ b → (TX16 a).2.1 ≠ (TX16 b).2.1 := by decide +kernel
theorem tyX16_ok : ∀ k, k < 0 → parseFieldDescriptor (TX16 k).2.2.1 = some (tyX16 k) := by decide +kernel
def RX17 : String := "HayBarnModel"
def TX17 : u_T := fun k => match k with
  | _ => ("", "", "", false)
def tyX17 : Nat → FieldType := fun k => match k with
  | _ => .int
abbrev wsX170 : List Cond := u_ws RX17 TX17 0
theorem nmX17 : ∀ a, a < 0 → ∀ b, b < 0 → a ≠ b → (TX17 a).2.1 ≠ (TX17 b).2.1 := by decide +kernel
theorem tyX17_ok : ∀ k, k < 0 → parseFieldDescriptor (TX17 k).2.2.1 = some (tyX17 k) := by decide +kernel
def RJx145de : String := "java/io/Serializable"
def TJx145de : u_T := fun k => match k with
  | _ => ("", "", "", false)
def tyJx145de : Nat → FieldType := fun k => match k with
  | _ => .int
abbrev wsJx145de0 : List Cond := u_ws RJx145de TJx145de 0
theorem nmJx145de : ∀ a, a < 0 → ∀ b, b < 0 → a ≠ b → (TJx145de a).2.1 ≠ (TJx145de b).2.1 := by decide +kernel
theorem tyJx145de_ok : ∀ k, k < 0 → parseFieldDescriptor (TJx145de k).2.2.1 = some (tyJx145de k) := by decide +kernel
def RJ5 : String := "java/lang/AbstractStringBuilder"
def TJ5 : u_T := fun k => match k with
  | _ => ("", "", "", false)
def tyJ5 : Nat → FieldType := fun k => match k with
  | _ => .int
abbrev wsJ50 : List Cond := u_ws RJ5 TJ5 0
theorem nmJ5 : ∀ a, a < 0 → ∀ b, b < 0 → a ≠ b → (TJ5 a).2.1 ≠ (TJ5 b).2.1 := by decide +kernel
theorem tyJ5_ok : ∀ k, k < 0 → parseFieldDescriptor (TJ5 k).2.2.1 = some (tyJ5 k) := by decide +kernel
abbrev cJ5_init_d00df : ByteArray := prog_20_method_2_code
def yJ5_init_d00df : MethodName := ⟨RJ5, "<init>", "(I)V"⟩
abbrev cJ5_length_8abf5 : ByteArray := prog_20_method_6_code
def yJ5_length_8abf5 : MethodName := ⟨RJ5, "length", "()I"⟩
abbrev cJ5_ensureCapacityInternal_d00df : ByteArray := prog_20_method_9_code
def yJ5_ensureCapacityInternal_d00df : MethodName := ⟨RJ5, "ensureCapacityInternal", "(I)V"⟩
abbrev cJ5_newCapacity_0f7a4 : ByteArray := prog_20_method_10_code
def yJ5_newCapacity_0f7a4 : MethodName := ⟨RJ5, "newCapacity", "(I)I"⟩
abbrev cJ5_inflate_da8c8 : ByteArray := prog_20_method_11_code
def yJ5_inflate_da8c8 : MethodName := ⟨RJ5, "inflate", "()V"⟩
abbrev cJ5_append_cf1ce : ByteArray := prog_20_method_22_code
def yJ5_append_cf1ce : MethodName := ⟨RJ5, "append", "(Ljava/lang/String;)Ljava/lang/AbstractStringBuilder;"⟩
abbrev cJ5_appendNull_278bc : ByteArray := prog_20_method_26_code
def yJ5_appendNull_278bc : MethodName := ⟨RJ5, "appendNull", "()Ljava/lang/AbstractStringBuilder;"⟩
abbrev cJ5_append_c97b9 : ByteArray := prog_20_method_32_code
def yJ5_append_c97b9 : MethodName := ⟨RJ5, "append", "(I)Ljava/lang/AbstractStringBuilder;"⟩
abbrev cJ5_getValue_6d5f1 : ByteArray := prog_20_method_64_code
def yJ5_getValue_6d5f1 : MethodName := ⟨RJ5, "getValue", "()[B"⟩
abbrev cJ5_isLatin1_aae02 : ByteArray := prog_20_method_68_code
def yJ5_isLatin1_aae02 : MethodName := ⟨RJ5, "isLatin1", "()Z"⟩
abbrev cJ5_inflateIfNeededFor_a7421 : ByteArray := prog_20_method_71_code
def yJ5_inflateIfNeededFor_a7421 : MethodName := ⟨RJ5, "inflateIfNeededFor", "(Ljava/lang/String;)V"⟩
abbrev cJ5_putStringAt_47b60 : ByteArray := prog_20_method_73_code
def yJ5_putStringAt_47b60 : MethodName := ⟨RJ5, "putStringAt", "(ILjava/lang/String;)V"⟩
def RJx2cfe8 : String := "java/lang/Appendable"
def TJx2cfe8 : u_T := fun k => match k with
  | _ => ("", "", "", false)
def tyJx2cfe8 : Nat → FieldType := fun k => match k with
  | _ => .int
abbrev wsJx2cfe80 : List Cond := u_ws RJx2cfe8 TJx2cfe8 0
theorem nmJx2cfe8 : ∀ a, a < 0 → ∀ b, b < 0 → a ≠ b → (TJx2cfe8 a).2.1 ≠ (TJx2cfe8 b).2.1 := by decide +kernel
theorem tyJx2cfe8_ok : ∀ k, k < 0 → parseFieldDescriptor (TJx2cfe8 k).2.2.1 = some (tyJx2cfe8 k) := by decide +kernel
def RJx9f9b0 : String := "java/lang/CharSequence"
def TJx9f9b0 : u_T := fun k => match k with
  | _ => ("", "", "", false)
def tyJx9f9b0 : Nat → FieldType := fun k => match k with
  | _ => .int
abbrev wsJx9f9b00 : List Cond := u_ws RJx9f9b0 TJx9f9b0 0
theorem nmJx9f9b0 : ∀ a, a < 0 → ∀ b, b < 0 → a ≠ b → (TJx9f9b0 a).2.1 ≠ (TJx9f9b0 b).2.1 := by decide +kernel
theorem tyJx9f9b0_ok : ∀ k, k < 0 → parseFieldDescriptor (TJx9f9b0 k).2.2.1 = some (tyJx9f9b0 k) := by decide +kernel
def RJx8e188 : String := "java/lang/Cloneable"
def TJx8e188 : u_T := fun k => match k with
  | _ => ("", "", "", false)
def tyJx8e188 : Nat → FieldType := fun k => match k with
  | _ => .int
abbrev wsJx8e1880 : List Cond := u_ws RJx8e188 TJx8e188 0
theorem nmJx8e188 : ∀ a, a < 0 → ∀ b, b < 0 → a ≠ b → (TJx8e188 a).2.1 ≠ (TJx8e188 b).2.1 := by decide +kernel
theorem tyJx8e188_ok : ∀ k, k < 0 → parseFieldDescriptor (TJx8e188 k).2.2.1 = some (tyJx8e188 k) := by decide +kernel
def RJxb160c : String := "java/lang/Comparable"
def TJxb160c : u_T := fun k => match k with
  | _ => ("", "", "", false)
def tyJxb160c : Nat → FieldType := fun k => match k with
  | _ => .int
abbrev wsJxb160c0 : List Cond := u_ws RJxb160c TJxb160c 0
theorem nmJxb160c : ∀ a, a < 0 → ∀ b, b < 0 → a ≠ b → (TJxb160c a).2.1 ≠ (TJxb160c b).2.1 := by decide +kernel
theorem tyJxb160c_ok : ∀ k, k < 0 → parseFieldDescriptor (TJxb160c k).2.2.1 = some (tyJxb160c k) := by decide +kernel
def RJx29ce0 : String := "java/lang/Enum"
def TJx29ce0 : u_T := fun k => match k with
  | _ => ("", "", "", false)
def tyJx29ce0 : Nat → FieldType := fun k => match k with
  | _ => .int
abbrev wsJx29ce00 : List Cond := u_ws RJx29ce0 TJx29ce0 0
theorem nmJx29ce0 : ∀ a, a < 0 → ∀ b, b < 0 → a ≠ b → (TJx29ce0 a).2.1 ≠ (TJx29ce0 b).2.1 := by decide +kernel
theorem tyJx29ce0_ok : ∀ k, k < 0 → parseFieldDescriptor (TJx29ce0 k).2.2.1 = some (tyJx29ce0 k) := by decide +kernel
abbrev cJx29ce0_ordinal_8abf5 : ByteArray := prog_22_method_2_code
def yJx29ce0_ordinal_8abf5 : MethodName := ⟨RJx29ce0, "ordinal", "()I"⟩
def RJ6 : String := "java/lang/Integer"
def TJ6 : u_T := fun k => match k with
  | _ => ("", "", "", false)
def tyJ6 : Nat → FieldType := fun k => match k with
  | _ => .int
abbrev wsJ60 : List Cond := u_ws RJ6 TJ6 0
theorem nmJ6 : ∀ a, a < 0 → ∀ b, b < 0 → a ≠ b → (TJ6 a).2.1 ≠ (TJ6 b).2.1 := by decide +kernel
theorem tyJ6_ok : ∀ k, k < 0 → parseFieldDescriptor (TJ6 k).2.2.1 = some (tyJ6 k) := by decide +kernel
abbrev cJ6_getChars_ba4f3 : ByteArray := prog_27_method_12_code
def yJ6_getChars_ba4f3 : MethodName := ⟨RJ6, "getChars", "(II[B)I"⟩
abbrev cJ6_stringSize_0f7a4 : ByteArray := prog_27_method_13_code
def yJ6_stringSize_0f7a4 : MethodName := ⟨RJ6, "stringSize", "(I)I"⟩
def RJ9 : String := "java/lang/Math"
def TJ9 : u_T := fun k => match k with
  | _ => ("", "", "", false)
def tyJ9 : Nat → FieldType := fun k => match k with
  | _ => .int
abbrev wsJ90 : List Cond := u_ws RJ9 TJ9 0
theorem nmJ9 : ∀ a, a < 0 → ∀ b, b < 0 → a ≠ b → (TJ9 a).2.1 ≠ (TJ9 b).2.1 := by decide +kernel
theorem tyJ9_ok : ∀ k, k < 0 → parseFieldDescriptor (TJ9 k).2.2.1 = some (tyJ9 k) := by decide +kernel
abbrev cJ9_max_7cf53 : ByteArray := prog_28_method_65_code
def yJ9_max_7cf53 : MethodName := ⟨RJ9, "max", "(II)I"⟩
abbrev cJ9_min_7cf53 : ByteArray := prog_28_method_69_code
def yJ9_min_7cf53 : MethodName := ⟨RJ9, "min", "(II)I"⟩
def RJxd2413 : String := "java/lang/Number"
def TJxd2413 : u_T := fun k => match k with
  | _ => ("", "", "", false)
def tyJxd2413 : Nat → FieldType := fun k => match k with
  | _ => .int
abbrev wsJxd24130 : List Cond := u_ws RJxd2413 TJxd2413 0
theorem nmJxd2413 : ∀ a, a < 0 → ∀ b, b < 0 → a ≠ b → (TJxd2413 a).2.1 ≠ (TJxd2413 b).2.1 := by decide +kernel
theorem tyJxd2413_ok : ∀ k, k < 0 → parseFieldDescriptor (TJxd2413 k).2.2.1 = some (tyJxd2413 k) := by decide +kernel
def RJ0 : String := "java/lang/String"
def TJ0 : u_T := fun k => match k with
  | 0 => ("java/lang/String", "value", "[B", true)
  | 1 => ("java/lang/String", "coder", "B", true)
  | 2 => ("java/lang/String", "hash", "I", false)
  | _ => ("java/lang/String", "hashIsZero", "Z", false)
def tyJ0 : Nat → FieldType := fun k => match k with
  | 0 => .array .byte
  | 1 => .byte
  | 2 => .int
  | _ => .boolean
abbrev wsJ00 : List Cond := u_ws RJ0 TJ0 4
theorem nmJ0 : ∀ a, a < 4 → ∀ b, b < 4 → a ≠ b → (TJ0 a).2.1 ≠ (TJ0 b).2.1 := by decide +kernel
theorem tyJ0_ok : ∀ k, k < 4 → parseFieldDescriptor (TJ0 k).2.2.1 = some (tyJ0 k) := by decide +kernel
abbrev cJ0_init_81219 : ByteArray := prog_31_method_53_code
def yJ0_init_81219 : MethodName := ⟨RJ0, "<init>", "(Ljava/lang/StringBuilder;)V"⟩
abbrev cJ0_length_8abf5 : ByteArray := prog_31_method_54_code
def yJ0_length_8abf5 : MethodName := ⟨RJ0, "length", "()I"⟩
abbrev cJ0_charAt_5068e : ByteArray := prog_31_method_56_code
def yJ0_charAt_5068e : MethodName := ⟨RJ0, "charAt", "(I)C"⟩
abbrev cJ0_getBytes_840e7 : ByteArray := prog_31_method_147_code
def yJ0_getBytes_840e7 : MethodName := ⟨RJ0, "getBytes", "([BIB)V"⟩
abbrev cJ0_init_db425 : ByteArray := prog_31_method_150_code
def yJ0_init_db425 : MethodName := ⟨RJ0, "<init>", "(Ljava/lang/AbstractStringBuilder;Ljava/lang/Void;)V"⟩
abbrev cJ0_coder_7d493 : ByteArray := prog_31_method_152_code
def yJ0_coder_7d493 : MethodName := ⟨RJ0, "coder", "()B"⟩
abbrev cJ0_isLatin1_aae02 : ByteArray := prog_31_method_154_code
def yJ0_isLatin1_aae02 : MethodName := ⟨RJ0, "isLatin1", "()Z"⟩
abbrev cJ0_checkIndex_df160 : ByteArray := prog_31_method_155_code
def yJ0_checkIndex_df160 : MethodName := ⟨RJ0, "checkIndex", "(II)V"⟩
abbrev cJ0_checkBoundsOffCount_cabcc : ByteArray := prog_31_method_157_code
def yJ0_checkBoundsOffCount_cabcc : MethodName := ⟨RJ0, "checkBoundsOffCount", "(III)I"⟩
abbrev cJ0_checkBoundsBeginEnd_23922 : ByteArray := prog_31_method_158_code
def yJ0_checkBoundsBeginEnd_23922 : MethodName := ⟨RJ0, "checkBoundsBeginEnd", "(III)V"⟩
def RJ4 : String := "java/lang/StringBuilder"
def TJ4 : u_T := fun k => match k with
  | 0 => ("java/lang/AbstractStringBuilder", "value", "[B", false)
  | 1 => ("java/lang/AbstractStringBuilder", "coder", "B", false)
  | 2 => ("java/lang/AbstractStringBuilder", "maybeLatin1", "Z", false)
  | _ => ("java/lang/AbstractStringBuilder", "count", "I", false)
def tyJ4 : Nat → FieldType := fun k => match k with
  | 0 => .array .byte
  | 1 => .byte
  | 2 => .boolean
  | _ => .int
abbrev wsJ40 : List Cond := u_ws RJ4 TJ4 4
theorem nmJ4 : ∀ a, a < 4 → ∀ b, b < 4 → a ≠ b → (TJ4 a).2.1 ≠ (TJ4 b).2.1 := by decide +kernel
theorem tyJ4_ok : ∀ k, k < 4 → parseFieldDescriptor (TJ4 k).2.2.1 = some (tyJ4 k) := by decide +kernel
abbrev cJ4_init_da8c8 : ByteArray := prog_32_method_1_code
def yJ4_init_da8c8 : MethodName := ⟨RJ4, "<init>", "()V"⟩
abbrev cJ4_append_15ec4 : ByteArray := prog_32_method_7_code
def yJ4_append_15ec4 : MethodName := ⟨RJ4, "append", "(Ljava/lang/String;)Ljava/lang/StringBuilder;"⟩
abbrev cJ4_append_bf812 : ByteArray := prog_32_method_15_code
def yJ4_append_bf812 : MethodName := ⟨RJ4, "append", "(I)Ljava/lang/StringBuilder;"⟩
abbrev cJ4_toString_0e30d : ByteArray := prog_32_method_42_code
def yJ4_toString_0e30d : MethodName := ⟨RJ4, "toString", "()Ljava/lang/String;"⟩
abbrev cJ4_length_8abf5 : ByteArray := prog_32_method_93_code
def yJ4_length_8abf5 : MethodName := ⟨RJ4, "length", "()I"⟩
def RJ1 : String := "java/lang/StringLatin1"
def TJ1 : u_T := fun k => match k with
  | _ => ("", "", "", false)
def tyJ1 : Nat → FieldType := fun k => match k with
  | _ => .int
abbrev wsJ10 : List Cond := u_ws RJ1 TJ1 0
theorem nmJ1 : ∀ a, a < 0 → ∀ b, b < 0 → a ≠ b → (TJ1 a).2.1 ≠ (TJ1 b).2.1 := by decide +kernel
theorem tyJ1_ok : ∀ k, k < 0 → parseFieldDescriptor (TJ1 k).2.2.1 = some (tyJ1 k) := by decide +kernel
abbrev cJ1_charAt_3b067 : ByteArray := prog_33_method_2_code
def yJ1_charAt_3b067 : MethodName := ⟨RJ1, "charAt", "([BI)C"⟩
abbrev cJ1_inflate_0e8fd : ByteArray := prog_33_method_50_code
def yJ1_inflate_0e8fd : MethodName := ⟨RJ1, "inflate", "([BI[BII)V"⟩
def RJ2 : String := "java/lang/StringUTF16"
def TJ2 : u_T := fun k => match k with
  | _ => ("", "", "", false)
def tyJ2 : Nat → FieldType := fun k => match k with
  | _ => .int
abbrev wsJ20 : List Cond := u_ws RJ2 TJ2 0
theorem nmJ2 : ∀ a, a < 0 → ∀ b, b < 0 → a ≠ b → (TJ2 a).2.1 ≠ (TJ2 b).2.1 := by decide +kernel
theorem tyJ2_ok : ∀ k, k < 0 → parseFieldDescriptor (TJ2 k).2.2.1 = some (tyJ2 k) := by decide +kernel
abbrev cJ2_newBytesFor_77867 : ByteArray := prog_34_method_2_code
def yJ2_newBytesFor_77867 : MethodName := ⟨RJ2, "newBytesFor", "(I)[B"⟩
abbrev cJ2_newBytesLength_0f7a4 : ByteArray := prog_34_method_3_code
def yJ2_newBytesLength_0f7a4 : MethodName := ⟨RJ2, "newBytesLength", "(I)I"⟩
abbrev cJ2_putChar_b72d1 : ByteArray := prog_34_method_4_code
def yJ2_putChar_b72d1 : MethodName := ⟨RJ2, "putChar", "([BII)V"⟩
abbrev cJ2_getChar_3b067 : ByteArray := prog_34_method_5_code
def yJ2_getChar_3b067 : MethodName := ⟨RJ2, "getChar", "([BI)C"⟩
abbrev cJ2_length_9d52b : ByteArray := prog_34_method_6_code
def yJ2_length_9d52b : MethodName := ⟨RJ2, "length", "([B)I"⟩
abbrev cJ2_coderFromArrayLen_85cad : ByteArray := prog_34_method_15_code
def yJ2_coderFromArrayLen_85cad : MethodName := ⟨RJ2, "coderFromArrayLen", "([BI)B"⟩
abbrev cJ2_compress_39247 : ByteArray := prog_34_method_17_code
def yJ2_compress_39247 : MethodName := ⟨RJ2, "compress", "([BII)[B"⟩
abbrev cJ2_compress_5af95 : ByteArray := prog_34_method_22_code
def yJ2_compress_5af95 : MethodName := ⟨RJ2, "compress", "([BI[BII)I"⟩
abbrev cJ2_getChars_46870 : ByteArray := prog_34_method_77_code
def yJ2_getChars_46870 : MethodName := ⟨RJ2, "getChars", "(III[B)I"⟩
abbrev cJ2_putCharsAt_cd4e5 : ByteArray := prog_34_method_81_code
def yJ2_putCharsAt_cd4e5 : MethodName := ⟨RJ2, "putCharsAt", "([BICCCC)I"⟩
abbrev cJ2_charAt_3b067 : ByteArray := prog_34_method_83_code
def yJ2_charAt_3b067 : MethodName := ⟨RJ2, "charAt", "([BI)C"⟩
abbrev cJ2_inflate_0e8fd : ByteArray := prog_34_method_86_code
def yJ2_inflate_0e8fd : MethodName := ⟨RJ2, "inflate", "([BI[BII)V"⟩
abbrev cJ2_getChars_ba4f3 : ByteArray := prog_34_method_89_code
def yJ2_getChars_ba4f3 : MethodName := ⟨RJ2, "getChars", "(II[B)I"⟩
abbrev cJ2_checkIndex_2214a : ByteArray := prog_34_method_91_code
def yJ2_checkIndex_2214a : MethodName := ⟨RJ2, "checkIndex", "(I[B)V"⟩
abbrev cJ2_checkBoundsBeginEnd_d044e : ByteArray := prog_34_method_93_code
def yJ2_checkBoundsBeginEnd_d044e : MethodName := ⟨RJ2, "checkBoundsBeginEnd", "(II[B)V"⟩
abbrev cJ2_checkBoundsOffCount_d044e : ByteArray := prog_34_method_94_code
def yJ2_checkBoundsOffCount_d044e : MethodName := ⟨RJ2, "checkBoundsOffCount", "(II[B)V"⟩
def RJ10 : String := "java/lang/System"
def TJ10 : u_T := fun k => match k with
  | _ => ("", "", "", false)
def tyJ10 : Nat → FieldType := fun k => match k with
  | _ => .int
abbrev wsJ100 : List Cond := u_ws RJ10 TJ10 0
theorem nmJ10 : ∀ a, a < 0 → ∀ b, b < 0 → a ≠ b → (TJ10 a).2.1 ≠ (TJ10 b).2.1 := by decide +kernel
theorem tyJ10_ok : ∀ k, k < 0 → parseFieldDescriptor (TJ10 k).2.2.1 = some (tyJ10 k) := by decide +kernel
def RJxfd54e : String := "java/lang/constant/Constable"
def TJxfd54e : u_T := fun k => match k with
  | _ => ("", "", "", false)
def tyJxfd54e : Nat → FieldType := fun k => match k with
  | _ => .int
abbrev wsJxfd54e0 : List Cond := u_ws RJxfd54e TJxfd54e 0
theorem nmJxfd54e : ∀ a, a < 0 → ∀ b, b < 0 → a ≠ b → (TJxfd54e a).2.1 ≠ (TJxfd54e b).2.1 := by decide +kernel
theorem tyJxfd54e_ok : ∀ k, k < 0 → parseFieldDescriptor (TJxfd54e k).2.2.1 = some (tyJxfd54e k) := by decide +kernel
def RJx3cf43 : String := "java/lang/constant/ConstantDesc"
def TJx3cf43 : u_T := fun k => match k with
  | _ => ("", "", "", false)
def tyJx3cf43 : Nat → FieldType := fun k => match k with
  | _ => .int
abbrev wsJx3cf430 : List Cond := u_ws RJx3cf43 TJx3cf43 0
theorem nmJx3cf43 : ∀ a, a < 0 → ∀ b, b < 0 → a ≠ b → (TJx3cf43 a).2.1 ≠ (TJx3cf43 b).2.1 := by decide +kernel
theorem tyJx3cf43_ok : ∀ k, k < 0 → parseFieldDescriptor (TJx3cf43 k).2.2.1 = some (tyJx3cf43 k) := by decide +kernel
def RJ7 : String := "java/util/Arrays"
def TJ7 : u_T := fun k => match k with
  | _ => ("", "", "", false)
def tyJ7 : Nat → FieldType := fun k => match k with
  | _ => .int
abbrev wsJ70 : List Cond := u_ws RJ7 TJ7 0
theorem nmJ7 : ∀ a, a < 0 → ∀ b, b < 0 → a ≠ b → (TJ7 a).2.1 ≠ (TJ7 b).2.1 := by decide +kernel
theorem tyJ7_ok : ∀ k, k < 0 → parseFieldDescriptor (TJ7 k).2.2.1 = some (tyJ7 k) := by decide +kernel
abbrev cJ7_fill_53178 : ByteArray := prog_37_method_103_code
def yJ7_fill_53178 : MethodName := ⟨RJ7, "fill", "([II)V"⟩
abbrev cJ7_copyOf_9075b : ByteArray := prog_37_method_121_code
def yJ7_copyOf_9075b : MethodName := ⟨RJ7, "copyOf", "([BI)[B"⟩
abbrev cJ7_checkLength_df160 : ByteArray := prog_37_method_131_code
def yJ7_checkLength_df160 : MethodName := ⟨RJ7, "checkLength", "(II)V"⟩
abbrev cJ7_copyOfRange_39247 : ByteArray := prog_37_method_132_code
def yJ7_copyOfRange_39247 : MethodName := ⟨RJ7, "copyOfRange", "([BII)[B"⟩
abbrev cJ7_copyOfRangeByte_39247 : ByteArray := prog_37_method_133_code
def yJ7_copyOfRangeByte_39247 : MethodName := ⟨RJ7, "copyOfRangeByte", "([BII)[B"⟩
def RJ8 : String := "jdk/internal/util/ArraysSupport"
def TJ8 : u_T := fun k => match k with
  | _ => ("", "", "", false)
def tyJ8 : Nat → FieldType := fun k => match k with
  | _ => .int
abbrev wsJ80 : List Cond := u_ws RJ8 TJ8 0
theorem nmJ8 : ∀ a, a < 0 → ∀ b, b < 0 → a ≠ b → (TJ8 a).2.1 ≠ (TJ8 b).2.1 := by decide +kernel
theorem tyJ8_ok : ∀ k, k < 0 → parseFieldDescriptor (TJ8 k).2.2.1 = some (tyJ8 k) := by decide +kernel
abbrev cJ8_newLength_cabcc : ByteArray := prog_38_method_27_code
def yJ8_newLength_cabcc : MethodName := ⟨RJ8, "newLength", "(III)I"⟩
abbrev cJ8_hugeLength_7cf53 : ByteArray := prog_38_method_28_code
def yJ8_hugeLength_7cf53 : MethodName := ⟨RJ8, "hugeLength", "(II)I"⟩
def RJ3 : String := "jdk/internal/util/Preconditions"
def TJ3 : u_T := fun k => match k with
  | _ => ("", "", "", false)
def tyJ3 : Nat → FieldType := fun k => match k with
  | _ => .int
abbrev wsJ30 : List Cond := u_ws RJ3 TJ3 0
theorem nmJ3 : ∀ a, a < 0 → ∀ b, b < 0 → a ≠ b → (TJ3 a).2.1 ≠ (TJ3 b).2.1 := by decide +kernel
theorem tyJ3_ok : ∀ k, k < 0 → parseFieldDescriptor (TJ3 k).2.2.1 = some (tyJ3 k) := by decide +kernel
abbrev cJ3_checkIndex_8e157 : ByteArray := prog_39_method_11_code
def yJ3_checkIndex_8e157 : MethodName := ⟨RJ3, "checkIndex", "(IILjava/util/function/BiFunction;)I"⟩
abbrev cJ3_checkFromToIndex_8c36e : ByteArray := prog_39_method_12_code
def yJ3_checkFromToIndex_8c36e : MethodName := ⟨RJ3, "checkFromToIndex", "(IIILjava/util/function/BiFunction;)I"⟩
abbrev cJ3_checkFromIndexSize_8c36e : ByteArray := prog_39_method_13_code
def yJ3_checkFromIndexSize_8c36e : MethodName := ⟨RJ3, "checkFromIndexSize", "(IIILjava/util/function/BiFunction;)I"⟩
def RL : String := "HayBarnLaw"
abbrev cL_below : ByteArray := method_2_code
def yL_below : MethodName := ⟨RL, "below", "(II)I"⟩
abbrev cL_cell : ByteArray := method_3_code
def yL_cell : MethodName := ⟨RL, "cell", "([II)I"⟩
abbrev cL_taught : ByteArray := method_4_code
def yL_taught : MethodName := ⟨RL, "taught", "(LHayBarn;Ljava/lang/String;)I"⟩
abbrev cL_barn : ByteArray := method_5_code
def yL_barn : MethodName := ⟨RL, "barn", "([ILjava/lang/StringBuilder;)LHayBarnLaw$Sim;"⟩
abbrev cL_more : ByteArray := method_6_code
def yL_more : MethodName := ⟨RL, "more", "([[I[I)[[I"⟩
abbrev cL_told : ByteArray := method_7_code
def yL_told : MethodName := ⟨RL, "told", "([I)Ljava/lang/String;"⟩
abbrev cL_act : ByteArray := method_8_code
def yL_act : MethodName := ⟨RL, "act", "(LHayBarn;LHayBarnLaw$Sim;I)Z"⟩
abbrev cL_law : ByteArray := code
def yL_law : MethodName := ⟨RL, "law", "([I)Z"⟩
abbrev cL_isSound : ByteArray := method_10_code
def yL_isSound : MethodName := ⟨RL, "isSound", "(LHayBarn;)Z"⟩
