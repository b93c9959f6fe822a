def RX0 : String := "GlacierYears$Ice"
def TX0 : u_T := fun k => match k with
  | 0 => ("GlacierYears$Ice", "grains", "[J", true)
  | 1 => ("GlacierYears$Ice", "thicknesses", "[J", true)
  | 2 => ("GlacierYears$Ice", "tallies", "[J", true)
  | _ => ("GlacierYears$Ice", "year", "I", false)
def tyX0 : Nat → FieldType := fun k => match k with
  | 0 => .array .long
  | 1 => .array .long
  | 2 => .array .long
  | _ => .int
theorem nmX0 : ∀ a, a < 4 → ∀ b, b < 4 → a ≠ b → (TX0 a).2.1 ≠ (TX0 b).2.1 := by decide +kernel
theorem tyX0_ok : ∀ k, k < 4 → parseFieldDescriptor (TX0 k).2.2.1 = some (tyX0 k) := by decide +kernel
abbrev cX0_init : ByteArray := prog_2_method_1_code
def yX0_init : MethodName := ⟨RX0, "<init>", "()V"⟩
abbrev cX0_clear : ByteArray := prog_2_method_2_code
def yX0_clear : MethodName := ⟨RX0, "clear", "()V"⟩
abbrev cX0_become : ByteArray := prog_2_method_3_code
def yX0_become : MethodName := ⟨RX0, "become", "(LGlacierYears$Ice;)V"⟩
abbrev cX0_settleAs : ByteArray := prog_2_method_4_code
def yX0_settleAs : MethodName := ⟨RX0, "settleAs", "(ILGlacierYears$Ice;I)V"⟩
abbrev cX0_lay : ByteArray := prog_2_method_5_code
def yX0_lay : MethodName := ⟨RX0, "lay", "(IIJ)V"⟩
abbrev cX0_lift : ByteArray := prog_2_method_6_code
def yX0_lift : MethodName := ⟨RX0, "lift", "(IIJ)V"⟩
abbrev cX0_arrive : ByteArray := prog_2_method_7_code
def yX0_arrive : MethodName := ⟨RX0, "arrive", "(IIJ)V"⟩
abbrev cX0_lose : ByteArray := prog_2_method_8_code
def yX0_lose : MethodName := ⟨RX0, "lose", "(IJI)V"⟩
abbrev cX0_layerCount : ByteArray := prog_2_method_9_code
def yX0_layerCount : MethodName := ⟨RX0, "layerCount", "(I)I"⟩
abbrev cX0_layerYear : ByteArray := prog_2_method_10_code
def yX0_layerYear : MethodName := ⟨RX0, "layerYear", "(II)I"⟩
abbrev cX0_oldestYear : ByteArray := prog_2_method_11_code
def yX0_oldestYear : MethodName := ⟨RX0, "oldestYear", "()I"⟩
abbrev cX0_tallyOfAll : ByteArray := prog_2_method_12_code
def yX0_tallyOfAll : MethodName := ⟨RX0, "tallyOfAll", "(I)J"⟩
def RX1 : String := "GlacierYears$Land"
def TX1 : u_T := fun k => match k with
  | 0 => ("GlacierYears$Land", "levels", "[I", true)
  | 1 => ("GlacierYears$Land", "kinds", "[I", true)
  | 2 => ("GlacierYears$Land", "hundredths", "[I", true)
  | 3 => ("GlacierYears$Land", "open", "[I", true)
  | 4 => ("GlacierYears$Land", "openCells", "I", false)
  | 5 => ("GlacierYears$Land", "width", "I", false)
  | _ => ("GlacierYears$Land", "height", "I", false)
def tyX1 : Nat → FieldType := fun k => match k with
  | 0 => .array .int
  | 1 => .array .int
  | 2 => .array .int
  | 3 => .array .int
  | 4 => .int
  | 5 => .int
  | _ => .int
theorem nmX1 : ∀ a, a < 7 → ∀ b, b < 7 → a ≠ b → (TX1 a).2.1 ≠ (TX1 b).2.1 := by decide +kernel
theorem tyX1_ok : ∀ k, k < 7 → parseFieldDescriptor (TX1 k).2.2.1 = some (tyX1 k) := by decide +kernel
abbrev cX1_init : ByteArray := prog_3_method_1_code
def yX1_init : MethodName := ⟨RX1, "<init>", "()V"⟩
abbrev cX1_lies : ByteArray := prog_3_method_2_code
def yX1_lies : MethodName := ⟨RX1, "lies", "()Z"⟩
abbrev cX1_placeAt : ByteArray := prog_3_method_3_code
def yX1_placeAt : MethodName := ⟨RX1, "placeAt", "(II)I"⟩
abbrev cX1_neighbour : ByteArray := prog_3_method_4_code
def yX1_neighbour : MethodName := ⟨RX1, "neighbour", "(II)I"⟩
abbrev cX1_cliffs : ByteArray := prog_3_method_5_code
def yX1_cliffs : MethodName := ⟨RX1, "cliffs", "()I"⟩
abbrev cX1_band : ByteArray := prog_3_method_6_code
def yX1_band : MethodName := ⟨RX1, "band", "(I)I"⟩
abbrev cX1_meltLeft : ByteArray := prog_3_method_7_code
def yX1_meltLeft : MethodName := ⟨RX1, "meltLeft", "(IJ)J"⟩
abbrev cX1_begin : ByteArray := prog_3_method_8_code
def yX1_begin : MethodName := ⟨RX1, "begin", "(II)V"⟩
abbrev cX1_settle : ByteArray := prog_3_method_9_code
def yX1_settle : MethodName := ⟨RX1, "settle", "(IIJ)V"⟩
abbrev cX1_settleAs : ByteArray := prog_3_method_10_code
def yX1_settleAs : MethodName := ⟨RX1, "settleAs", "(ILGlacierYears$Land;I)V"⟩
abbrev cX1_listIfOpen : ByteArray := prog_3_method_11_code
def yX1_listIfOpen : MethodName := ⟨RX1, "listIfOpen", "(I)V"⟩
abbrev cX1_becomeCellsOf : ByteArray := prog_3_method_12_code
def yX1_becomeCellsOf : MethodName := ⟨RX1, "becomeCellsOf", "(LGlacierYears$Land;)V"⟩
def RX2 : String := "GlacierYears$Past"
def TX2 : u_T := fun k => match k with
  | 0 => ("GlacierYears$Past", "ring", "[LGlacierYears$Ice;", true)
  | 1 => ("GlacierYears$Past", "next", "I", false)
  | _ => ("GlacierYears$Past", "kept", "I", false)
def tyX2 : Nat → FieldType := fun k => match k with
  | 0 => .array (.object "GlacierYears$Ice")
  | 1 => .int
  | _ => .int
theorem nmX2 : ∀ a, a < 3 → ∀ b, b < 3 → a ≠ b → (TX2 a).2.1 ≠ (TX2 b).2.1 := by decide +kernel
theorem tyX2_ok : ∀ k, k < 3 → parseFieldDescriptor (TX2 k).2.2.1 = some (tyX2 k) := by decide +kernel
abbrev cX2_init : ByteArray := prog_4_method_1_code
def yX2_init : MethodName := ⟨RX2, "<init>", "()V"⟩
abbrev cX2_keep : ByteArray := prog_4_method_2_code
def yX2_keep : MethodName := ⟨RX2, "keep", "(LGlacierYears$Ice;)V"⟩
abbrev cX2_restore : ByteArray := prog_4_method_3_code
def yX2_restore : MethodName := ⟨RX2, "restore", "(LGlacierYears$Ice;)V"⟩
abbrev cX2_forget : ByteArray := prog_4_method_4_code
def yX2_forget : MethodName := ⟨RX2, "forget", "()V"⟩
def RX3 : String := "GlacierYears$Strip"
def TX3 : u_T := fun k => match k with
  | 0 => ("GlacierYears$Strip", "places", "[J", true)
  | 1 => ("GlacierYears$Strip", "missing", "Z", false)
  | 2 => ("GlacierYears$Strip", "lane", "I", false)
  | _ => ("GlacierYears$Strip", "length", "I", false)
def tyX3 : Nat → FieldType := fun k => match k with
  | 0 => .array .long
  | 1 => .boolean
  | 2 => .int
  | _ => .int
theorem nmX3 : ∀ a, a < 4 → ∀ b, b < 4 → a ≠ b → (TX3 a).2.1 ≠ (TX3 b).2.1 := by decide +kernel
theorem tyX3_ok : ∀ k, k < 4 → parseFieldDescriptor (TX3 k).2.2.1 = some (tyX3 k) := by decide +kernel
abbrev cX3_init : ByteArray := prog_5_method_1_code
def yX3_init : MethodName := ⟨RX3, "<init>", "()V"⟩
abbrev cX3_begin : ByteArray := prog_5_method_2_code
def yX3_begin : MethodName := ⟨RX3, "begin", "(II)V"⟩
abbrev cX3_end : ByteArray := prog_5_method_3_code
def yX3_end : MethodName := ⟨RX3, "end", "()V"⟩
abbrev cX3_has : ByteArray := prog_5_method_4_code
def yX3_has : MethodName := ⟨RX3, "has", "(I)Z"⟩
abbrev cX3_hasAll : ByteArray := prog_5_method_5_code
def yX3_hasAll : MethodName := ⟨RX3, "hasAll", "(II)Z"⟩
abbrev cX3_store : ByteArray := prog_5_method_6_code
def yX3_store : MethodName := ⟨RX3, "store", "(IJ)V"⟩
def RX4 : String := "GlacierYears$Told"
def TX4 : u_T := fun k => match k with
  | 0 => ("GlacierYears$Told", "snow", "[I", true)
  | 1 => ("GlacierYears$Told", "melt", "[I", true)
  | 2 => ("GlacierYears$Told", "fraction", "I", false)
  | _ => ("GlacierYears$Told", "cap", "I", false)
def tyX4 : Nat → FieldType := fun k => match k with
  | 0 => .array .int
  | 1 => .array .int
  | 2 => .int
  | _ => .int
theorem nmX4 : ∀ a, a < 4 → ∀ b, b < 4 → a ≠ b → (TX4 a).2.1 ≠ (TX4 b).2.1 := by decide +kernel
theorem tyX4_ok : ∀ k, k < 4 → parseFieldDescriptor (TX4 k).2.2.1 = some (tyX4 k) := by decide +kernel
abbrev cX4_init : ByteArray := prog_6_method_1_code
def yX4_init : MethodName := ⟨RX4, "<init>", "()V"⟩
def RX5 : String := "GlacierYears"
def TX5 : u_T := fun k => match k with
  | 0 => ("GlacierYears", "strips", "[LGlacierYears$Strip;", true)
  | 1 => ("GlacierYears", "told", "LGlacierYears$Told;", true)
  | 2 => ("GlacierYears", "land", "LGlacierYears$Land;", true)
  | 3 => ("GlacierYears", "ice", "LGlacierYears$Ice;", true)
  | 4 => ("GlacierYears", "past", "LGlacierYears$Past;", true)
  | 5 => ("GlacierYears", "oldLand", "LGlacierYears$Land;", true)
  | 6 => ("GlacierYears", "oldIce", "LGlacierYears$Ice;", true)
  | 7 => ("GlacierYears", "gifts", "[J", true)
  | 8 => ("GlacierYears", "seen", "[J", true)
  | _ => ("GlacierYears", "failures", "I", false)
def tyX5 : Nat → FieldType := fun k => match k with
  | 0 => .array (.object "GlacierYears$Strip")
  | 1 => .object "GlacierYears$Told"
  | 2 => .object "GlacierYears$Land"
  | 3 => .object "GlacierYears$Ice"
  | 4 => .object "GlacierYears$Past"
  | 5 => .object "GlacierYears$Land"
  | 6 => .object "GlacierYears$Ice"
  | 7 => .array .long
  | 8 => .array .long
  | _ => .int
theorem nmX5 : ∀ a, a < 10 → ∀ b, b < 10 → a ≠ b → (TX5 a).2.1 ≠ (TX5 b).2.1 := by decide +kernel
theorem tyX5_ok : ∀ k, k < 10 → parseFieldDescriptor (TX5 k).2.2.1 = some (tyX5 k) := by decide +kernel
abbrev cX5_init : ByteArray := prog_1_method_1_code
def yX5_init : MethodName := ⟨RX5, "<init>", "()V"⟩
abbrev cX5_strip : ByteArray := prog_1_method_2_code
def yX5_strip : MethodName := ⟨RX5, "strip", "(III)I"⟩
abbrev cX5_tear : ByteArray := prog_1_method_3_code
def yX5_tear : MethodName := ⟨RX5, "tear", "(I)I"⟩
abbrev cX5_put : ByteArray := prog_1_method_4_code
def yX5_put : MethodName := ⟨RX5, "put", "(IIJ)I"⟩
abbrev cX5_at : ByteArray := prog_1_method_5_code
def yX5_at : MethodName := ⟨RX5, "at", "(III)J"⟩
abbrev cX5_copy : ByteArray := prog_1_method_6_code
def yX5_copy : MethodName := ⟨RX5, "copy", "(IIIII)I"⟩
abbrev cX5_ground : ByteArray := prog_1_method_7_code
def yX5_ground : MethodName := ⟨RX5, "ground", "(II)I"⟩
abbrev cX5_kind : ByteArray := prog_1_method_8_code
def yX5_kind : MethodName := ⟨RX5, "kind", "(IIII)I"⟩
abbrev cX5_taken : ByteArray := prog_1_method_9_code
def yX5_taken : MethodName := ⟨RX5, "taken", "(IIII)I"⟩
abbrev cX5_tell : ByteArray := prog_1_method_10_code
def yX5_tell : MethodName := ⟨RX5, "tell", "(ZII)I"⟩
abbrev cX5_rule : ByteArray := prog_1_method_11_code
def yX5_rule : MethodName := ⟨RX5, "rule", "(II)I"⟩
abbrev cX5_ice : ByteArray := prog_1_method_12_code
def yX5_ice : MethodName := ⟨RX5, "ice", "(III)J"⟩
abbrev cX5_years : ByteArray := prog_1_method_13_code
def yX5_years : MethodName := ⟨RX5, "years", "(I)I"⟩
abbrev cX5_back : ByteArray := prog_1_method_14_code
def yX5_back : MethodName := ⟨RX5, "back", "()I"⟩
abbrev cX5_steady : ByteArray := prog_1_method_15_code
def yX5_steady : MethodName := ⟨RX5, "steady", "(I)I"⟩
abbrev cX5_cell : ByteArray := prog_1_method_16_code
def yX5_cell : MethodName := ⟨RX5, "cell", "(III)J"⟩
abbrev cX5_layer : ByteArray := prog_1_method_17_code
def yX5_layer : MethodName := ⟨RX5, "layer", "(IIII)J"⟩
abbrev cX5_sum : ByteArray := prog_1_method_18_code
def yX5_sum : MethodName := ⟨RX5, "sum", "(II)J"⟩
abbrev cX5_about : ByteArray := prog_1_method_19_code
def yX5_about : MethodName := ⟨RX5, "about", "(I)J"⟩
abbrev cX5_gives : ByteArray := prog_1_method_20_code
def yX5_gives : MethodName := ⟨RX5, "gives", "(III)J"⟩
abbrev cX5_turn : ByteArray := prog_1_method_21_code
def yX5_turn : MethodName := ⟨RX5, "turn", "(I)I"⟩
abbrev cX5_count : ByteArray := prog_1_method_22_code
def yX5_count : MethodName := ⟨RX5, "count", "(I)I"⟩
abbrev cX5_fail : ByteArray := prog_1_method_23_code
def yX5_fail : MethodName := ⟨RX5, "fail", "(I)I"⟩
abbrev cX5_isStrip : ByteArray := prog_1_method_24_code
def yX5_isStrip : MethodName := ⟨RX5, "isStrip", "(I)Z"⟩
abbrev cX5_isLane : ByteArray := prog_1_method_25_code
def yX5_isLane : MethodName := ⟨RX5, "isLane", "(I)Z"⟩
abbrev cX5_isSide : ByteArray := prog_1_method_26_code
def yX5_isSide : MethodName := ⟨RX5, "isSide", "(I)Z"⟩
abbrev cX5_isHundredths : ByteArray := prog_1_method_27_code
def yX5_isHundredths : MethodName := ⟨RX5, "isHundredths", "(I)Z"⟩
abbrev cX5_countsAs : ByteArray := prog_1_method_28_code
def yX5_countsAs : MethodName := ⟨RX5, "countsAs", "(II)Z"⟩
abbrev cX5_stripsThere : ByteArray := prog_1_method_29_code
def yX5_stripsThere : MethodName := ⟨RX5, "stripsThere", "()I"⟩
abbrev cX5_levelFromStrips : ByteArray := prog_1_method_30_code
def yX5_levelFromStrips : MethodName := ⟨RX5, "levelFromStrips", "(II)J"⟩
abbrev cX5_surface : ByteArray := prog_1_method_31_code
def yX5_surface : MethodName := ⟨RX5, "surface", "(I)J"⟩
abbrev cX5_refusalOfYears : ByteArray := prog_1_method_32_code
def yX5_refusalOfYears : MethodName := ⟨RX5, "refusalOfYears", "(I)I"⟩
abbrev cX5_passYear : ByteArray := prog_1_method_33_code
def yX5_passYear : MethodName := ⟨RX5, "passYear", "()V"⟩
abbrev cX5_snowAndMelt : ByteArray := prog_1_method_34_code
def yX5_snowAndMelt : MethodName := ⟨RX5, "snowAndMelt", "()V"⟩
abbrev cX5_moveIce : ByteArray := prog_1_method_35_code
def yX5_moveIce : MethodName := ⟨RX5, "moveIce", "()V"⟩
abbrev cX5_gift : ByteArray := prog_1_method_36_code
def yX5_gift : MethodName := ⟨RX5, "gift", "(II)J"⟩
abbrev cX5_hand : ByteArray := prog_1_method_37_code
def yX5_hand : MethodName := ⟨RX5, "hand", "(IIJ)V"⟩
abbrev cX5_floatIce : ByteArray := prog_1_method_38_code
def yX5_floatIce : MethodName := ⟨RX5, "floatIce", "()V"⟩
abbrev cX5_remember : ByteArray := prog_1_method_39_code
def yX5_remember : MethodName := ⟨RX5, "remember", "(I)V"⟩
abbrev cX5_yearsSinceAlike : ByteArray := prog_1_method_40_code
def yX5_yearsSinceAlike : MethodName := ⟨RX5, "yearsSinceAlike", "(I)I"⟩
abbrev cX5_liesAsIn : ByteArray := prog_1_method_41_code
def yX5_liesAsIn : MethodName := ⟨RX5, "liesAsIn", "(I)Z"⟩
abbrev cX5_icyCells : ByteArray := prog_1_method_42_code
def yX5_icyCells : MethodName := ⟨RX5, "icyCells", "()I"⟩
abbrev cX5_thickestPlace : ByteArray := prog_1_method_43_code
def yX5_thickestPlace : MethodName := ⟨RX5, "thickestPlace", "()I"⟩
abbrev cX5_lowestIceSurface : ByteArray := prog_1_method_44_code
def yX5_lowestIceSurface : MethodName := ⟨RX5, "lowestIceSurface", "()J"⟩
abbrev cX5_turnCells : ByteArray := prog_1_method_45_code
def yX5_turnCells : MethodName := ⟨RX5, "turnCells", "(Z)V"⟩
abbrev cX5_fetchCell : ByteArray := prog_1_method_46_code
def yX5_fetchCell : MethodName := ⟨RX5, "fetchCell", "(III)V"⟩
def RX6 : String := "GlacierYearsModel"
def TX6 : u_T := fun k => match k with
  | 0 => ("GlacierYearsModel", "laneOf", "[I", true)
  | 1 => ("GlacierYearsModel", "many", "[I", true)
  | 2 => ("GlacierYearsModel", "number", "[J", true)
  | 3 => ("GlacierYearsModel", "failures", "I", false)
  | 4 => ("GlacierYearsModel", "held", "[J", true)
  | 5 => ("GlacierYearsModel", "width", "I", false)
  | 6 => ("GlacierYearsModel", "height", "I", false)
  | 7 => ("GlacierYearsModel", "year", "I", false)
  | 8 => ("GlacierYearsModel", "kind", "[I", true)
  | 9 => ("GlacierYearsModel", "hundredths", "[I", true)
  | 10 => ("GlacierYearsModel", "level", "[I", true)
  | 11 => ("GlacierYearsModel", "ice", "[J", true)
  | 12 => ("GlacierYearsModel", "sums", "[J", true)
  | 13 => ("GlacierYearsModel", "snow", "[I", true)
  | 14 => ("GlacierYearsModel", "melt", "[I", true)
  | 15 => ("GlacierYearsModel", "fraction", "I", false)
  | 16 => ("GlacierYearsModel", "cap", "I", false)
  | 17 => ("GlacierYearsModel", "kept", "I", false)
  | 18 => ("GlacierYearsModel", "ring", "I", false)
  | 19 => ("GlacierYearsModel", "keptIce", "[J", true)
  | 20 => ("GlacierYearsModel", "keptSums", "[J", true)
  | 21 => ("GlacierYearsModel", "gift", "[J", true)
  | 22 => ("GlacierYearsModel", "before", "[J", true)
  | 23 => ("GlacierYearsModel", "stood", "[J", true)
  | 24 => ("GlacierYearsModel", "oldKind", "[I", true)
  | 25 => ("GlacierYearsModel", "oldShare", "[I", true)
  | _ => ("GlacierYearsModel", "oldLevel", "[I", true)
def tyX6 : Nat → FieldType := fun k => match k with
  | 0 => .array .int
  | 1 => .array .int
  | 2 => .array .long
  | 3 => .int
  | 4 => .array .long
  | 5 => .int
  | 6 => .int
  | 7 => .int
  | 8 => .array .int
  | 9 => .array .int
  | 10 => .array .int
  | 11 => .array .long
  | 12 => .array .long
  | 13 => .array .int
  | 14 => .array .int
  | 15 => .int
  | 16 => .int
  | 17 => .int
  | 18 => .int
  | 19 => .array .long
  | 20 => .array .long
  | 21 => .array .long
  | 22 => .array .long
  | 23 => .array .long
  | 24 => .array .int
  | 25 => .array .int
  | _ => .array .int
theorem nmX6 : ∀ a, a < 27 → ∀ b, b < 27 → a ≠ b → (TX6 a).2.1 ≠ (TX6 b).2.1 := by decide +kernel
theorem tyX6_ok : ∀ k, k < 27 → parseFieldDescriptor (TX6 k).2.2.1 = some (tyX6 k) := by decide +kernel
abbrev cX6_init : ByteArray := prog_8_method_1_code
def yX6_init : MethodName := ⟨RX6, "<init>", "()V"⟩
abbrev cX6_in : ByteArray := prog_8_method_3_code
def yX6_in : MethodName := ⟨RX6, "in", "(JJJ)Z"⟩
abbrev cX6_failed : ByteArray := prog_8_method_4_code
def yX6_failed : MethodName := ⟨RX6, "failed", "(I)I"⟩
abbrev cX6_cut : ByteArray := prog_8_method_5_code
def yX6_cut : MethodName := ⟨RX6, "cut", "(IJ)J"⟩
abbrev cX6_isStrip : ByteArray := prog_8_method_6_code
def yX6_isStrip : MethodName := ⟨RX6, "isStrip", "(I)Z"⟩
abbrev cX6_strip : ByteArray := prog_8_method_7_code
def yX6_strip : MethodName := ⟨RX6, "strip", "(III)I"⟩
abbrev cX6_tear : ByteArray := prog_8_method_8_code
def yX6_tear : MethodName := ⟨RX6, "tear", "(I)I"⟩
abbrev cX6_put : ByteArray := prog_8_method_9_code
def yX6_put : MethodName := ⟨RX6, "put", "(IIJ)I"⟩
abbrev cX6_at : ByteArray := prog_8_method_10_code
def yX6_at : MethodName := ⟨RX6, "at", "(III)J"⟩
abbrev cX6_copy : ByteArray := prog_8_method_11_code
def yX6_copy : MethodName := ⟨RX6, "copy", "(IIIII)I"⟩
abbrev cX6_isPlace : ByteArray := prog_8_method_12_code
def yX6_isPlace : MethodName := ⟨RX6, "isPlace", "(II)Z"⟩
abbrev cX6_ground : ByteArray := prog_8_method_13_code
def yX6_ground : MethodName := ⟨RX6, "ground", "(II)I"⟩
abbrev cX6_kind : ByteArray := prog_8_method_14_code
def yX6_kind : MethodName := ⟨RX6, "kind", "(IIII)I"⟩
abbrev cX6_taken : ByteArray := prog_8_method_15_code
def yX6_taken : MethodName := ⟨RX6, "taken", "(IIII)I"⟩
abbrev cX6_tell : ByteArray := prog_8_method_16_code
def yX6_tell : MethodName := ⟨RX6, "tell", "(ZII)I"⟩
abbrev cX6_rule : ByteArray := prog_8_method_17_code
def yX6_rule : MethodName := ⟨RX6, "rule", "(II)I"⟩
abbrev cX6_thick : ByteArray := prog_8_method_18_code
def yX6_thick : MethodName := ⟨RX6, "thick", "(I)J"⟩
abbrev cX6_ice : ByteArray := prog_8_method_19_code
def yX6_ice : MethodName := ⟨RX6, "ice", "(III)J"⟩
abbrev cX6_keep : ByteArray := prog_8_method_20_code
def yX6_keep : MethodName := ⟨RX6, "keep", "()V"⟩
abbrev cX6_back : ByteArray := prog_8_method_21_code
def yX6_back : MethodName := ⟨RX6, "back", "()I"⟩
abbrev cX6_beside : ByteArray := prog_8_method_22_code
def yX6_beside : MethodName := ⟨RX6, "beside", "(II)I"⟩
abbrev cX6_lesser : ByteArray := prog_8_method_23_code
def yX6_lesser : MethodName := ⟨RX6, "lesser", "(JJ)J"⟩
abbrev cX6_given : ByteArray := prog_8_method_24_code
def yX6_given : MethodName := ⟨RX6, "given", "(II)J"⟩
abbrev cX6_isIce : ByteArray := prog_8_method_25_code
def yX6_isIce : MethodName := ⟨RX6, "isIce", "(I)Z"⟩
abbrev cX6_fall : ByteArray := prog_8_method_26_code
def yX6_fall : MethodName := ⟨RX6, "fall", "()V"⟩
abbrev cX6_move : ByteArray := prog_8_method_27_code
def yX6_move : MethodName := ⟨RX6, "move", "()V"⟩
abbrev cX6_swim : ByteArray := prog_8_method_28_code
def yX6_swim : MethodName := ⟨RX6, "swim", "()V"⟩
abbrev cX6_oneYear : ByteArray := prog_8_method_29_code
def yX6_oneYear : MethodName := ⟨RX6, "oneYear", "()V"⟩
abbrev cX6_years : ByteArray := prog_8_method_30_code
def yX6_years : MethodName := ⟨RX6, "years", "(I)I"⟩
abbrev cX6_note : ByteArray := prog_8_method_31_code
def yX6_note : MethodName := ⟨RX6, "note", "(I)V"⟩
abbrev cX6_isLike : ByteArray := prog_8_method_32_code
def yX6_isLike : MethodName := ⟨RX6, "isLike", "(II)Z"⟩
abbrev cX6_steady : ByteArray := prog_8_method_33_code
def yX6_steady : MethodName := ⟨RX6, "steady", "(I)I"⟩
abbrev cX6_layerOf : ByteArray := prog_8_method_34_code
def yX6_layerOf : MethodName := ⟨RX6, "layerOf", "(II)I"⟩
abbrev cX6_layers : ByteArray := prog_8_method_35_code
def yX6_layers : MethodName := ⟨RX6, "layers", "(I)I"⟩
abbrev cX6_cell : ByteArray := prog_8_method_36_code
def yX6_cell : MethodName := ⟨RX6, "cell", "(III)J"⟩
abbrev cX6_layer : ByteArray := prog_8_method_37_code
def yX6_layer : MethodName := ⟨RX6, "layer", "(IIII)J"⟩
abbrev cX6_sum : ByteArray := prog_8_method_38_code
def yX6_sum : MethodName := ⟨RX6, "sum", "(II)J"⟩
abbrev cX6_about : ByteArray := prog_8_method_39_code
def yX6_about : MethodName := ⟨RX6, "about", "(I)J"⟩
abbrev cX6_gives : ByteArray := prog_8_method_40_code
def yX6_gives : MethodName := ⟨RX6, "gives", "(III)J"⟩
abbrev cX6_turn : ByteArray := prog_8_method_41_code
def yX6_turn : MethodName := ⟨RX6, "turn", "(I)I"⟩
abbrev cX6_count : ByteArray := prog_8_method_42_code
def yX6_count : MethodName := ⟨RX6, "count", "(I)I"⟩
def RJ9 : String := "java/lang/Math"
abbrev cJ9_min_f86c9 : ByteArray := prog_9_method_70_code
def yJ9_min_f86c9 : MethodName := ⟨RJ9, "min", "(JJ)J"⟩
def RJ10 : String := "java/lang/System"
def RJ7 : String := "java/util/Arrays"
abbrev cJ7_fill_d0a16 : ByteArray := prog_11_method_101_code
def yJ7_fill_d0a16 : MethodName := ⟨RJ7, "fill", "([JJ)V"⟩
def RL : String := "GlacierYearsLaw"
abbrev cL_law : ByteArray := code
def yL_law : MethodName := ⟨RL, "law", "([I)Z"⟩
abbrev vwCl : List vw_C := [(RX0, TX0, 4), (RX1, TX1, 7), (RX2, TX2, 3), (RX3, TX3, 4), (RX4, TX4, 4), (RX5, TX5, 10), (RX6, TX6, 27)]
/-! the words of the tables that are good anywhere, by their places in lw_tbl -/
theorem q_0 : (Jvm.Cond.selects "GlacierYears" ({ cls := "GlacierYears", name := "fail", desc := "(I)I" } : Jvm.MethodName) ({ cls := "GlacierYears", name := "fail", desc := "(I)I" } : Jvm.MethodName)) ∈ g_tbl := g_mem 0 (by decide +kernel) (by decide +kernel)
theorem q_1 : (Jvm.Cond.selects "GlacierYears" ({ cls := "GlacierYears", name := "levelFromStrips", desc := "(II)J" } : Jvm.MethodName) ({ cls := "GlacierYears", name := "levelFromStrips", desc := "(II)J" } : Jvm.MethodName)) ∈ g_tbl := g_mem 1 (by decide +kernel) (by decide +kernel)
theorem q_2 : (Jvm.Cond.selects "GlacierYears$Land" ({ cls := "GlacierYears$Land", name := "listIfOpen", desc := "(I)V" } : Jvm.MethodName) ({ cls := "GlacierYears$Land", name := "listIfOpen", desc := "(I)V" } : Jvm.MethodName)) ∈ g_tbl := g_mem 2 (by decide +kernel) (by decide +kernel)
theorem q_3 : (Jvm.Cond.selects "GlacierYears" ({ cls := "GlacierYears", name := "refusalOfYears", desc := "(I)I" } : Jvm.MethodName) ({ cls := "GlacierYears", name := "refusalOfYears", desc := "(I)I" } : Jvm.MethodName)) ∈ g_tbl := g_mem 3 (by decide +kernel) (by decide +kernel)
theorem q_4 : (Jvm.Cond.selects "GlacierYears" ({ cls := "GlacierYears", name := "passYear", desc := "()V" } : Jvm.MethodName) ({ cls := "GlacierYears", name := "passYear", desc := "()V" } : Jvm.MethodName)) ∈ g_tbl := g_mem 4 (by decide +kernel) (by decide +kernel)
theorem q_5 : (Jvm.Cond.selects "GlacierYears" ({ cls := "GlacierYears", name := "snowAndMelt", desc := "()V" } : Jvm.MethodName) ({ cls := "GlacierYears", name := "snowAndMelt", desc := "()V" } : Jvm.MethodName)) ∈ g_tbl := g_mem 5 (by decide +kernel) (by decide +kernel)
theorem q_6 : (Jvm.Cond.selects "GlacierYears" ({ cls := "GlacierYears", name := "moveIce", desc := "()V" } : Jvm.MethodName) ({ cls := "GlacierYears", name := "moveIce", desc := "()V" } : Jvm.MethodName)) ∈ g_tbl := g_mem 6 (by decide +kernel) (by decide +kernel)
theorem q_7 : (Jvm.Cond.selects "GlacierYears" ({ cls := "GlacierYears", name := "gift", desc := "(II)J" } : Jvm.MethodName) ({ cls := "GlacierYears", name := "gift", desc := "(II)J" } : Jvm.MethodName)) ∈ g_tbl := g_mem 7 (by decide +kernel) (by decide +kernel)
theorem q_8 : (Jvm.Cond.selects "GlacierYears" ({ cls := "GlacierYears", name := "surface", desc := "(I)J" } : Jvm.MethodName) ({ cls := "GlacierYears", name := "surface", desc := "(I)J" } : Jvm.MethodName)) ∈ g_tbl := g_mem 8 (by decide +kernel) (by decide +kernel)
theorem q_9 : (Jvm.Cond.selects "GlacierYears" ({ cls := "GlacierYears", name := "hand", desc := "(IIJ)V" } : Jvm.MethodName) ({ cls := "GlacierYears", name := "hand", desc := "(IIJ)V" } : Jvm.MethodName)) ∈ g_tbl := g_mem 9 (by decide +kernel) (by decide +kernel)
theorem q_10 : (Jvm.Cond.selects "GlacierYears" ({ cls := "GlacierYears", name := "floatIce", desc := "()V" } : Jvm.MethodName) ({ cls := "GlacierYears", name := "floatIce", desc := "()V" } : Jvm.MethodName)) ∈ g_tbl := g_mem 10 (by decide +kernel) (by decide +kernel)
theorem q_11 : (Jvm.Cond.selects "GlacierYears" ({ cls := "GlacierYears", name := "remember", desc := "(I)V" } : Jvm.MethodName) ({ cls := "GlacierYears", name := "remember", desc := "(I)V" } : Jvm.MethodName)) ∈ g_tbl := g_mem 11 (by decide +kernel) (by decide +kernel)
theorem q_12 : (Jvm.Cond.selects "GlacierYears" ({ cls := "GlacierYears", name := "yearsSinceAlike", desc := "(I)I" } : Jvm.MethodName) ({ cls := "GlacierYears", name := "yearsSinceAlike", desc := "(I)I" } : Jvm.MethodName)) ∈ g_tbl := g_mem 12 (by decide +kernel) (by decide +kernel)
theorem q_13 : (Jvm.Cond.selects "GlacierYears" ({ cls := "GlacierYears", name := "liesAsIn", desc := "(I)Z" } : Jvm.MethodName) ({ cls := "GlacierYears", name := "liesAsIn", desc := "(I)Z" } : Jvm.MethodName)) ∈ g_tbl := g_mem 13 (by decide +kernel) (by decide +kernel)
theorem q_14 : (Jvm.Cond.selects "GlacierYears" ({ cls := "GlacierYears", name := "thickestPlace", desc := "()I" } : Jvm.MethodName) ({ cls := "GlacierYears", name := "thickestPlace", desc := "()I" } : Jvm.MethodName)) ∈ g_tbl := g_mem 14 (by decide +kernel) (by decide +kernel)
theorem q_15 : (Jvm.Cond.selects "GlacierYears" ({ cls := "GlacierYears", name := "icyCells", desc := "()I" } : Jvm.MethodName) ({ cls := "GlacierYears", name := "icyCells", desc := "()I" } : Jvm.MethodName)) ∈ g_tbl := g_mem 15 (by decide +kernel) (by decide +kernel)
theorem q_16 : (Jvm.Cond.selects "GlacierYears" ({ cls := "GlacierYears", name := "lowestIceSurface", desc := "()J" } : Jvm.MethodName) ({ cls := "GlacierYears", name := "lowestIceSurface", desc := "()J" } : Jvm.MethodName)) ∈ g_tbl := g_mem 16 (by decide +kernel) (by decide +kernel)
theorem q_17 : (Jvm.Cond.selects "GlacierYears" ({ cls := "GlacierYears", name := "turnCells", desc := "(Z)V" } : Jvm.MethodName) ({ cls := "GlacierYears", name := "turnCells", desc := "(Z)V" } : Jvm.MethodName)) ∈ g_tbl := g_mem 17 (by decide +kernel) (by decide +kernel)
theorem q_18 : (Jvm.Cond.selects "GlacierYears" ({ cls := "GlacierYears", name := "fetchCell", desc := "(III)V" } : Jvm.MethodName) ({ cls := "GlacierYears", name := "fetchCell", desc := "(III)V" } : Jvm.MethodName)) ∈ g_tbl := g_mem 18 (by decide +kernel) (by decide +kernel)
theorem q_19 : (Jvm.Cond.selects "GlacierYears" ({ cls := "GlacierYears", name := "stripsThere", desc := "()I" } : Jvm.MethodName) ({ cls := "GlacierYears", name := "stripsThere", desc := "()I" } : Jvm.MethodName)) ∈ g_tbl := g_mem 19 (by decide +kernel) (by decide +kernel)
theorem q_20 : (Jvm.Cond.selects "GlacierYearsModel" ({ cls := "GlacierYearsModel", name := "failed", desc := "(I)I" } : Jvm.MethodName) ({ cls := "GlacierYearsModel", name := "failed", desc := "(I)I" } : Jvm.MethodName)) ∈ g_tbl := g_mem 20 (by decide +kernel) (by decide +kernel)
theorem q_21 : (Jvm.Cond.selects "GlacierYearsModel" ({ cls := "GlacierYearsModel", name := "isPlace", desc := "(II)Z" } : Jvm.MethodName) ({ cls := "GlacierYearsModel", name := "isPlace", desc := "(II)Z" } : Jvm.MethodName)) ∈ g_tbl := g_mem 21 (by decide +kernel) (by decide +kernel)
theorem q_22 : (Jvm.Cond.selects "GlacierYearsModel" ({ cls := "GlacierYearsModel", name := "thick", desc := "(I)J" } : Jvm.MethodName) ({ cls := "GlacierYearsModel", name := "thick", desc := "(I)J" } : Jvm.MethodName)) ∈ g_tbl := g_mem 22 (by decide +kernel) (by decide +kernel)
theorem q_23 : (Jvm.Cond.selects "GlacierYearsModel" ({ cls := "GlacierYearsModel", name := "oneYear", desc := "()V" } : Jvm.MethodName) ({ cls := "GlacierYearsModel", name := "oneYear", desc := "()V" } : Jvm.MethodName)) ∈ g_tbl := g_mem 23 (by decide +kernel) (by decide +kernel)
theorem q_24 : (Jvm.Cond.selects "GlacierYearsModel" ({ cls := "GlacierYearsModel", name := "keep", desc := "()V" } : Jvm.MethodName) ({ cls := "GlacierYearsModel", name := "keep", desc := "()V" } : Jvm.MethodName)) ∈ g_tbl := g_mem 24 (by decide +kernel) (by decide +kernel)
theorem q_25 : (Jvm.Cond.selects "GlacierYearsModel" ({ cls := "GlacierYearsModel", name := "fall", desc := "()V" } : Jvm.MethodName) ({ cls := "GlacierYearsModel", name := "fall", desc := "()V" } : Jvm.MethodName)) ∈ g_tbl := g_mem 25 (by decide +kernel) (by decide +kernel)
theorem q_26 : (Jvm.Cond.selects "GlacierYearsModel" ({ cls := "GlacierYearsModel", name := "isIce", desc := "(I)Z" } : Jvm.MethodName) ({ cls := "GlacierYearsModel", name := "isIce", desc := "(I)Z" } : Jvm.MethodName)) ∈ g_tbl := g_mem 26 (by decide +kernel) (by decide +kernel)
theorem q_27 : (Jvm.Cond.selects "GlacierYearsModel" ({ cls := "GlacierYearsModel", name := "move", desc := "()V" } : Jvm.MethodName) ({ cls := "GlacierYearsModel", name := "move", desc := "()V" } : Jvm.MethodName)) ∈ g_tbl := g_mem 27 (by decide +kernel) (by decide +kernel)
theorem q_28 : (Jvm.Cond.selects "GlacierYearsModel" ({ cls := "GlacierYearsModel", name := "given", desc := "(II)J" } : Jvm.MethodName) ({ cls := "GlacierYearsModel", name := "given", desc := "(II)J" } : Jvm.MethodName)) ∈ g_tbl := g_mem 28 (by decide +kernel) (by decide +kernel)
theorem q_29 : (Jvm.Cond.selects "GlacierYearsModel" ({ cls := "GlacierYearsModel", name := "beside", desc := "(II)I" } : Jvm.MethodName) ({ cls := "GlacierYearsModel", name := "beside", desc := "(II)I" } : Jvm.MethodName)) ∈ g_tbl := g_mem 29 (by decide +kernel) (by decide +kernel)
theorem q_30 : (Jvm.Cond.selects "GlacierYearsModel" ({ cls := "GlacierYearsModel", name := "swim", desc := "()V" } : Jvm.MethodName) ({ cls := "GlacierYearsModel", name := "swim", desc := "()V" } : Jvm.MethodName)) ∈ g_tbl := g_mem 30 (by decide +kernel) (by decide +kernel)
theorem q_31 : (Jvm.Cond.selects "GlacierYearsModel" ({ cls := "GlacierYearsModel", name := "note", desc := "(I)V" } : Jvm.MethodName) ({ cls := "GlacierYearsModel", name := "note", desc := "(I)V" } : Jvm.MethodName)) ∈ g_tbl := g_mem 31 (by decide +kernel) (by decide +kernel)
theorem q_32 : (Jvm.Cond.selects "GlacierYearsModel" ({ cls := "GlacierYearsModel", name := "isLike", desc := "(II)Z" } : Jvm.MethodName) ({ cls := "GlacierYearsModel", name := "isLike", desc := "(II)Z" } : Jvm.MethodName)) ∈ g_tbl := g_mem 32 (by decide +kernel) (by decide +kernel)
theorem q_33 : (Jvm.Cond.selects "GlacierYearsModel" ({ cls := "GlacierYearsModel", name := "layers", desc := "(I)I" } : Jvm.MethodName) ({ cls := "GlacierYearsModel", name := "layers", desc := "(I)I" } : Jvm.MethodName)) ∈ g_tbl := g_mem 33 (by decide +kernel) (by decide +kernel)
theorem q_34 : (Jvm.Cond.selects "GlacierYearsModel" ({ cls := "GlacierYearsModel", name := "layerOf", desc := "(II)I" } : Jvm.MethodName) ({ cls := "GlacierYearsModel", name := "layerOf", desc := "(II)I" } : Jvm.MethodName)) ∈ g_tbl := g_mem 34 (by decide +kernel) (by decide +kernel)
theorem q_35 : (Jvm.Cond.initialized "GlacierYearsLaw") ∈ g_tbl := g_mem 35 (by decide +kernel) (by decide +kernel)
theorem q_36 : (Jvm.Cond.initialized "GlacierYears") ∈ g_tbl := g_mem 36 (by decide +kernel) (by decide +kernel)
theorem q_37 : (Jvm.Cond.initialized "GlacierYears$Told") ∈ g_tbl := g_mem 37 (by decide +kernel) (by decide +kernel)
theorem q_38 : (Jvm.Cond.initialized "GlacierYears$Land") ∈ g_tbl := g_mem 38 (by decide +kernel) (by decide +kernel)
theorem q_39 : (Jvm.Cond.initialized "GlacierYears$Ice") ∈ g_tbl := g_mem 39 (by decide +kernel) (by decide +kernel)
theorem q_40 : (Jvm.Cond.initialized "GlacierYears$Past") ∈ g_tbl := g_mem 40 (by decide +kernel) (by decide +kernel)
theorem q_41 : (Jvm.Cond.initialized "GlacierYears$Strip") ∈ g_tbl := g_mem 41 (by decide +kernel) (by decide +kernel)
theorem q_42 : (Jvm.Cond.initialized "GlacierYearsModel") ∈ g_tbl := g_mem 42 (by decide +kernel) (by decide +kernel)
theorem q_43 : (Jvm.Cond.initialized "java/util/Arrays") ∈ g_tbl := g_mem 43 (by decide +kernel) (by decide +kernel)
theorem q_44 : (Jvm.Cond.initialized "java/lang/System") ∈ g_tbl := g_mem 44 (by decide +kernel) (by decide +kernel)
theorem q_45 : (Jvm.Cond.initialized "java/lang/Math") ∈ g_tbl := g_mem 45 (by decide +kernel) (by decide +kernel)
theorem q_46 : (Jvm.Cond.classLink "GlacierYearsLaw" (7 : Nat) "GlacierYears") ∈ g_tbl := g_mem 46 (by decide +kernel) (by decide +kernel)
theorem q_47 : (Jvm.Cond.instantiable "GlacierYears" (10 : Nat)) ∈ g_tbl := g_mem 47 (by decide +kernel) (by decide +kernel)
theorem q_48 : (Jvm.Cond.methodLink "GlacierYearsLaw" (9 : Nat) ({ cls := "GlacierYears", name := "<init>", desc := "()V" } : Jvm.MethodName)) ∈ g_tbl := g_mem 48 (by decide +kernel) (by decide +kernel)
theorem q_49 : (Jvm.Cond.instanceMethod ({ cls := "GlacierYears", name := "<init>", desc := "()V" } : Jvm.MethodName)) ∈ g_tbl := g_mem 49 (by decide +kernel) (by decide +kernel)
theorem q_50 : (Jvm.Cond.code ({ cls := "GlacierYears", name := "<init>", desc := "()V" } : Jvm.MethodName) prog_1_method_1_code (2 : Nat) (Option.none : Option Jvm.ClassFile.FieldType)) ∈ g_tbl := g_mem 50 (by decide +kernel) (by decide +kernel)
theorem q_51 : (Jvm.Cond.methodLink "GlacierYears" (3 : Nat) ({ cls := "java/lang/Object", name := "<init>", desc := "()V" } : Jvm.MethodName)) ∈ g_tbl := g_mem 51 (by decide +kernel) (by decide +kernel)
theorem q_52 : (Jvm.Cond.instanceMethod ({ cls := "java/lang/Object", name := "<init>", desc := "()V" } : Jvm.MethodName)) ∈ g_tbl := g_mem 52 (by decide +kernel) (by decide +kernel)
theorem q_53 : (Jvm.Cond.code ({ cls := "java/lang/Object", name := "<init>", desc := "()V" } : Jvm.MethodName) object_method_1_code (1 : Nat) (Option.none : Option Jvm.ClassFile.FieldType)) ∈ g_tbl := g_mem 53 (by decide +kernel) (by decide +kernel)
theorem q_54 : (Jvm.Cond.classLink "GlacierYears" (9 : Nat) "GlacierYears$Strip") ∈ g_tbl := g_mem 54 (by decide +kernel) (by decide +kernel)
theorem q_56 : (Jvm.Cond.classLink "GlacierYears" (15 : Nat) "GlacierYears$Told") ∈ g_tbl := g_mem 56 (by decide +kernel) (by decide +kernel)
theorem q_57 : (Jvm.Cond.instantiable "GlacierYears$Told" (4 : Nat)) ∈ g_tbl := g_mem 57 (by decide +kernel) (by decide +kernel)
theorem q_59 : (Jvm.Cond.instanceMethod ({ cls := "GlacierYears$Told", name := "<init>", desc := "()V" } : Jvm.MethodName)) ∈ g_tbl := g_mem 59 (by decide +kernel) (by decide +kernel)
theorem q_60 : (Jvm.Cond.code ({ cls := "GlacierYears$Told", name := "<init>", desc := "()V" } : Jvm.MethodName) prog_6_method_1_code (1 : Nat) (Option.none : Option Jvm.ClassFile.FieldType)) ∈ g_tbl := g_mem 60 (by decide +kernel) (by decide +kernel)
theorem q_61 : (Jvm.Cond.methodLink "GlacierYears$Told" (3 : Nat) ({ cls := "java/lang/Object", name := "<init>", desc := "()V" } : Jvm.MethodName)) ∈ g_tbl := g_mem 61 (by decide +kernel) (by decide +kernel)
theorem q_62 : (Jvm.Cond.fieldLink "GlacierYears$Told" (9 : Nat) "GlacierYears$Told" "snow" "[I") ∈ g_tbl := g_mem 62 (by decide +kernel) (by decide +kernel)
theorem q_63 : (Jvm.Cond.fieldLink "GlacierYears" (150 : Nat) "GlacierYears$Told" "snow" "[I") ∈ g_tbl := g_mem 63 (by decide +kernel) (by decide +kernel)
theorem q_64 : (Jvm.Cond.fieldLink "GlacierYears$Told" (15 : Nat) "GlacierYears$Told" "melt" "[I") ∈ g_tbl := g_mem 64 (by decide +kernel) (by decide +kernel)
theorem q_65 : (Jvm.Cond.fieldLink "GlacierYears" (147 : Nat) "GlacierYears$Told" "melt" "[I") ∈ g_tbl := g_mem 65 (by decide +kernel) (by decide +kernel)
theorem q_66 : (Jvm.Cond.fieldLink "GlacierYears" (157 : Nat) "GlacierYears$Told" "fraction" "I") ∈ g_tbl := g_mem 66 (by decide +kernel) (by decide +kernel)
theorem q_67 : (Jvm.Cond.fieldLink "GlacierYears$Told" (18 : Nat) "GlacierYears$Told" "cap" "I") ∈ g_tbl := g_mem 67 (by decide +kernel) (by decide +kernel)
theorem q_68 : (Jvm.Cond.fieldLink "GlacierYears" (154 : Nat) "GlacierYears$Told" "cap" "I") ∈ g_tbl := g_mem 68 (by decide +kernel) (by decide +kernel)
theorem q_69 : (Jvm.Cond.laysFinal "GlacierYears$Told" "GlacierYears$Told" "snow" "[I") ∈ g_tbl := g_mem 69 (by decide +kernel) (by decide +kernel)
theorem q_71 : (Jvm.Cond.laysFinal "GlacierYears$Told" "GlacierYears$Told" "melt" "[I") ∈ g_tbl := g_mem 71 (by decide +kernel) (by decide +kernel)
theorem q_73 : (Jvm.Cond.lays "GlacierYears$Told" "GlacierYears$Told" "fraction" "I") ∈ g_tbl := g_mem 73 (by decide +kernel) (by decide +kernel)
theorem q_75 : (Jvm.Cond.lays "GlacierYears$Told" "GlacierYears$Told" "cap" "I") ∈ g_tbl := g_mem 75 (by decide +kernel) (by decide +kernel)
theorem q_78 : (Jvm.Cond.arrayClass Jvm.ClassFile.FieldType.int) ∈ g_tbl := g_mem 78 (by decide +kernel) (by decide +kernel)
theorem q_79 : (Jvm.Cond.classLink "GlacierYears" (22 : Nat) "GlacierYears$Land") ∈ g_tbl := g_mem 79 (by decide +kernel) (by decide +kernel)
theorem q_80 : (Jvm.Cond.instantiable "GlacierYears$Land" (7 : Nat)) ∈ g_tbl := g_mem 80 (by decide +kernel) (by decide +kernel)
theorem q_82 : (Jvm.Cond.instanceMethod ({ cls := "GlacierYears$Land", name := "<init>", desc := "()V" } : Jvm.MethodName)) ∈ g_tbl := g_mem 82 (by decide +kernel) (by decide +kernel)
theorem q_83 : (Jvm.Cond.code ({ cls := "GlacierYears$Land", name := "<init>", desc := "()V" } : Jvm.MethodName) prog_3_method_1_code (1 : Nat) (Option.none : Option Jvm.ClassFile.FieldType)) ∈ g_tbl := g_mem 83 (by decide +kernel) (by decide +kernel)
theorem q_84 : (Jvm.Cond.methodLink "GlacierYears$Land" (3 : Nat) ({ cls := "java/lang/Object", name := "<init>", desc := "()V" } : Jvm.MethodName)) ∈ g_tbl := g_mem 84 (by decide +kernel) (by decide +kernel)
theorem q_85 : (Jvm.Cond.fieldLink "GlacierYears$Land" (9 : Nat) "GlacierYears$Land" "levels" "[I") ∈ g_tbl := g_mem 85 (by decide +kernel) (by decide +kernel)
theorem q_86 : (Jvm.Cond.fieldLink "GlacierYears" (191 : Nat) "GlacierYears$Land" "levels" "[I") ∈ g_tbl := g_mem 86 (by decide +kernel) (by decide +kernel)
theorem q_87 : (Jvm.Cond.fieldLink "GlacierYears$Land" (15 : Nat) "GlacierYears$Land" "kinds" "[I") ∈ g_tbl := g_mem 87 (by decide +kernel) (by decide +kernel)
theorem q_88 : (Jvm.Cond.fieldLink "GlacierYears" (136 : Nat) "GlacierYears$Land" "kinds" "[I") ∈ g_tbl := g_mem 88 (by decide +kernel) (by decide +kernel)
theorem q_89 : (Jvm.Cond.fieldLink "GlacierYears$Land" (18 : Nat) "GlacierYears$Land" "hundredths" "[I") ∈ g_tbl := g_mem 89 (by decide +kernel) (by decide +kernel)
theorem q_90 : (Jvm.Cond.fieldLink "GlacierYears" (140 : Nat) "GlacierYears$Land" "hundredths" "[I") ∈ g_tbl := g_mem 90 (by decide +kernel) (by decide +kernel)
theorem q_91 : (Jvm.Cond.fieldLink "GlacierYears$Land" (21 : Nat) "GlacierYears$Land" "open" "[I") ∈ g_tbl := g_mem 91 (by decide +kernel) (by decide +kernel)
theorem q_92 : (Jvm.Cond.fieldLink "GlacierYears" (276 : Nat) "GlacierYears$Land" "open" "[I") ∈ g_tbl := g_mem 92 (by decide +kernel) (by decide +kernel)
theorem q_93 : (Jvm.Cond.fieldLink "GlacierYears$Land" (35 : Nat) "GlacierYears$Land" "openCells" "I") ∈ g_tbl := g_mem 93 (by decide +kernel) (by decide +kernel)
theorem q_94 : (Jvm.Cond.fieldLink "GlacierYears" (273 : Nat) "GlacierYears$Land" "openCells" "I") ∈ g_tbl := g_mem 94 (by decide +kernel) (by decide +kernel)
theorem q_95 : (Jvm.Cond.fieldLink "GlacierYears$Land" (24 : Nat) "GlacierYears$Land" "width" "I") ∈ g_tbl := g_mem 95 (by decide +kernel) (by decide +kernel)
theorem q_96 : (Jvm.Cond.fieldLink "GlacierYears" (249 : Nat) "GlacierYears$Land" "width" "I") ∈ g_tbl := g_mem 96 (by decide +kernel) (by decide +kernel)
theorem q_97 : (Jvm.Cond.fieldLink "GlacierYears$Land" (28 : Nat) "GlacierYears$Land" "height" "I") ∈ g_tbl := g_mem 97 (by decide +kernel) (by decide +kernel)
theorem q_98 : (Jvm.Cond.fieldLink "GlacierYears" (252 : Nat) "GlacierYears$Land" "height" "I") ∈ g_tbl := g_mem 98 (by decide +kernel) (by decide +kernel)
theorem q_99 : (Jvm.Cond.laysFinal "GlacierYears$Land" "GlacierYears$Land" "levels" "[I") ∈ g_tbl := g_mem 99 (by decide +kernel) (by decide +kernel)
theorem q_101 : (Jvm.Cond.laysFinal "GlacierYears$Land" "GlacierYears$Land" "kinds" "[I") ∈ g_tbl := g_mem 101 (by decide +kernel) (by decide +kernel)
theorem q_103 : (Jvm.Cond.laysFinal "GlacierYears$Land" "GlacierYears$Land" "hundredths" "[I") ∈ g_tbl := g_mem 103 (by decide +kernel) (by decide +kernel)
theorem q_105 : (Jvm.Cond.laysFinal "GlacierYears$Land" "GlacierYears$Land" "open" "[I") ∈ g_tbl := g_mem 105 (by decide +kernel) (by decide +kernel)
theorem q_107 : (Jvm.Cond.lays "GlacierYears$Land" "GlacierYears$Land" "openCells" "I") ∈ g_tbl := g_mem 107 (by decide +kernel) (by decide +kernel)
theorem q_109 : (Jvm.Cond.lays "GlacierYears$Land" "GlacierYears$Land" "width" "I") ∈ g_tbl := g_mem 109 (by decide +kernel) (by decide +kernel)
theorem q_111 : (Jvm.Cond.lays "GlacierYears$Land" "GlacierYears$Land" "height" "I") ∈ g_tbl := g_mem 111 (by decide +kernel) (by decide +kernel)
theorem q_114 : (Jvm.Cond.classLink "GlacierYears" (29 : Nat) "GlacierYears$Ice") ∈ g_tbl := g_mem 114 (by decide +kernel) (by decide +kernel)
theorem q_115 : (Jvm.Cond.instantiable "GlacierYears$Ice" (4 : Nat)) ∈ g_tbl := g_mem 115 (by decide +kernel) (by decide +kernel)
theorem q_117 : (Jvm.Cond.instanceMethod ({ cls := "GlacierYears$Ice", name := "<init>", desc := "()V" } : Jvm.MethodName)) ∈ g_tbl := g_mem 117 (by decide +kernel) (by decide +kernel)
theorem q_118 : (Jvm.Cond.code ({ cls := "GlacierYears$Ice", name := "<init>", desc := "()V" } : Jvm.MethodName) prog_2_method_1_code (1 : Nat) (Option.none : Option Jvm.ClassFile.FieldType)) ∈ g_tbl := g_mem 118 (by decide +kernel) (by decide +kernel)
theorem q_119 : (Jvm.Cond.methodLink "GlacierYears$Ice" (3 : Nat) ({ cls := "java/lang/Object", name := "<init>", desc := "()V" } : Jvm.MethodName)) ∈ g_tbl := g_mem 119 (by decide +kernel) (by decide +kernel)
theorem q_120 : (Jvm.Cond.fieldLink "GlacierYears$Ice" (9 : Nat) "GlacierYears$Ice" "grains" "[J") ∈ g_tbl := g_mem 120 (by decide +kernel) (by decide +kernel)
theorem q_121 : (Jvm.Cond.fieldLink "GlacierYears" (207 : Nat) "GlacierYears$Ice" "grains" "[J") ∈ g_tbl := g_mem 121 (by decide +kernel) (by decide +kernel)
theorem q_122 : (Jvm.Cond.fieldLink "GlacierYears$Ice" (15 : Nat) "GlacierYears$Ice" "thicknesses" "[J") ∈ g_tbl := g_mem 122 (by decide +kernel) (by decide +kernel)
theorem q_123 : (Jvm.Cond.fieldLink "GlacierYears" (168 : Nat) "GlacierYears$Ice" "thicknesses" "[J") ∈ g_tbl := g_mem 123 (by decide +kernel) (by decide +kernel)
theorem q_124 : (Jvm.Cond.fieldLink "GlacierYears$Ice" (18 : Nat) "GlacierYears$Ice" "tallies" "[J") ∈ g_tbl := g_mem 124 (by decide +kernel) (by decide +kernel)
theorem q_125 : (Jvm.Cond.fieldLink "GlacierYears" (217 : Nat) "GlacierYears$Ice" "tallies" "[J") ∈ g_tbl := g_mem 125 (by decide +kernel) (by decide +kernel)
theorem q_126 : (Jvm.Cond.fieldLink "GlacierYears$Ice" (21 : Nat) "GlacierYears$Ice" "year" "I") ∈ g_tbl := g_mem 126 (by decide +kernel) (by decide +kernel)
theorem q_127 : (Jvm.Cond.fieldLink "GlacierYears" (160 : Nat) "GlacierYears$Ice" "year" "I") ∈ g_tbl := g_mem 127 (by decide +kernel) (by decide +kernel)
theorem q_128 : (Jvm.Cond.laysFinal "GlacierYears$Ice" "GlacierYears$Ice" "grains" "[J") ∈ g_tbl := g_mem 128 (by decide +kernel) (by decide +kernel)
theorem q_130 : (Jvm.Cond.laysFinal "GlacierYears$Ice" "GlacierYears$Ice" "thicknesses" "[J") ∈ g_tbl := g_mem 130 (by decide +kernel) (by decide +kernel)
theorem q_132 : (Jvm.Cond.laysFinal "GlacierYears$Ice" "GlacierYears$Ice" "tallies" "[J") ∈ g_tbl := g_mem 132 (by decide +kernel) (by decide +kernel)
theorem q_134 : (Jvm.Cond.lays "GlacierYears$Ice" "GlacierYears$Ice" "year" "I") ∈ g_tbl := g_mem 134 (by decide +kernel) (by decide +kernel)
theorem q_137 : (Jvm.Cond.arrayClass Jvm.ClassFile.FieldType.long) ∈ g_tbl := g_mem 137 (by decide +kernel) (by decide +kernel)
theorem q_138 : (Jvm.Cond.classLink "GlacierYears" (36 : Nat) "GlacierYears$Past") ∈ g_tbl := g_mem 138 (by decide +kernel) (by decide +kernel)
theorem q_139 : (Jvm.Cond.instantiable "GlacierYears$Past" (3 : Nat)) ∈ g_tbl := g_mem 139 (by decide +kernel) (by decide +kernel)
theorem q_140 : (Jvm.Cond.methodLink "GlacierYears" (38 : Nat) ({ cls := "GlacierYears$Past", name := "<init>", desc := "()V" } : Jvm.MethodName)) ∈ g_tbl := g_mem 140 (by decide +kernel) (by decide +kernel)
theorem q_141 : (Jvm.Cond.instanceMethod ({ cls := "GlacierYears$Past", name := "<init>", desc := "()V" } : Jvm.MethodName)) ∈ g_tbl := g_mem 141 (by decide +kernel) (by decide +kernel)
theorem q_142 : (Jvm.Cond.code ({ cls := "GlacierYears$Past", name := "<init>", desc := "()V" } : Jvm.MethodName) prog_4_method_1_code (2 : Nat) (Option.none : Option Jvm.ClassFile.FieldType)) ∈ g_tbl := g_mem 142 (by decide +kernel) (by decide +kernel)
theorem q_143 : (Jvm.Cond.methodLink "GlacierYears$Past" (3 : Nat) ({ cls := "java/lang/Object", name := "<init>", desc := "()V" } : Jvm.MethodName)) ∈ g_tbl := g_mem 143 (by decide +kernel) (by decide +kernel)
theorem q_144 : (Jvm.Cond.classLink "GlacierYears$Past" (9 : Nat) "GlacierYears$Ice") ∈ g_tbl := g_mem 144 (by decide +kernel) (by decide +kernel)
theorem q_147 : (Jvm.Cond.fieldLink "GlacierYears$Past" (11 : Nat) "GlacierYears$Past" "ring" "[LGlacierYears$Ice;") ∈ g_tbl := g_mem 147 (by decide +kernel) (by decide +kernel)
theorem q_148 : (Jvm.Cond.fieldLink "GlacierYears$Past" (18 : Nat) "GlacierYears$Past" "next" "I") ∈ g_tbl := g_mem 148 (by decide +kernel) (by decide +kernel)
theorem q_149 : (Jvm.Cond.fieldLink "GlacierYears$Past" (26 : Nat) "GlacierYears$Past" "kept" "I") ∈ g_tbl := g_mem 149 (by decide +kernel) (by decide +kernel)
theorem q_150 : (Jvm.Cond.fieldLink "GlacierYears" (177 : Nat) "GlacierYears$Past" "kept" "I") ∈ g_tbl := g_mem 150 (by decide +kernel) (by decide +kernel)
theorem q_151 : (Jvm.Cond.laysFinal "GlacierYears$Past" "GlacierYears$Past" "ring" "[LGlacierYears$Ice;") ∈ g_tbl := g_mem 151 (by decide +kernel) (by decide +kernel)
theorem q_153 : (Jvm.Cond.lays "GlacierYears$Past" "GlacierYears$Past" "next" "I") ∈ g_tbl := g_mem 153 (by decide +kernel) (by decide +kernel)
theorem q_155 : (Jvm.Cond.lays "GlacierYears$Past" "GlacierYears$Past" "kept" "I") ∈ g_tbl := g_mem 155 (by decide +kernel) (by decide +kernel)
theorem q_158 : (Jvm.Cond.instantiable "GlacierYears$Strip" (4 : Nat)) ∈ g_tbl := g_mem 158 (by decide +kernel) (by decide +kernel)
theorem q_160 : (Jvm.Cond.instanceMethod ({ cls := "GlacierYears$Strip", name := "<init>", desc := "()V" } : Jvm.MethodName)) ∈ g_tbl := g_mem 160 (by decide +kernel) (by decide +kernel)
theorem q_161 : (Jvm.Cond.code ({ cls := "GlacierYears$Strip", name := "<init>", desc := "()V" } : Jvm.MethodName) prog_5_method_1_code (1 : Nat) (Option.none : Option Jvm.ClassFile.FieldType)) ∈ g_tbl := g_mem 161 (by decide +kernel) (by decide +kernel)
theorem q_162 : (Jvm.Cond.methodLink "GlacierYears$Strip" (3 : Nat) ({ cls := "java/lang/Object", name := "<init>", desc := "()V" } : Jvm.MethodName)) ∈ g_tbl := g_mem 162 (by decide +kernel) (by decide +kernel)
theorem q_163 : (Jvm.Cond.fieldLink "GlacierYears$Strip" (9 : Nat) "GlacierYears$Strip" "places" "[J") ∈ g_tbl := g_mem 163 (by decide +kernel) (by decide +kernel)
theorem q_164 : (Jvm.Cond.fieldLink "GlacierYears" (94 : Nat) "GlacierYears$Strip" "places" "[J") ∈ g_tbl := g_mem 164 (by decide +kernel) (by decide +kernel)
theorem q_165 : (Jvm.Cond.fieldLink "GlacierYears$Strip" (15 : Nat) "GlacierYears$Strip" "missing" "Z") ∈ g_tbl := g_mem 165 (by decide +kernel) (by decide +kernel)
theorem q_166 : (Jvm.Cond.fieldLink "GlacierYears" (72 : Nat) "GlacierYears$Strip" "missing" "Z") ∈ g_tbl := g_mem 166 (by decide +kernel) (by decide +kernel)
theorem q_167 : (Jvm.Cond.fieldLink "GlacierYears$Strip" (19 : Nat) "GlacierYears$Strip" "lane" "I") ∈ g_tbl := g_mem 167 (by decide +kernel) (by decide +kernel)
theorem q_168 : (Jvm.Cond.fieldLink "GlacierYears" (90 : Nat) "GlacierYears$Strip" "lane" "I") ∈ g_tbl := g_mem 168 (by decide +kernel) (by decide +kernel)
theorem q_169 : (Jvm.Cond.fieldLink "GlacierYears$Strip" (23 : Nat) "GlacierYears$Strip" "length" "I") ∈ g_tbl := g_mem 169 (by decide +kernel) (by decide +kernel)
theorem q_170 : (Jvm.Cond.laysFinal "GlacierYears$Strip" "GlacierYears$Strip" "places" "[J") ∈ g_tbl := g_mem 170 (by decide +kernel) (by decide +kernel)
theorem q_172 : (Jvm.Cond.lays "GlacierYears$Strip" "GlacierYears$Strip" "missing" "Z") ∈ g_tbl := g_mem 172 (by decide +kernel) (by decide +kernel)
theorem q_174 : (Jvm.Cond.lays "GlacierYears$Strip" "GlacierYears$Strip" "lane" "I") ∈ g_tbl := g_mem 174 (by decide +kernel) (by decide +kernel)
theorem q_176 : (Jvm.Cond.lays "GlacierYears$Strip" "GlacierYears$Strip" "length" "I") ∈ g_tbl := g_mem 176 (by decide +kernel) (by decide +kernel)
theorem q_179 : (Jvm.Cond.fieldLink "GlacierYears" (11 : Nat) "GlacierYears" "strips" "[LGlacierYears$Strip;") ∈ g_tbl := g_mem 179 (by decide +kernel) (by decide +kernel)
theorem q_180 : (Jvm.Cond.fieldLink "GlacierYears" (18 : Nat) "GlacierYears" "told" "LGlacierYears$Told;") ∈ g_tbl := g_mem 180 (by decide +kernel) (by decide +kernel)
theorem q_181 : (Jvm.Cond.fieldLink "GlacierYears" (25 : Nat) "GlacierYears" "land" "LGlacierYears$Land;") ∈ g_tbl := g_mem 181 (by decide +kernel) (by decide +kernel)
theorem q_182 : (Jvm.Cond.fieldLink "GlacierYears" (32 : Nat) "GlacierYears" "ice" "LGlacierYears$Ice;") ∈ g_tbl := g_mem 182 (by decide +kernel) (by decide +kernel)
theorem q_183 : (Jvm.Cond.fieldLink "GlacierYears" (39 : Nat) "GlacierYears" "past" "LGlacierYears$Past;") ∈ g_tbl := g_mem 183 (by decide +kernel) (by decide +kernel)
theorem q_184 : (Jvm.Cond.fieldLink "GlacierYears" (43 : Nat) "GlacierYears" "oldLand" "LGlacierYears$Land;") ∈ g_tbl := g_mem 184 (by decide +kernel) (by decide +kernel)
theorem q_185 : (Jvm.Cond.fieldLink "GlacierYears" (46 : Nat) "GlacierYears" "oldIce" "LGlacierYears$Ice;") ∈ g_tbl := g_mem 185 (by decide +kernel) (by decide +kernel)
theorem q_186 : (Jvm.Cond.fieldLink "GlacierYears" (49 : Nat) "GlacierYears" "gifts" "[J") ∈ g_tbl := g_mem 186 (by decide +kernel) (by decide +kernel)
theorem q_187 : (Jvm.Cond.fieldLink "GlacierYears" (53 : Nat) "GlacierYears" "seen" "[J") ∈ g_tbl := g_mem 187 (by decide +kernel) (by decide +kernel)
theorem q_188 : (Jvm.Cond.fieldLink "GlacierYears" (255 : Nat) "GlacierYears" "failures" "I") ∈ g_tbl := g_mem 188 (by decide +kernel) (by decide +kernel)
theorem q_189 : (Jvm.Cond.laysFinal "GlacierYears" "GlacierYears" "strips" "[LGlacierYears$Strip;") ∈ g_tbl := g_mem 189 (by decide +kernel) (by decide +kernel)
theorem q_191 : (Jvm.Cond.laysFinal "GlacierYears" "GlacierYears" "told" "LGlacierYears$Told;") ∈ g_tbl := g_mem 191 (by decide +kernel) (by decide +kernel)
theorem q_193 : (Jvm.Cond.laysFinal "GlacierYears" "GlacierYears" "land" "LGlacierYears$Land;") ∈ g_tbl := g_mem 193 (by decide +kernel) (by decide +kernel)
theorem q_195 : (Jvm.Cond.laysFinal "GlacierYears" "GlacierYears" "ice" "LGlacierYears$Ice;") ∈ g_tbl := g_mem 195 (by decide +kernel) (by decide +kernel)
theorem q_197 : (Jvm.Cond.laysFinal "GlacierYears" "GlacierYears" "past" "LGlacierYears$Past;") ∈ g_tbl := g_mem 197 (by decide +kernel) (by decide +kernel)
theorem q_199 : (Jvm.Cond.laysFinal "GlacierYears" "GlacierYears" "oldLand" "LGlacierYears$Land;") ∈ g_tbl := g_mem 199 (by decide +kernel) (by decide +kernel)
theorem q_201 : (Jvm.Cond.laysFinal "GlacierYears" "GlacierYears" "oldIce" "LGlacierYears$Ice;") ∈ g_tbl := g_mem 201 (by decide +kernel) (by decide +kernel)
theorem q_203 : (Jvm.Cond.laysFinal "GlacierYears" "GlacierYears" "gifts" "[J") ∈ g_tbl := g_mem 203 (by decide +kernel) (by decide +kernel)
theorem q_205 : (Jvm.Cond.laysFinal "GlacierYears" "GlacierYears" "seen" "[J") ∈ g_tbl := g_mem 205 (by decide +kernel) (by decide +kernel)
theorem q_207 : (Jvm.Cond.lays "GlacierYears" "GlacierYears" "failures" "I") ∈ g_tbl := g_mem 207 (by decide +kernel) (by decide +kernel)
theorem q_210 : (Jvm.Cond.methodLink "GlacierYearsLaw" (13 : Nat) ({ cls := "GlacierYears", name := "strip", desc := "(III)I" } : Jvm.MethodName)) ∈ g_tbl := g_mem 210 (by decide +kernel) (by decide +kernel)
theorem q_211 : (Jvm.Cond.instanceMethod ({ cls := "GlacierYears", name := "strip", desc := "(III)I" } : Jvm.MethodName)) ∈ g_tbl := g_mem 211 (by decide +kernel) (by decide +kernel)
theorem q_212 : (Jvm.Cond.selects "GlacierYears" ({ cls := "GlacierYears", name := "strip", desc := "(III)I" } : Jvm.MethodName) ({ cls := "GlacierYears", name := "strip", desc := "(III)I" } : Jvm.MethodName)) ∈ g_tbl := g_mem 212 (by decide +kernel) (by decide +kernel)
theorem q_213 : (Jvm.Cond.code ({ cls := "GlacierYears", name := "strip", desc := "(III)I" } : Jvm.MethodName) prog_1_method_2_code (4 : Nat) (Option.some Jvm.ClassFile.FieldType.int)) ∈ g_tbl := g_mem 213 (by decide +kernel) (by decide +kernel)
theorem q_214 : (Jvm.Cond.methodLink "GlacierYears" (57 : Nat) ({ cls := "GlacierYears", name := "isStrip", desc := "(I)Z" } : Jvm.MethodName)) ∈ g_tbl := g_mem 214 (by decide +kernel) (by decide +kernel)
theorem q_215 : (Jvm.Cond.static ({ cls := "GlacierYears", name := "isStrip", desc := "(I)Z" } : Jvm.MethodName)) ∈ g_tbl := g_mem 215 (by decide +kernel) (by decide +kernel)
theorem q_216 : (Jvm.Cond.code ({ cls := "GlacierYears", name := "isStrip", desc := "(I)Z" } : Jvm.MethodName) prog_1_method_24_code (1 : Nat) (Option.some Jvm.ClassFile.FieldType.boolean)) ∈ g_tbl := g_mem 216 (by decide +kernel) (by decide +kernel)
theorem q_217 : (Jvm.Cond.methodLink "GlacierYears" (61 : Nat) ({ cls := "GlacierYears", name := "isLane", desc := "(I)Z" } : Jvm.MethodName)) ∈ g_tbl := g_mem 217 (by decide +kernel) (by decide +kernel)
theorem q_218 : (Jvm.Cond.static ({ cls := "GlacierYears", name := "isLane", desc := "(I)Z" } : Jvm.MethodName)) ∈ g_tbl := g_mem 218 (by decide +kernel) (by decide +kernel)
theorem q_219 : (Jvm.Cond.code ({ cls := "GlacierYears", name := "isLane", desc := "(I)Z" } : Jvm.MethodName) prog_1_method_25_code (1 : Nat) (Option.some Jvm.ClassFile.FieldType.boolean)) ∈ g_tbl := g_mem 219 (by decide +kernel) (by decide +kernel)
theorem q_220 : (Jvm.Cond.methodLink "GlacierYears" (64 : Nat) ({ cls := "GlacierYears", name := "fail", desc := "(I)I" } : Jvm.MethodName)) ∈ g_tbl := g_mem 220 (by decide +kernel) (by decide +kernel)
theorem q_222 : (Jvm.Cond.instanceMethod ({ cls := "GlacierYears", name := "fail", desc := "(I)I" } : Jvm.MethodName)) ∈ g_tbl := g_mem 222 (by decide +kernel) (by decide +kernel)
theorem q_223 : (Jvm.Cond.code ({ cls := "GlacierYears", name := "fail", desc := "(I)I" } : Jvm.MethodName) prog_1_method_23_code (2 : Nat) (Option.some Jvm.ClassFile.FieldType.int)) ∈ g_tbl := g_mem 223 (by decide +kernel) (by decide +kernel)
theorem q_224 : (Jvm.Cond.methodLink "GlacierYears" (68 : Nat) ({ cls := "GlacierYears$Strip", name := "begin", desc := "(II)V" } : Jvm.MethodName)) ∈ g_tbl := g_mem 224 (by decide +kernel) (by decide +kernel)
theorem q_225 : (Jvm.Cond.instanceMethod ({ cls := "GlacierYears$Strip", name := "begin", desc := "(II)V" } : Jvm.MethodName)) ∈ g_tbl := g_mem 225 (by decide +kernel) (by decide +kernel)
theorem q_226 : (Jvm.Cond.selects "GlacierYears$Strip" ({ cls := "GlacierYears$Strip", name := "begin", desc := "(II)V" } : Jvm.MethodName) ({ cls := "GlacierYears$Strip", name := "begin", desc := "(II)V" } : Jvm.MethodName)) ∈ g_tbl := g_mem 226 (by decide +kernel) (by decide +kernel)
theorem q_227 : (Jvm.Cond.code ({ cls := "GlacierYears$Strip", name := "begin", desc := "(II)V" } : Jvm.MethodName) prog_5_method_2_code (3 : Nat) (Option.none : Option Jvm.ClassFile.FieldType)) ∈ g_tbl := g_mem 227 (by decide +kernel) (by decide +kernel)
theorem q_228 : (Jvm.Cond.methodLink "GlacierYears$Strip" (26 : Nat) ({ cls := "java/util/Arrays", name := "fill", desc := "([JJ)V" } : Jvm.MethodName)) ∈ g_tbl := g_mem 228 (by decide +kernel) (by decide +kernel)
theorem q_229 : (Jvm.Cond.static ({ cls := "java/util/Arrays", name := "fill", desc := "([JJ)V" } : Jvm.MethodName)) ∈ g_tbl := g_mem 229 (by decide +kernel) (by decide +kernel)
theorem q_230 : (Jvm.Cond.code ({ cls := "java/util/Arrays", name := "fill", desc := "([JJ)V" } : Jvm.MethodName) prog_11_method_101_code (5 : Nat) (Option.none : Option Jvm.ClassFile.FieldType)) ∈ g_tbl := g_mem 230 (by decide +kernel) (by decide +kernel)
theorem q_231 : (Jvm.Cond.methodLink "GlacierYearsLaw" (18 : Nat) ({ cls := "GlacierYears", name := "tear", desc := "(I)I" } : Jvm.MethodName)) ∈ g_tbl := g_mem 231 (by decide +kernel) (by decide +kernel)
theorem q_232 : (Jvm.Cond.instanceMethod ({ cls := "GlacierYears", name := "tear", desc := "(I)I" } : Jvm.MethodName)) ∈ g_tbl := g_mem 232 (by decide +kernel) (by decide +kernel)
theorem q_233 : (Jvm.Cond.selects "GlacierYears" ({ cls := "GlacierYears", name := "tear", desc := "(I)I" } : Jvm.MethodName) ({ cls := "GlacierYears", name := "tear", desc := "(I)I" } : Jvm.MethodName)) ∈ g_tbl := g_mem 233 (by decide +kernel) (by decide +kernel)
theorem q_234 : (Jvm.Cond.code ({ cls := "GlacierYears", name := "tear", desc := "(I)I" } : Jvm.MethodName) prog_1_method_3_code (3 : Nat) (Option.some Jvm.ClassFile.FieldType.int)) ∈ g_tbl := g_mem 234 (by decide +kernel) (by decide +kernel)
theorem q_235 : (Jvm.Cond.methodLink "GlacierYears" (76 : Nat) ({ cls := "GlacierYears$Strip", name := "end", desc := "()V" } : Jvm.MethodName)) ∈ g_tbl := g_mem 235 (by decide +kernel) (by decide +kernel)
theorem q_236 : (Jvm.Cond.instanceMethod ({ cls := "GlacierYears$Strip", name := "end", desc := "()V" } : Jvm.MethodName)) ∈ g_tbl := g_mem 236 (by decide +kernel) (by decide +kernel)
theorem q_237 : (Jvm.Cond.selects "GlacierYears$Strip" ({ cls := "GlacierYears$Strip", name := "end", desc := "()V" } : Jvm.MethodName) ({ cls := "GlacierYears$Strip", name := "end", desc := "()V" } : Jvm.MethodName)) ∈ g_tbl := g_mem 237 (by decide +kernel) (by decide +kernel)
theorem q_238 : (Jvm.Cond.code ({ cls := "GlacierYears$Strip", name := "end", desc := "()V" } : Jvm.MethodName) prog_5_method_3_code (1 : Nat) (Option.none : Option Jvm.ClassFile.FieldType)) ∈ g_tbl := g_mem 238 (by decide +kernel) (by decide +kernel)
theorem q_239 : (Jvm.Cond.methodLink "GlacierYearsLaw" (25 : Nat) ({ cls := "GlacierYears", name := "put", desc := "(IIJ)I" } : Jvm.MethodName)) ∈ g_tbl := g_mem 239 (by decide +kernel) (by decide +kernel)
theorem q_240 : (Jvm.Cond.instanceMethod ({ cls := "GlacierYears", name := "put", desc := "(IIJ)I" } : Jvm.MethodName)) ∈ g_tbl := g_mem 240 (by decide +kernel) (by decide +kernel)
theorem q_241 : (Jvm.Cond.selects "GlacierYears" ({ cls := "GlacierYears", name := "put", desc := "(IIJ)I" } : Jvm.MethodName) ({ cls := "GlacierYears", name := "put", desc := "(IIJ)I" } : Jvm.MethodName)) ∈ g_tbl := g_mem 241 (by decide +kernel) (by decide +kernel)
theorem q_242 : (Jvm.Cond.code ({ cls := "GlacierYears", name := "put", desc := "(IIJ)I" } : Jvm.MethodName) prog_1_method_4_code (6 : Nat) (Option.some Jvm.ClassFile.FieldType.int)) ∈ g_tbl := g_mem 242 (by decide +kernel) (by decide +kernel)
theorem q_243 : (Jvm.Cond.methodLink "GlacierYears" (79 : Nat) ({ cls := "GlacierYears$Strip", name := "has", desc := "(I)Z" } : Jvm.MethodName)) ∈ g_tbl := g_mem 243 (by decide +kernel) (by decide +kernel)
theorem q_244 : (Jvm.Cond.instanceMethod ({ cls := "GlacierYears$Strip", name := "has", desc := "(I)Z" } : Jvm.MethodName)) ∈ g_tbl := g_mem 244 (by decide +kernel) (by decide +kernel)
theorem q_245 : (Jvm.Cond.selects "GlacierYears$Strip" ({ cls := "GlacierYears$Strip", name := "has", desc := "(I)Z" } : Jvm.MethodName) ({ cls := "GlacierYears$Strip", name := "has", desc := "(I)Z" } : Jvm.MethodName)) ∈ g_tbl := g_mem 245 (by decide +kernel) (by decide +kernel)
theorem q_246 : (Jvm.Cond.code ({ cls := "GlacierYears$Strip", name := "has", desc := "(I)Z" } : Jvm.MethodName) prog_5_method_4_code (2 : Nat) (Option.some Jvm.ClassFile.FieldType.boolean)) ∈ g_tbl := g_mem 246 (by decide +kernel) (by decide +kernel)
theorem q_247 : (Jvm.Cond.methodLink "GlacierYears" (82 : Nat) ({ cls := "GlacierYears$Strip", name := "store", desc := "(IJ)V" } : Jvm.MethodName)) ∈ g_tbl := g_mem 247 (by decide +kernel) (by decide +kernel)
theorem q_248 : (Jvm.Cond.instanceMethod ({ cls := "GlacierYears$Strip", name := "store", desc := "(IJ)V" } : Jvm.MethodName)) ∈ g_tbl := g_mem 248 (by decide +kernel) (by decide +kernel)
theorem q_249 : (Jvm.Cond.selects "GlacierYears$Strip" ({ cls := "GlacierYears$Strip", name := "store", desc := "(IJ)V" } : Jvm.MethodName) ({ cls := "GlacierYears$Strip", name := "store", desc := "(IJ)V" } : Jvm.MethodName)) ∈ g_tbl := g_mem 249 (by decide +kernel) (by decide +kernel)
theorem q_250 : (Jvm.Cond.code ({ cls := "GlacierYears$Strip", name := "store", desc := "(IJ)V" } : Jvm.MethodName) prog_5_method_6_code (4 : Nat) (Option.none : Option Jvm.ClassFile.FieldType)) ∈ g_tbl := g_mem 250 (by decide +kernel) (by decide +kernel)
theorem q_251 : (Jvm.Cond.methodLink "GlacierYearsLaw" (30 : Nat) ({ cls := "GlacierYears", name := "at", desc := "(III)J" } : Jvm.MethodName)) ∈ g_tbl := g_mem 251 (by decide +kernel) (by decide +kernel)
theorem q_252 : (Jvm.Cond.instanceMethod ({ cls := "GlacierYears", name := "at", desc := "(III)J" } : Jvm.MethodName)) ∈ g_tbl := g_mem 252 (by decide +kernel) (by decide +kernel)
theorem q_253 : (Jvm.Cond.selects "GlacierYears" ({ cls := "GlacierYears", name := "at", desc := "(III)J" } : Jvm.MethodName) ({ cls := "GlacierYears", name := "at", desc := "(III)J" } : Jvm.MethodName)) ∈ g_tbl := g_mem 253 (by decide +kernel) (by decide +kernel)
theorem q_254 : (Jvm.Cond.code ({ cls := "GlacierYears", name := "at", desc := "(III)J" } : Jvm.MethodName) prog_1_method_5_code (5 : Nat) (Option.some Jvm.ClassFile.FieldType.long)) ∈ g_tbl := g_mem 254 (by decide +kernel) (by decide +kernel)
theorem q_255 : (Jvm.Cond.constantLong "GlacierYears" (86 : Nat) (-1 : Int64)) ∈ g_tbl := g_mem 255 (by decide +kernel) (by decide +kernel)
theorem q_256 : (Jvm.Cond.constantLong "GlacierYears" (88 : Nat) (-2 : Int64)) ∈ g_tbl := g_mem 256 (by decide +kernel) (by decide +kernel)
theorem q_257 : (Jvm.Cond.methodLink "GlacierYearsLaw" (35 : Nat) ({ cls := "GlacierYears", name := "copy", desc := "(IIIII)I" } : Jvm.MethodName)) ∈ g_tbl := g_mem 257 (by decide +kernel) (by decide +kernel)
theorem q_258 : (Jvm.Cond.instanceMethod ({ cls := "GlacierYears", name := "copy", desc := "(IIIII)I" } : Jvm.MethodName)) ∈ g_tbl := g_mem 258 (by decide +kernel) (by decide +kernel)
theorem q_259 : (Jvm.Cond.selects "GlacierYears" ({ cls := "GlacierYears", name := "copy", desc := "(IIIII)I" } : Jvm.MethodName) ({ cls := "GlacierYears", name := "copy", desc := "(IIIII)I" } : Jvm.MethodName)) ∈ g_tbl := g_mem 259 (by decide +kernel) (by decide +kernel)
theorem q_260 : (Jvm.Cond.code ({ cls := "GlacierYears", name := "copy", desc := "(IIIII)I" } : Jvm.MethodName) prog_1_method_6_code (8 : Nat) (Option.some Jvm.ClassFile.FieldType.int)) ∈ g_tbl := g_mem 260 (by decide +kernel) (by decide +kernel)
theorem q_261 : (Jvm.Cond.methodLink "GlacierYears" (97 : Nat) ({ cls := "GlacierYears$Strip", name := "hasAll", desc := "(II)Z" } : Jvm.MethodName)) ∈ g_tbl := g_mem 261 (by decide +kernel) (by decide +kernel)
theorem q_262 : (Jvm.Cond.instanceMethod ({ cls := "GlacierYears$Strip", name := "hasAll", desc := "(II)Z" } : Jvm.MethodName)) ∈ g_tbl := g_mem 262 (by decide +kernel) (by decide +kernel)
theorem q_263 : (Jvm.Cond.selects "GlacierYears$Strip" ({ cls := "GlacierYears$Strip", name := "hasAll", desc := "(II)Z" } : Jvm.MethodName) ({ cls := "GlacierYears$Strip", name := "hasAll", desc := "(II)Z" } : Jvm.MethodName)) ∈ g_tbl := g_mem 263 (by decide +kernel) (by decide +kernel)
theorem q_264 : (Jvm.Cond.code ({ cls := "GlacierYears$Strip", name := "hasAll", desc := "(II)Z" } : Jvm.MethodName) prog_5_method_5_code (3 : Nat) (Option.some Jvm.ClassFile.FieldType.boolean)) ∈ g_tbl := g_mem 264 (by decide +kernel) (by decide +kernel)
theorem q_265 : (Jvm.Cond.methodLink "GlacierYears" (101 : Nat) ({ cls := "java/lang/System", name := "arraycopy", desc := "(Ljava/lang/Object;ILjava/lang/Object;II)V" } : Jvm.MethodName)) ∈ g_tbl := g_mem 265 (by decide +kernel) (by decide +kernel)
theorem q_266 : (Jvm.Cond.static ({ cls := "java/lang/System", name := "arraycopy", desc := "(Ljava/lang/Object;ILjava/lang/Object;II)V" } : Jvm.MethodName)) ∈ g_tbl := g_mem 266 (by decide +kernel) (by decide +kernel)
theorem q_267 : (Jvm.Cond.native ({ cls := "java/lang/System", name := "arraycopy", desc := "(Ljava/lang/Object;ILjava/lang/Object;II)V" } : Jvm.MethodName)) ∈ g_tbl := g_mem 267 (by decide +kernel) (by decide +kernel)
theorem q_268 : (Jvm.Cond.methodLink "GlacierYearsLaw" (40 : Nat) ({ cls := "GlacierYears", name := "ground", desc := "(II)I" } : Jvm.MethodName)) ∈ g_tbl := g_mem 268 (by decide +kernel) (by decide +kernel)
theorem q_269 : (Jvm.Cond.instanceMethod ({ cls := "GlacierYears", name := "ground", desc := "(II)I" } : Jvm.MethodName)) ∈ g_tbl := g_mem 269 (by decide +kernel) (by decide +kernel)
theorem q_270 : (Jvm.Cond.selects "GlacierYears" ({ cls := "GlacierYears", name := "ground", desc := "(II)I" } : Jvm.MethodName) ({ cls := "GlacierYears", name := "ground", desc := "(II)I" } : Jvm.MethodName)) ∈ g_tbl := g_mem 270 (by decide +kernel) (by decide +kernel)
theorem q_271 : (Jvm.Cond.code ({ cls := "GlacierYears", name := "ground", desc := "(II)I" } : Jvm.MethodName) prog_1_method_7_code (5 : Nat) (Option.some Jvm.ClassFile.FieldType.int)) ∈ g_tbl := g_mem 271 (by decide +kernel) (by decide +kernel)
theorem q_272 : (Jvm.Cond.methodLink "GlacierYears" (107 : Nat) ({ cls := "GlacierYears", name := "isSide", desc := "(I)Z" } : Jvm.MethodName)) ∈ g_tbl := g_mem 272 (by decide +kernel) (by decide +kernel)
theorem q_273 : (Jvm.Cond.static ({ cls := "GlacierYears", name := "isSide", desc := "(I)Z" } : Jvm.MethodName)) ∈ g_tbl := g_mem 273 (by decide +kernel) (by decide +kernel)
theorem q_274 : (Jvm.Cond.code ({ cls := "GlacierYears", name := "isSide", desc := "(I)Z" } : Jvm.MethodName) prog_1_method_26_code (1 : Nat) (Option.some Jvm.ClassFile.FieldType.boolean)) ∈ g_tbl := g_mem 274 (by decide +kernel) (by decide +kernel)
theorem q_275 : (Jvm.Cond.methodLink "GlacierYears" (110 : Nat) ({ cls := "GlacierYears$Land", name := "begin", desc := "(II)V" } : Jvm.MethodName)) ∈ g_tbl := g_mem 275 (by decide +kernel) (by decide +kernel)
theorem q_276 : (Jvm.Cond.instanceMethod ({ cls := "GlacierYears$Land", name := "begin", desc := "(II)V" } : Jvm.MethodName)) ∈ g_tbl := g_mem 276 (by decide +kernel) (by decide +kernel)
theorem q_277 : (Jvm.Cond.selects "GlacierYears$Land" ({ cls := "GlacierYears$Land", name := "begin", desc := "(II)V" } : Jvm.MethodName) ({ cls := "GlacierYears$Land", name := "begin", desc := "(II)V" } : Jvm.MethodName)) ∈ g_tbl := g_mem 277 (by decide +kernel) (by decide +kernel)
theorem q_278 : (Jvm.Cond.code ({ cls := "GlacierYears$Land", name := "begin", desc := "(II)V" } : Jvm.MethodName) prog_3_method_8_code (3 : Nat) (Option.none : Option Jvm.ClassFile.FieldType)) ∈ g_tbl := g_mem 278 (by decide +kernel) (by decide +kernel)
theorem q_279 : (Jvm.Cond.methodLink "GlacierYears" (111 : Nat) ({ cls := "GlacierYears", name := "levelFromStrips", desc := "(II)J" } : Jvm.MethodName)) ∈ g_tbl := g_mem 279 (by decide +kernel) (by decide +kernel)
theorem q_281 : (Jvm.Cond.instanceMethod ({ cls := "GlacierYears", name := "levelFromStrips", desc := "(II)J" } : Jvm.MethodName)) ∈ g_tbl := g_mem 281 (by decide +kernel) (by decide +kernel)
theorem q_282 : (Jvm.Cond.code ({ cls := "GlacierYears", name := "levelFromStrips", desc := "(II)J" } : Jvm.MethodName) prog_1_method_30_code (4 : Nat) (Option.some Jvm.ClassFile.FieldType.long)) ∈ g_tbl := g_mem 282 (by decide +kernel) (by decide +kernel)
theorem q_283 : (Jvm.Cond.methodLink "GlacierYears" (115 : Nat) ({ cls := "GlacierYears$Land", name := "settle", desc := "(IIJ)V" } : Jvm.MethodName)) ∈ g_tbl := g_mem 283 (by decide +kernel) (by decide +kernel)
theorem q_284 : (Jvm.Cond.instanceMethod ({ cls := "GlacierYears$Land", name := "settle", desc := "(IIJ)V" } : Jvm.MethodName)) ∈ g_tbl := g_mem 284 (by decide +kernel) (by decide +kernel)
theorem q_285 : (Jvm.Cond.selects "GlacierYears$Land" ({ cls := "GlacierYears$Land", name := "settle", desc := "(IIJ)V" } : Jvm.MethodName) ({ cls := "GlacierYears$Land", name := "settle", desc := "(IIJ)V" } : Jvm.MethodName)) ∈ g_tbl := g_mem 285 (by decide +kernel) (by decide +kernel)
theorem q_286 : (Jvm.Cond.code ({ cls := "GlacierYears$Land", name := "settle", desc := "(IIJ)V" } : Jvm.MethodName) prog_3_method_9_code (7 : Nat) (Option.none : Option Jvm.ClassFile.FieldType)) ∈ g_tbl := g_mem 286 (by decide +kernel) (by decide +kernel)
theorem q_287 : (Jvm.Cond.methodLink "GlacierYears$Land" (31 : Nat) ({ cls := "GlacierYears$Land", name := "placeAt", desc := "(II)I" } : Jvm.MethodName)) ∈ g_tbl := g_mem 287 (by decide +kernel) (by decide +kernel)
theorem q_288 : (Jvm.Cond.instanceMethod ({ cls := "GlacierYears$Land", name := "placeAt", desc := "(II)I" } : Jvm.MethodName)) ∈ g_tbl := g_mem 288 (by decide +kernel) (by decide +kernel)
theorem q_289 : (Jvm.Cond.selects "GlacierYears$Land" ({ cls := "GlacierYears$Land", name := "placeAt", desc := "(II)I" } : Jvm.MethodName) ({ cls := "GlacierYears$Land", name := "placeAt", desc := "(II)I" } : Jvm.MethodName)) ∈ g_tbl := g_mem 289 (by decide +kernel) (by decide +kernel)
theorem q_290 : (Jvm.Cond.code ({ cls := "GlacierYears$Land", name := "placeAt", desc := "(II)I" } : Jvm.MethodName) prog_3_method_3_code (3 : Nat) (Option.some Jvm.ClassFile.FieldType.int)) ∈ g_tbl := g_mem 290 (by decide +kernel) (by decide +kernel)
theorem q_291 : (Jvm.Cond.constantLong "GlacierYears$Land" (40 : Nat) (9999 : Int64)) ∈ g_tbl := g_mem 291 (by decide +kernel) (by decide +kernel)
theorem q_292 : (Jvm.Cond.methodLink "GlacierYears$Land" (42 : Nat) ({ cls := "GlacierYears$Land", name := "listIfOpen", desc := "(I)V" } : Jvm.MethodName)) ∈ g_tbl := g_mem 292 (by decide +kernel) (by decide +kernel)
theorem q_294 : (Jvm.Cond.instanceMethod ({ cls := "GlacierYears$Land", name := "listIfOpen", desc := "(I)V" } : Jvm.MethodName)) ∈ g_tbl := g_mem 294 (by decide +kernel) (by decide +kernel)
theorem q_295 : (Jvm.Cond.code ({ cls := "GlacierYears$Land", name := "listIfOpen", desc := "(I)V" } : Jvm.MethodName) prog_3_method_11_code (2 : Nat) (Option.none : Option Jvm.ClassFile.FieldType)) ∈ g_tbl := g_mem 295 (by decide +kernel) (by decide +kernel)
theorem q_296 : (Jvm.Cond.methodLink "GlacierYears" (119 : Nat) ({ cls := "GlacierYears$Ice", name := "clear", desc := "()V" } : Jvm.MethodName)) ∈ g_tbl := g_mem 296 (by decide +kernel) (by decide +kernel)
theorem q_297 : (Jvm.Cond.instanceMethod ({ cls := "GlacierYears$Ice", name := "clear", desc := "()V" } : Jvm.MethodName)) ∈ g_tbl := g_mem 297 (by decide +kernel) (by decide +kernel)
theorem q_298 : (Jvm.Cond.selects "GlacierYears$Ice" ({ cls := "GlacierYears$Ice", name := "clear", desc := "()V" } : Jvm.MethodName) ({ cls := "GlacierYears$Ice", name := "clear", desc := "()V" } : Jvm.MethodName)) ∈ g_tbl := g_mem 298 (by decide +kernel) (by decide +kernel)
theorem q_299 : (Jvm.Cond.code ({ cls := "GlacierYears$Ice", name := "clear", desc := "()V" } : Jvm.MethodName) prog_2_method_2_code (1 : Nat) (Option.none : Option Jvm.ClassFile.FieldType)) ∈ g_tbl := g_mem 299 (by decide +kernel) (by decide +kernel)
theorem q_300 : (Jvm.Cond.methodLink "GlacierYears$Ice" (25 : Nat) ({ cls := "java/util/Arrays", name := "fill", desc := "([JJ)V" } : Jvm.MethodName)) ∈ g_tbl := g_mem 300 (by decide +kernel) (by decide +kernel)
theorem q_301 : (Jvm.Cond.methodLink "GlacierYears" (122 : Nat) ({ cls := "GlacierYears$Past", name := "forget", desc := "()V" } : Jvm.MethodName)) ∈ g_tbl := g_mem 301 (by decide +kernel) (by decide +kernel)
theorem q_302 : (Jvm.Cond.instanceMethod ({ cls := "GlacierYears$Past", name := "forget", desc := "()V" } : Jvm.MethodName)) ∈ g_tbl := g_mem 302 (by decide +kernel) (by decide +kernel)
theorem q_303 : (Jvm.Cond.selects "GlacierYears$Past" ({ cls := "GlacierYears$Past", name := "forget", desc := "()V" } : Jvm.MethodName) ({ cls := "GlacierYears$Past", name := "forget", desc := "()V" } : Jvm.MethodName)) ∈ g_tbl := g_mem 303 (by decide +kernel) (by decide +kernel)
theorem q_304 : (Jvm.Cond.code ({ cls := "GlacierYears$Past", name := "forget", desc := "()V" } : Jvm.MethodName) prog_4_method_4_code (1 : Nat) (Option.none : Option Jvm.ClassFile.FieldType)) ∈ g_tbl := g_mem 304 (by decide +kernel) (by decide +kernel)
theorem q_305 : (Jvm.Cond.methodLink "GlacierYears" (125 : Nat) ({ cls := "GlacierYears$Land", name := "cliffs", desc := "()I" } : Jvm.MethodName)) ∈ g_tbl := g_mem 305 (by decide +kernel) (by decide +kernel)
theorem q_306 : (Jvm.Cond.instanceMethod ({ cls := "GlacierYears$Land", name := "cliffs", desc := "()I" } : Jvm.MethodName)) ∈ g_tbl := g_mem 306 (by decide +kernel) (by decide +kernel)
theorem q_307 : (Jvm.Cond.selects "GlacierYears$Land" ({ cls := "GlacierYears$Land", name := "cliffs", desc := "()I" } : Jvm.MethodName) ({ cls := "GlacierYears$Land", name := "cliffs", desc := "()I" } : Jvm.MethodName)) ∈ g_tbl := g_mem 307 (by decide +kernel) (by decide +kernel)
theorem q_308 : (Jvm.Cond.code ({ cls := "GlacierYears$Land", name := "cliffs", desc := "()I" } : Jvm.MethodName) prog_3_method_5_code (1 : Nat) (Option.some Jvm.ClassFile.FieldType.int)) ∈ g_tbl := g_mem 308 (by decide +kernel) (by decide +kernel)
theorem q_309 : (Jvm.Cond.methodLink "GlacierYearsLaw" (45 : Nat) ({ cls := "GlacierYears", name := "kind", desc := "(IIII)I" } : Jvm.MethodName)) ∈ g_tbl := g_mem 309 (by decide +kernel) (by decide +kernel)
theorem q_310 : (Jvm.Cond.instanceMethod ({ cls := "GlacierYears", name := "kind", desc := "(IIII)I" } : Jvm.MethodName)) ∈ g_tbl := g_mem 310 (by decide +kernel) (by decide +kernel)
theorem q_311 : (Jvm.Cond.selects "GlacierYears" ({ cls := "GlacierYears", name := "kind", desc := "(IIII)I" } : Jvm.MethodName) ({ cls := "GlacierYears", name := "kind", desc := "(IIII)I" } : Jvm.MethodName)) ∈ g_tbl := g_mem 311 (by decide +kernel) (by decide +kernel)
theorem q_312 : (Jvm.Cond.code ({ cls := "GlacierYears", name := "kind", desc := "(IIII)I" } : Jvm.MethodName) prog_1_method_8_code (7 : Nat) (Option.some Jvm.ClassFile.FieldType.int)) ∈ g_tbl := g_mem 312 (by decide +kernel) (by decide +kernel)
theorem q_313 : (Jvm.Cond.methodLink "GlacierYears" (129 : Nat) ({ cls := "GlacierYears$Land", name := "placeAt", desc := "(II)I" } : Jvm.MethodName)) ∈ g_tbl := g_mem 313 (by decide +kernel) (by decide +kernel)
theorem q_314 : (Jvm.Cond.methodLink "GlacierYears" (133 : Nat) ({ cls := "GlacierYears", name := "isHundredths", desc := "(I)Z" } : Jvm.MethodName)) ∈ g_tbl := g_mem 314 (by decide +kernel) (by decide +kernel)
theorem q_315 : (Jvm.Cond.static ({ cls := "GlacierYears", name := "isHundredths", desc := "(I)Z" } : Jvm.MethodName)) ∈ g_tbl := g_mem 315 (by decide +kernel) (by decide +kernel)
theorem q_316 : (Jvm.Cond.code ({ cls := "GlacierYears", name := "isHundredths", desc := "(I)Z" } : Jvm.MethodName) prog_1_method_27_code (1 : Nat) (Option.some Jvm.ClassFile.FieldType.boolean)) ∈ g_tbl := g_mem 316 (by decide +kernel) (by decide +kernel)
theorem q_317 : (Jvm.Cond.methodLink "GlacierYearsLaw" (50 : Nat) ({ cls := "GlacierYears", name := "taken", desc := "(IIII)I" } : Jvm.MethodName)) ∈ g_tbl := g_mem 317 (by decide +kernel) (by decide +kernel)
theorem q_318 : (Jvm.Cond.instanceMethod ({ cls := "GlacierYears", name := "taken", desc := "(IIII)I" } : Jvm.MethodName)) ∈ g_tbl := g_mem 318 (by decide +kernel) (by decide +kernel)
theorem q_319 : (Jvm.Cond.selects "GlacierYears" ({ cls := "GlacierYears", name := "taken", desc := "(IIII)I" } : Jvm.MethodName) ({ cls := "GlacierYears", name := "taken", desc := "(IIII)I" } : Jvm.MethodName)) ∈ g_tbl := g_mem 319 (by decide +kernel) (by decide +kernel)
theorem q_320 : (Jvm.Cond.code ({ cls := "GlacierYears", name := "taken", desc := "(IIII)I" } : Jvm.MethodName) prog_1_method_9_code (6 : Nat) (Option.some Jvm.ClassFile.FieldType.int)) ∈ g_tbl := g_mem 320 (by decide +kernel) (by decide +kernel)
theorem q_321 : (Jvm.Cond.methodLink "GlacierYears" (143 : Nat) ({ cls := "GlacierYears", name := "countsAs", desc := "(II)Z" } : Jvm.MethodName)) ∈ g_tbl := g_mem 321 (by decide +kernel) (by decide +kernel)
theorem q_322 : (Jvm.Cond.static ({ cls := "GlacierYears", name := "countsAs", desc := "(II)Z" } : Jvm.MethodName)) ∈ g_tbl := g_mem 322 (by decide +kernel) (by decide +kernel)
theorem q_323 : (Jvm.Cond.code ({ cls := "GlacierYears", name := "countsAs", desc := "(II)Z" } : Jvm.MethodName) prog_1_method_28_code (2 : Nat) (Option.some Jvm.ClassFile.FieldType.boolean)) ∈ g_tbl := g_mem 323 (by decide +kernel) (by decide +kernel)
theorem q_324 : (Jvm.Cond.methodLink "GlacierYearsLaw" (54 : Nat) ({ cls := "GlacierYears", name := "tell", desc := "(ZII)I" } : Jvm.MethodName)) ∈ g_tbl := g_mem 324 (by decide +kernel) (by decide +kernel)
theorem q_325 : (Jvm.Cond.instanceMethod ({ cls := "GlacierYears", name := "tell", desc := "(ZII)I" } : Jvm.MethodName)) ∈ g_tbl := g_mem 325 (by decide +kernel) (by decide +kernel)
theorem q_326 : (Jvm.Cond.selects "GlacierYears" ({ cls := "GlacierYears", name := "tell", desc := "(ZII)I" } : Jvm.MethodName) ({ cls := "GlacierYears", name := "tell", desc := "(ZII)I" } : Jvm.MethodName)) ∈ g_tbl := g_mem 326 (by decide +kernel) (by decide +kernel)
theorem q_327 : (Jvm.Cond.code ({ cls := "GlacierYears", name := "tell", desc := "(ZII)I" } : Jvm.MethodName) prog_1_method_10_code (6 : Nat) (Option.some Jvm.ClassFile.FieldType.int)) ∈ g_tbl := g_mem 327 (by decide +kernel) (by decide +kernel)
theorem q_328 : (Jvm.Cond.constant "GlacierYears" (146 : Nat) (100000 : Int32)) ∈ g_tbl := g_mem 328 (by decide +kernel) (by decide +kernel)
theorem q_329 : (Jvm.Cond.methodLink "GlacierYearsLaw" (59 : Nat) ({ cls := "GlacierYears", name := "rule", desc := "(II)I" } : Jvm.MethodName)) ∈ g_tbl := g_mem 329 (by decide +kernel) (by decide +kernel)
theorem q_330 : (Jvm.Cond.instanceMethod ({ cls := "GlacierYears", name := "rule", desc := "(II)I" } : Jvm.MethodName)) ∈ g_tbl := g_mem 330 (by decide +kernel) (by decide +kernel)
theorem q_331 : (Jvm.Cond.selects "GlacierYears" ({ cls := "GlacierYears", name := "rule", desc := "(II)I" } : Jvm.MethodName) ({ cls := "GlacierYears", name := "rule", desc := "(II)I" } : Jvm.MethodName)) ∈ g_tbl := g_mem 331 (by decide +kernel) (by decide +kernel)
theorem q_332 : (Jvm.Cond.code ({ cls := "GlacierYears", name := "rule", desc := "(II)I" } : Jvm.MethodName) prog_1_method_11_code (4 : Nat) (Option.some Jvm.ClassFile.FieldType.int)) ∈ g_tbl := g_mem 332 (by decide +kernel) (by decide +kernel)
theorem q_333 : (Jvm.Cond.constant "GlacierYears" (153 : Nat) (1000000 : Int32)) ∈ g_tbl := g_mem 333 (by decide +kernel) (by decide +kernel)
theorem q_334 : (Jvm.Cond.methodLink "GlacierYearsLaw" (63 : Nat) ({ cls := "GlacierYears", name := "ice", desc := "(III)J" } : Jvm.MethodName)) ∈ g_tbl := g_mem 334 (by decide +kernel) (by decide +kernel)
theorem q_335 : (Jvm.Cond.instanceMethod ({ cls := "GlacierYears", name := "ice", desc := "(III)J" } : Jvm.MethodName)) ∈ g_tbl := g_mem 335 (by decide +kernel) (by decide +kernel)
theorem q_336 : (Jvm.Cond.selects "GlacierYears" ({ cls := "GlacierYears", name := "ice", desc := "(III)J" } : Jvm.MethodName) ({ cls := "GlacierYears", name := "ice", desc := "(III)J" } : Jvm.MethodName)) ∈ g_tbl := g_mem 336 (by decide +kernel) (by decide +kernel)
theorem q_337 : (Jvm.Cond.code ({ cls := "GlacierYears", name := "ice", desc := "(III)J" } : Jvm.MethodName) prog_1_method_12_code (5 : Nat) (Option.some Jvm.ClassFile.FieldType.long)) ∈ g_tbl := g_mem 337 (by decide +kernel) (by decide +kernel)
theorem q_338 : (Jvm.Cond.constantLong "GlacierYears" (163 : Nat) (-3 : Int64)) ∈ g_tbl := g_mem 338 (by decide +kernel) (by decide +kernel)
theorem q_339 : (Jvm.Cond.methodLink "GlacierYears" (165 : Nat) ({ cls := "GlacierYears$Ice", name := "arrive", desc := "(IIJ)V" } : Jvm.MethodName)) ∈ g_tbl := g_mem 339 (by decide +kernel) (by decide +kernel)
theorem q_340 : (Jvm.Cond.instanceMethod ({ cls := "GlacierYears$Ice", name := "arrive", desc := "(IIJ)V" } : Jvm.MethodName)) ∈ g_tbl := g_mem 340 (by decide +kernel) (by decide +kernel)
theorem q_341 : (Jvm.Cond.selects "GlacierYears$Ice" ({ cls := "GlacierYears$Ice", name := "arrive", desc := "(IIJ)V" } : Jvm.MethodName) ({ cls := "GlacierYears$Ice", name := "arrive", desc := "(IIJ)V" } : Jvm.MethodName)) ∈ g_tbl := g_mem 341 (by decide +kernel) (by decide +kernel)
theorem q_342 : (Jvm.Cond.code ({ cls := "GlacierYears$Ice", name := "arrive", desc := "(IIJ)V" } : Jvm.MethodName) prog_2_method_7_code (5 : Nat) (Option.none : Option Jvm.ClassFile.FieldType)) ∈ g_tbl := g_mem 342 (by decide +kernel) (by decide +kernel)
theorem q_343 : (Jvm.Cond.methodLink "GlacierYears$Ice" (37 : Nat) ({ cls := "GlacierYears$Ice", name := "lay", desc := "(IIJ)V" } : Jvm.MethodName)) ∈ g_tbl := g_mem 343 (by decide +kernel) (by decide +kernel)
theorem q_344 : (Jvm.Cond.instanceMethod ({ cls := "GlacierYears$Ice", name := "lay", desc := "(IIJ)V" } : Jvm.MethodName)) ∈ g_tbl := g_mem 344 (by decide +kernel) (by decide +kernel)
theorem q_345 : (Jvm.Cond.selects "GlacierYears$Ice" ({ cls := "GlacierYears$Ice", name := "lay", desc := "(IIJ)V" } : Jvm.MethodName) ({ cls := "GlacierYears$Ice", name := "lay", desc := "(IIJ)V" } : Jvm.MethodName)) ∈ g_tbl := g_mem 345 (by decide +kernel) (by decide +kernel)
theorem q_346 : (Jvm.Cond.code ({ cls := "GlacierYears$Ice", name := "lay", desc := "(IIJ)V" } : Jvm.MethodName) prog_2_method_5_code (5 : Nat) (Option.none : Option Jvm.ClassFile.FieldType)) ∈ g_tbl := g_mem 346 (by decide +kernel) (by decide +kernel)
theorem q_347 : (Jvm.Cond.methodLink "GlacierYearsLaw" (67 : Nat) ({ cls := "GlacierYears", name := "years", desc := "(I)I" } : Jvm.MethodName)) ∈ g_tbl := g_mem 347 (by decide +kernel) (by decide +kernel)
theorem q_348 : (Jvm.Cond.instanceMethod ({ cls := "GlacierYears", name := "years", desc := "(I)I" } : Jvm.MethodName)) ∈ g_tbl := g_mem 348 (by decide +kernel) (by decide +kernel)
theorem q_349 : (Jvm.Cond.selects "GlacierYears" ({ cls := "GlacierYears", name := "years", desc := "(I)I" } : Jvm.MethodName) ({ cls := "GlacierYears", name := "years", desc := "(I)I" } : Jvm.MethodName)) ∈ g_tbl := g_mem 349 (by decide +kernel) (by decide +kernel)
theorem q_350 : (Jvm.Cond.code ({ cls := "GlacierYears", name := "years", desc := "(I)I" } : Jvm.MethodName) prog_1_method_13_code (4 : Nat) (Option.some Jvm.ClassFile.FieldType.int)) ∈ g_tbl := g_mem 350 (by decide +kernel) (by decide +kernel)
theorem q_351 : (Jvm.Cond.methodLink "GlacierYears" (171 : Nat) ({ cls := "GlacierYears", name := "refusalOfYears", desc := "(I)I" } : Jvm.MethodName)) ∈ g_tbl := g_mem 351 (by decide +kernel) (by decide +kernel)
theorem q_353 : (Jvm.Cond.instanceMethod ({ cls := "GlacierYears", name := "refusalOfYears", desc := "(I)I" } : Jvm.MethodName)) ∈ g_tbl := g_mem 353 (by decide +kernel) (by decide +kernel)
theorem q_354 : (Jvm.Cond.code ({ cls := "GlacierYears", name := "refusalOfYears", desc := "(I)I" } : Jvm.MethodName) prog_1_method_32_code (2 : Nat) (Option.some Jvm.ClassFile.FieldType.int)) ∈ g_tbl := g_mem 354 (by decide +kernel) (by decide +kernel)
theorem q_355 : (Jvm.Cond.methodLink "GlacierYears" (210 : Nat) ({ cls := "GlacierYears$Land", name := "lies", desc := "()Z" } : Jvm.MethodName)) ∈ g_tbl := g_mem 355 (by decide +kernel) (by decide +kernel)
theorem q_356 : (Jvm.Cond.instanceMethod ({ cls := "GlacierYears$Land", name := "lies", desc := "()Z" } : Jvm.MethodName)) ∈ g_tbl := g_mem 356 (by decide +kernel) (by decide +kernel)
theorem q_357 : (Jvm.Cond.selects "GlacierYears$Land" ({ cls := "GlacierYears$Land", name := "lies", desc := "()Z" } : Jvm.MethodName) ({ cls := "GlacierYears$Land", name := "lies", desc := "()Z" } : Jvm.MethodName)) ∈ g_tbl := g_mem 357 (by decide +kernel) (by decide +kernel)
theorem q_358 : (Jvm.Cond.code ({ cls := "GlacierYears$Land", name := "lies", desc := "()Z" } : Jvm.MethodName) prog_3_method_2_code (1 : Nat) (Option.some Jvm.ClassFile.FieldType.boolean)) ∈ g_tbl := g_mem 358 (by decide +kernel) (by decide +kernel)
theorem q_359 : (Jvm.Cond.methodLink "GlacierYears" (174 : Nat) ({ cls := "GlacierYears", name := "passYear", desc := "()V" } : Jvm.MethodName)) ∈ g_tbl := g_mem 359 (by decide +kernel) (by decide +kernel)
theorem q_361 : (Jvm.Cond.instanceMethod ({ cls := "GlacierYears", name := "passYear", desc := "()V" } : Jvm.MethodName)) ∈ g_tbl := g_mem 361 (by decide +kernel) (by decide +kernel)
theorem q_362 : (Jvm.Cond.code ({ cls := "GlacierYears", name := "passYear", desc := "()V" } : Jvm.MethodName) prog_1_method_33_code (1 : Nat) (Option.none : Option Jvm.ClassFile.FieldType)) ∈ g_tbl := g_mem 362 (by decide +kernel) (by decide +kernel)
theorem q_363 : (Jvm.Cond.methodLink "GlacierYears" (261 : Nat) ({ cls := "GlacierYears$Past", name := "keep", desc := "(LGlacierYears$Ice;)V" } : Jvm.MethodName)) ∈ g_tbl := g_mem 363 (by decide +kernel) (by decide +kernel)
theorem q_364 : (Jvm.Cond.instanceMethod ({ cls := "GlacierYears$Past", name := "keep", desc := "(LGlacierYears$Ice;)V" } : Jvm.MethodName)) ∈ g_tbl := g_mem 364 (by decide +kernel) (by decide +kernel)
theorem q_365 : (Jvm.Cond.selects "GlacierYears$Past" ({ cls := "GlacierYears$Past", name := "keep", desc := "(LGlacierYears$Ice;)V" } : Jvm.MethodName) ({ cls := "GlacierYears$Past", name := "keep", desc := "(LGlacierYears$Ice;)V" } : Jvm.MethodName)) ∈ g_tbl := g_mem 365 (by decide +kernel) (by decide +kernel)
theorem q_366 : (Jvm.Cond.code ({ cls := "GlacierYears$Past", name := "keep", desc := "(LGlacierYears$Ice;)V" } : Jvm.MethodName) prog_4_method_2_code (2 : Nat) (Option.none : Option Jvm.ClassFile.FieldType)) ∈ g_tbl := g_mem 366 (by decide +kernel) (by decide +kernel)
theorem q_367 : (Jvm.Cond.methodLink "GlacierYears$Past" (22 : Nat) ({ cls := "GlacierYears$Ice", name := "become", desc := "(LGlacierYears$Ice;)V" } : Jvm.MethodName)) ∈ g_tbl := g_mem 367 (by decide +kernel) (by decide +kernel)
theorem q_368 : (Jvm.Cond.instanceMethod ({ cls := "GlacierYears$Ice", name := "become", desc := "(LGlacierYears$Ice;)V" } : Jvm.MethodName)) ∈ g_tbl := g_mem 368 (by decide +kernel) (by decide +kernel)
theorem q_369 : (Jvm.Cond.selects "GlacierYears$Ice" ({ cls := "GlacierYears$Ice", name := "become", desc := "(LGlacierYears$Ice;)V" } : Jvm.MethodName) ({ cls := "GlacierYears$Ice", name := "become", desc := "(LGlacierYears$Ice;)V" } : Jvm.MethodName)) ∈ g_tbl := g_mem 369 (by decide +kernel) (by decide +kernel)
theorem q_370 : (Jvm.Cond.code ({ cls := "GlacierYears$Ice", name := "become", desc := "(LGlacierYears$Ice;)V" } : Jvm.MethodName) prog_2_method_3_code (2 : Nat) (Option.none : Option Jvm.ClassFile.FieldType)) ∈ g_tbl := g_mem 370 (by decide +kernel) (by decide +kernel)
theorem q_371 : (Jvm.Cond.methodLink "GlacierYears$Ice" (31 : Nat) ({ cls := "java/lang/System", name := "arraycopy", desc := "(Ljava/lang/Object;ILjava/lang/Object;II)V" } : Jvm.MethodName)) ∈ g_tbl := g_mem 371 (by decide +kernel) (by decide +kernel)
theorem q_372 : (Jvm.Cond.methodLink "GlacierYears" (264 : Nat) ({ cls := "GlacierYears", name := "snowAndMelt", desc := "()V" } : Jvm.MethodName)) ∈ g_tbl := g_mem 372 (by decide +kernel) (by decide +kernel)
theorem q_374 : (Jvm.Cond.instanceMethod ({ cls := "GlacierYears", name := "snowAndMelt", desc := "()V" } : Jvm.MethodName)) ∈ g_tbl := g_mem 374 (by decide +kernel) (by decide +kernel)
theorem q_375 : (Jvm.Cond.code ({ cls := "GlacierYears", name := "snowAndMelt", desc := "()V" } : Jvm.MethodName) prog_1_method_34_code (4 : Nat) (Option.none : Option Jvm.ClassFile.FieldType)) ∈ g_tbl := g_mem 375 (by decide +kernel) (by decide +kernel)
theorem q_376 : (Jvm.Cond.methodLink "GlacierYears" (204 : Nat) ({ cls := "GlacierYears$Land", name := "band", desc := "(I)I" } : Jvm.MethodName)) ∈ g_tbl := g_mem 376 (by decide +kernel) (by decide +kernel)
theorem q_377 : (Jvm.Cond.instanceMethod ({ cls := "GlacierYears$Land", name := "band", desc := "(I)I" } : Jvm.MethodName)) ∈ g_tbl := g_mem 377 (by decide +kernel) (by decide +kernel)
theorem q_378 : (Jvm.Cond.selects "GlacierYears$Land" ({ cls := "GlacierYears$Land", name := "band", desc := "(I)I" } : Jvm.MethodName) ({ cls := "GlacierYears$Land", name := "band", desc := "(I)I" } : Jvm.MethodName)) ∈ g_tbl := g_mem 378 (by decide +kernel) (by decide +kernel)
theorem q_379 : (Jvm.Cond.code ({ cls := "GlacierYears$Land", name := "band", desc := "(I)I" } : Jvm.MethodName) prog_3_method_6_code (2 : Nat) (Option.some Jvm.ClassFile.FieldType.int)) ∈ g_tbl := g_mem 379 (by decide +kernel) (by decide +kernel)
theorem q_380 : (Jvm.Cond.methodLink "GlacierYears" (279 : Nat) ({ cls := "GlacierYears$Land", name := "meltLeft", desc := "(IJ)J" } : Jvm.MethodName)) ∈ g_tbl := g_mem 380 (by decide +kernel) (by decide +kernel)
theorem q_381 : (Jvm.Cond.instanceMethod ({ cls := "GlacierYears$Land", name := "meltLeft", desc := "(IJ)J" } : Jvm.MethodName)) ∈ g_tbl := g_mem 381 (by decide +kernel) (by decide +kernel)
theorem q_382 : (Jvm.Cond.selects "GlacierYears$Land" ({ cls := "GlacierYears$Land", name := "meltLeft", desc := "(IJ)J" } : Jvm.MethodName) ({ cls := "GlacierYears$Land", name := "meltLeft", desc := "(IJ)J" } : Jvm.MethodName)) ∈ g_tbl := g_mem 382 (by decide +kernel) (by decide +kernel)
theorem q_383 : (Jvm.Cond.code ({ cls := "GlacierYears$Land", name := "meltLeft", desc := "(IJ)J" } : Jvm.MethodName) prog_3_method_7_code (5 : Nat) (Option.some Jvm.ClassFile.FieldType.long)) ∈ g_tbl := g_mem 383 (by decide +kernel) (by decide +kernel)
theorem q_384 : (Jvm.Cond.constantLong "GlacierYears$Land" (38 : Nat) (100 : Int64)) ∈ g_tbl := g_mem 384 (by decide +kernel) (by decide +kernel)
theorem q_385 : (Jvm.Cond.methodLink "GlacierYears" (283 : Nat) ({ cls := "GlacierYears$Ice", name := "lose", desc := "(IJI)V" } : Jvm.MethodName)) ∈ g_tbl := g_mem 385 (by decide +kernel) (by decide +kernel)
theorem q_386 : (Jvm.Cond.instanceMethod ({ cls := "GlacierYears$Ice", name := "lose", desc := "(IJI)V" } : Jvm.MethodName)) ∈ g_tbl := g_mem 386 (by decide +kernel) (by decide +kernel)
theorem q_387 : (Jvm.Cond.selects "GlacierYears$Ice" ({ cls := "GlacierYears$Ice", name := "lose", desc := "(IJI)V" } : Jvm.MethodName) ({ cls := "GlacierYears$Ice", name := "lose", desc := "(IJI)V" } : Jvm.MethodName)) ∈ g_tbl := g_mem 387 (by decide +kernel) (by decide +kernel)
theorem q_388 : (Jvm.Cond.code ({ cls := "GlacierYears$Ice", name := "lose", desc := "(IJI)V" } : Jvm.MethodName) prog_2_method_8_code (10 : Nat) (Option.none : Option Jvm.ClassFile.FieldType)) ∈ g_tbl := g_mem 388 (by decide +kernel) (by decide +kernel)
theorem q_389 : (Jvm.Cond.methodLink "GlacierYears$Ice" (41 : Nat) ({ cls := "java/lang/Math", name := "min", desc := "(JJ)J" } : Jvm.MethodName)) ∈ g_tbl := g_mem 389 (by decide +kernel) (by decide +kernel)
theorem q_390 : (Jvm.Cond.static ({ cls := "java/lang/Math", name := "min", desc := "(JJ)J" } : Jvm.MethodName)) ∈ g_tbl := g_mem 390 (by decide +kernel) (by decide +kernel)
theorem q_391 : (Jvm.Cond.code ({ cls := "java/lang/Math", name := "min", desc := "(JJ)J" } : Jvm.MethodName) prog_9_method_70_code (4 : Nat) (Option.some Jvm.ClassFile.FieldType.long)) ∈ g_tbl := g_mem 391 (by decide +kernel) (by decide +kernel)
theorem q_392 : (Jvm.Cond.methodLink "GlacierYears$Ice" (47 : Nat) ({ cls := "GlacierYears$Ice", name := "lift", desc := "(IIJ)V" } : Jvm.MethodName)) ∈ g_tbl := g_mem 392 (by decide +kernel) (by decide +kernel)
theorem q_393 : (Jvm.Cond.instanceMethod ({ cls := "GlacierYears$Ice", name := "lift", desc := "(IIJ)V" } : Jvm.MethodName)) ∈ g_tbl := g_mem 393 (by decide +kernel) (by decide +kernel)
theorem q_394 : (Jvm.Cond.selects "GlacierYears$Ice" ({ cls := "GlacierYears$Ice", name := "lift", desc := "(IIJ)V" } : Jvm.MethodName) ({ cls := "GlacierYears$Ice", name := "lift", desc := "(IIJ)V" } : Jvm.MethodName)) ∈ g_tbl := g_mem 394 (by decide +kernel) (by decide +kernel)
theorem q_395 : (Jvm.Cond.code ({ cls := "GlacierYears$Ice", name := "lift", desc := "(IIJ)V" } : Jvm.MethodName) prog_2_method_6_code (5 : Nat) (Option.none : Option Jvm.ClassFile.FieldType)) ∈ g_tbl := g_mem 395 (by decide +kernel) (by decide +kernel)
theorem q_396 : (Jvm.Cond.methodLink "GlacierYears" (267 : Nat) ({ cls := "GlacierYears", name := "moveIce", desc := "()V" } : Jvm.MethodName)) ∈ g_tbl := g_mem 396 (by decide +kernel) (by decide +kernel)
theorem q_398 : (Jvm.Cond.instanceMethod ({ cls := "GlacierYears", name := "moveIce", desc := "()V" } : Jvm.MethodName)) ∈ g_tbl := g_mem 398 (by decide +kernel) (by decide +kernel)
theorem q_399 : (Jvm.Cond.code ({ cls := "GlacierYears", name := "moveIce", desc := "()V" } : Jvm.MethodName) prog_1_method_35_code (4 : Nat) (Option.none : Option Jvm.ClassFile.FieldType)) ∈ g_tbl := g_mem 399 (by decide +kernel) (by decide +kernel)
theorem q_400 : (Jvm.Cond.methodLink "GlacierYears" (235 : Nat) ({ cls := "GlacierYears", name := "gift", desc := "(II)J" } : Jvm.MethodName)) ∈ g_tbl := g_mem 400 (by decide +kernel) (by decide +kernel)
theorem q_402 : (Jvm.Cond.instanceMethod ({ cls := "GlacierYears", name := "gift", desc := "(II)J" } : Jvm.MethodName)) ∈ g_tbl := g_mem 402 (by decide +kernel) (by decide +kernel)
theorem q_403 : (Jvm.Cond.code ({ cls := "GlacierYears", name := "gift", desc := "(II)J" } : Jvm.MethodName) prog_1_method_36_code (13 : Nat) (Option.some Jvm.ClassFile.FieldType.long)) ∈ g_tbl := g_mem 403 (by decide +kernel) (by decide +kernel)
theorem q_404 : (Jvm.Cond.methodLink "GlacierYears" (287 : Nat) ({ cls := "GlacierYears$Land", name := "neighbour", desc := "(II)I" } : Jvm.MethodName)) ∈ g_tbl := g_mem 404 (by decide +kernel) (by decide +kernel)
theorem q_405 : (Jvm.Cond.instanceMethod ({ cls := "GlacierYears$Land", name := "neighbour", desc := "(II)I" } : Jvm.MethodName)) ∈ g_tbl := g_mem 405 (by decide +kernel) (by decide +kernel)
theorem q_406 : (Jvm.Cond.selects "GlacierYears$Land" ({ cls := "GlacierYears$Land", name := "neighbour", desc := "(II)I" } : Jvm.MethodName) ({ cls := "GlacierYears$Land", name := "neighbour", desc := "(II)I" } : Jvm.MethodName)) ∈ g_tbl := g_mem 406 (by decide +kernel) (by decide +kernel)
theorem q_407 : (Jvm.Cond.code ({ cls := "GlacierYears$Land", name := "neighbour", desc := "(II)I" } : Jvm.MethodName) prog_3_method_4_code (5 : Nat) (Option.some Jvm.ClassFile.FieldType.int)) ∈ g_tbl := g_mem 407 (by decide +kernel) (by decide +kernel)
theorem q_408 : (Jvm.Cond.methodLink "GlacierYears" (194 : Nat) ({ cls := "GlacierYears", name := "surface", desc := "(I)J" } : Jvm.MethodName)) ∈ g_tbl := g_mem 408 (by decide +kernel) (by decide +kernel)
theorem q_410 : (Jvm.Cond.instanceMethod ({ cls := "GlacierYears", name := "surface", desc := "(I)J" } : Jvm.MethodName)) ∈ g_tbl := g_mem 410 (by decide +kernel) (by decide +kernel)
theorem q_411 : (Jvm.Cond.code ({ cls := "GlacierYears", name := "surface", desc := "(I)J" } : Jvm.MethodName) prog_1_method_31_code (2 : Nat) (Option.some Jvm.ClassFile.FieldType.long)) ∈ g_tbl := g_mem 411 (by decide +kernel) (by decide +kernel)
theorem q_412 : (Jvm.Cond.methodLink "GlacierYears" (293 : Nat) ({ cls := "java/lang/Math", name := "min", desc := "(JJ)J" } : Jvm.MethodName)) ∈ g_tbl := g_mem 412 (by decide +kernel) (by decide +kernel)
theorem q_413 : (Jvm.Cond.constantLong "GlacierYears" (299 : Nat) (100 : Int64)) ∈ g_tbl := g_mem 413 (by decide +kernel) (by decide +kernel)
theorem q_414 : (Jvm.Cond.constantLong "GlacierYears" (301 : Nat) (8 : Int64)) ∈ g_tbl := g_mem 414 (by decide +kernel) (by decide +kernel)
theorem q_415 : (Jvm.Cond.methodLink "GlacierYears" (242 : Nat) ({ cls := "GlacierYears$Ice", name := "become", desc := "(LGlacierYears$Ice;)V" } : Jvm.MethodName)) ∈ g_tbl := g_mem 415 (by decide +kernel) (by decide +kernel)
theorem q_416 : (Jvm.Cond.methodLink "GlacierYears" (290 : Nat) ({ cls := "GlacierYears", name := "hand", desc := "(IIJ)V" } : Jvm.MethodName)) ∈ g_tbl := g_mem 416 (by decide +kernel) (by decide +kernel)
theorem q_418 : (Jvm.Cond.instanceMethod ({ cls := "GlacierYears", name := "hand", desc := "(IIJ)V" } : Jvm.MethodName)) ∈ g_tbl := g_mem 418 (by decide +kernel) (by decide +kernel)
theorem q_419 : (Jvm.Cond.code ({ cls := "GlacierYears", name := "hand", desc := "(IIJ)V" } : Jvm.MethodName) prog_1_method_37_code (10 : Nat) (Option.none : Option Jvm.ClassFile.FieldType)) ∈ g_tbl := g_mem 419 (by decide +kernel) (by decide +kernel)
theorem q_420 : (Jvm.Cond.methodLink "GlacierYears" (303 : Nat) ({ cls := "GlacierYears$Ice", name := "lift", desc := "(IIJ)V" } : Jvm.MethodName)) ∈ g_tbl := g_mem 420 (by decide +kernel) (by decide +kernel)
theorem q_421 : (Jvm.Cond.methodLink "GlacierYears" (306 : Nat) ({ cls := "GlacierYears$Ice", name := "lay", desc := "(IIJ)V" } : Jvm.MethodName)) ∈ g_tbl := g_mem 421 (by decide +kernel) (by decide +kernel)
theorem q_422 : (Jvm.Cond.methodLink "GlacierYears" (270 : Nat) ({ cls := "GlacierYears", name := "floatIce", desc := "()V" } : Jvm.MethodName)) ∈ g_tbl := g_mem 422 (by decide +kernel) (by decide +kernel)
theorem q_424 : (Jvm.Cond.instanceMethod ({ cls := "GlacierYears", name := "floatIce", desc := "()V" } : Jvm.MethodName)) ∈ g_tbl := g_mem 424 (by decide +kernel) (by decide +kernel)
theorem q_425 : (Jvm.Cond.code ({ cls := "GlacierYears", name := "floatIce", desc := "()V" } : Jvm.MethodName) prog_1_method_38_code (3 : Nat) (Option.none : Option Jvm.ClassFile.FieldType)) ∈ g_tbl := g_mem 425 (by decide +kernel) (by decide +kernel)
theorem q_426 : (Jvm.Cond.methodLink "GlacierYearsLaw" (71 : Nat) ({ cls := "GlacierYears", name := "back", desc := "()I" } : Jvm.MethodName)) ∈ g_tbl := g_mem 426 (by decide +kernel) (by decide +kernel)
theorem q_427 : (Jvm.Cond.instanceMethod ({ cls := "GlacierYears", name := "back", desc := "()I" } : Jvm.MethodName)) ∈ g_tbl := g_mem 427 (by decide +kernel) (by decide +kernel)
theorem q_428 : (Jvm.Cond.selects "GlacierYears" ({ cls := "GlacierYears", name := "back", desc := "()I" } : Jvm.MethodName) ({ cls := "GlacierYears", name := "back", desc := "()I" } : Jvm.MethodName)) ∈ g_tbl := g_mem 428 (by decide +kernel) (by decide +kernel)
theorem q_429 : (Jvm.Cond.code ({ cls := "GlacierYears", name := "back", desc := "()I" } : Jvm.MethodName) prog_1_method_14_code (1 : Nat) (Option.some Jvm.ClassFile.FieldType.int)) ∈ g_tbl := g_mem 429 (by decide +kernel) (by decide +kernel)
theorem q_430 : (Jvm.Cond.methodLink "GlacierYears" (180 : Nat) ({ cls := "GlacierYears$Past", name := "restore", desc := "(LGlacierYears$Ice;)V" } : Jvm.MethodName)) ∈ g_tbl := g_mem 430 (by decide +kernel) (by decide +kernel)
theorem q_431 : (Jvm.Cond.instanceMethod ({ cls := "GlacierYears$Past", name := "restore", desc := "(LGlacierYears$Ice;)V" } : Jvm.MethodName)) ∈ g_tbl := g_mem 431 (by decide +kernel) (by decide +kernel)
theorem q_432 : (Jvm.Cond.selects "GlacierYears$Past" ({ cls := "GlacierYears$Past", name := "restore", desc := "(LGlacierYears$Ice;)V" } : Jvm.MethodName) ({ cls := "GlacierYears$Past", name := "restore", desc := "(LGlacierYears$Ice;)V" } : Jvm.MethodName)) ∈ g_tbl := g_mem 432 (by decide +kernel) (by decide +kernel)
theorem q_433 : (Jvm.Cond.code ({ cls := "GlacierYears$Past", name := "restore", desc := "(LGlacierYears$Ice;)V" } : Jvm.MethodName) prog_4_method_3_code (2 : Nat) (Option.none : Option Jvm.ClassFile.FieldType)) ∈ g_tbl := g_mem 433 (by decide +kernel) (by decide +kernel)
theorem q_434 : (Jvm.Cond.methodLink "GlacierYearsLaw" (76 : Nat) ({ cls := "GlacierYears", name := "steady", desc := "(I)I" } : Jvm.MethodName)) ∈ g_tbl := g_mem 434 (by decide +kernel) (by decide +kernel)
theorem q_435 : (Jvm.Cond.instanceMethod ({ cls := "GlacierYears", name := "steady", desc := "(I)I" } : Jvm.MethodName)) ∈ g_tbl := g_mem 435 (by decide +kernel) (by decide +kernel)
theorem q_436 : (Jvm.Cond.selects "GlacierYears" ({ cls := "GlacierYears", name := "steady", desc := "(I)I" } : Jvm.MethodName) ({ cls := "GlacierYears", name := "steady", desc := "(I)I" } : Jvm.MethodName)) ∈ g_tbl := g_mem 436 (by decide +kernel) (by decide +kernel)
theorem q_437 : (Jvm.Cond.code ({ cls := "GlacierYears", name := "steady", desc := "(I)I" } : Jvm.MethodName) prog_1_method_15_code (5 : Nat) (Option.some Jvm.ClassFile.FieldType.int)) ∈ g_tbl := g_mem 437 (by decide +kernel) (by decide +kernel)
theorem q_438 : (Jvm.Cond.methodLink "GlacierYears" (184 : Nat) ({ cls := "GlacierYears", name := "remember", desc := "(I)V" } : Jvm.MethodName)) ∈ g_tbl := g_mem 438 (by decide +kernel) (by decide +kernel)
theorem q_440 : (Jvm.Cond.instanceMethod ({ cls := "GlacierYears", name := "remember", desc := "(I)V" } : Jvm.MethodName)) ∈ g_tbl := g_mem 440 (by decide +kernel) (by decide +kernel)
theorem q_441 : (Jvm.Cond.code ({ cls := "GlacierYears", name := "remember", desc := "(I)V" } : Jvm.MethodName) prog_1_method_39_code (2 : Nat) (Option.none : Option Jvm.ClassFile.FieldType)) ∈ g_tbl := g_mem 441 (by decide +kernel) (by decide +kernel)
theorem q_442 : (Jvm.Cond.methodLink "GlacierYears" (188 : Nat) ({ cls := "GlacierYears", name := "yearsSinceAlike", desc := "(I)I" } : Jvm.MethodName)) ∈ g_tbl := g_mem 442 (by decide +kernel) (by decide +kernel)
theorem q_444 : (Jvm.Cond.instanceMethod ({ cls := "GlacierYears", name := "yearsSinceAlike", desc := "(I)I" } : Jvm.MethodName)) ∈ g_tbl := g_mem 444 (by decide +kernel) (by decide +kernel)
theorem q_445 : (Jvm.Cond.code ({ cls := "GlacierYears", name := "yearsSinceAlike", desc := "(I)I" } : Jvm.MethodName) prog_1_method_40_code (3 : Nat) (Option.some Jvm.ClassFile.FieldType.int)) ∈ g_tbl := g_mem 445 (by decide +kernel) (by decide +kernel)
theorem q_446 : (Jvm.Cond.methodLink "GlacierYears" (309 : Nat) ({ cls := "GlacierYears", name := "liesAsIn", desc := "(I)Z" } : Jvm.MethodName)) ∈ g_tbl := g_mem 446 (by decide +kernel) (by decide +kernel)
theorem q_448 : (Jvm.Cond.instanceMethod ({ cls := "GlacierYears", name := "liesAsIn", desc := "(I)Z" } : Jvm.MethodName)) ∈ g_tbl := g_mem 448 (by decide +kernel) (by decide +kernel)
theorem q_449 : (Jvm.Cond.code ({ cls := "GlacierYears", name := "liesAsIn", desc := "(I)Z" } : Jvm.MethodName) prog_1_method_41_code (4 : Nat) (Option.some Jvm.ClassFile.FieldType.boolean)) ∈ g_tbl := g_mem 449 (by decide +kernel) (by decide +kernel)
theorem q_450 : (Jvm.Cond.methodLink "GlacierYearsLaw" (80 : Nat) ({ cls := "GlacierYears", name := "cell", desc := "(III)J" } : Jvm.MethodName)) ∈ g_tbl := g_mem 450 (by decide +kernel) (by decide +kernel)
theorem q_451 : (Jvm.Cond.instanceMethod ({ cls := "GlacierYears", name := "cell", desc := "(III)J" } : Jvm.MethodName)) ∈ g_tbl := g_mem 451 (by decide +kernel) (by decide +kernel)
theorem q_452 : (Jvm.Cond.selects "GlacierYears" ({ cls := "GlacierYears", name := "cell", desc := "(III)J" } : Jvm.MethodName) ({ cls := "GlacierYears", name := "cell", desc := "(III)J" } : Jvm.MethodName)) ∈ g_tbl := g_mem 452 (by decide +kernel) (by decide +kernel)
theorem q_453 : (Jvm.Cond.code ({ cls := "GlacierYears", name := "cell", desc := "(III)J" } : Jvm.MethodName) prog_1_method_16_code (5 : Nat) (Option.some Jvm.ClassFile.FieldType.long)) ∈ g_tbl := g_mem 453 (by decide +kernel) (by decide +kernel)
theorem q_454 : (Jvm.Cond.methodLink "GlacierYears" (198 : Nat) ({ cls := "GlacierYears$Ice", name := "layerCount", desc := "(I)I" } : Jvm.MethodName)) ∈ g_tbl := g_mem 454 (by decide +kernel) (by decide +kernel)
theorem q_455 : (Jvm.Cond.instanceMethod ({ cls := "GlacierYears$Ice", name := "layerCount", desc := "(I)I" } : Jvm.MethodName)) ∈ g_tbl := g_mem 455 (by decide +kernel) (by decide +kernel)
theorem q_456 : (Jvm.Cond.selects "GlacierYears$Ice" ({ cls := "GlacierYears$Ice", name := "layerCount", desc := "(I)I" } : Jvm.MethodName) ({ cls := "GlacierYears$Ice", name := "layerCount", desc := "(I)I" } : Jvm.MethodName)) ∈ g_tbl := g_mem 456 (by decide +kernel) (by decide +kernel)
theorem q_457 : (Jvm.Cond.code ({ cls := "GlacierYears$Ice", name := "layerCount", desc := "(I)I" } : Jvm.MethodName) prog_2_method_9_code (4 : Nat) (Option.some Jvm.ClassFile.FieldType.int)) ∈ g_tbl := g_mem 457 (by decide +kernel) (by decide +kernel)
theorem q_458 : (Jvm.Cond.methodLink "GlacierYears" (201 : Nat) ({ cls := "GlacierYears$Ice", name := "layerYear", desc := "(II)I" } : Jvm.MethodName)) ∈ g_tbl := g_mem 458 (by decide +kernel) (by decide +kernel)
theorem q_459 : (Jvm.Cond.instanceMethod ({ cls := "GlacierYears$Ice", name := "layerYear", desc := "(II)I" } : Jvm.MethodName)) ∈ g_tbl := g_mem 459 (by decide +kernel) (by decide +kernel)
theorem q_460 : (Jvm.Cond.selects "GlacierYears$Ice" ({ cls := "GlacierYears$Ice", name := "layerYear", desc := "(II)I" } : Jvm.MethodName) ({ cls := "GlacierYears$Ice", name := "layerYear", desc := "(II)I" } : Jvm.MethodName)) ∈ g_tbl := g_mem 460 (by decide +kernel) (by decide +kernel)
theorem q_461 : (Jvm.Cond.code ({ cls := "GlacierYears$Ice", name := "layerYear", desc := "(II)I" } : Jvm.MethodName) prog_2_method_10_code (5 : Nat) (Option.some Jvm.ClassFile.FieldType.int)) ∈ g_tbl := g_mem 461 (by decide +kernel) (by decide +kernel)
theorem q_462 : (Jvm.Cond.methodLink "GlacierYearsLaw" (84 : Nat) ({ cls := "GlacierYears", name := "layer", desc := "(IIII)J" } : Jvm.MethodName)) ∈ g_tbl := g_mem 462 (by decide +kernel) (by decide +kernel)
theorem q_463 : (Jvm.Cond.instanceMethod ({ cls := "GlacierYears", name := "layer", desc := "(IIII)J" } : Jvm.MethodName)) ∈ g_tbl := g_mem 463 (by decide +kernel) (by decide +kernel)
theorem q_464 : (Jvm.Cond.selects "GlacierYears" ({ cls := "GlacierYears", name := "layer", desc := "(IIII)J" } : Jvm.MethodName) ({ cls := "GlacierYears", name := "layer", desc := "(IIII)J" } : Jvm.MethodName)) ∈ g_tbl := g_mem 464 (by decide +kernel) (by decide +kernel)
theorem q_465 : (Jvm.Cond.code ({ cls := "GlacierYears", name := "layer", desc := "(IIII)J" } : Jvm.MethodName) prog_1_method_17_code (7 : Nat) (Option.some Jvm.ClassFile.FieldType.long)) ∈ g_tbl := g_mem 465 (by decide +kernel) (by decide +kernel)
theorem q_466 : (Jvm.Cond.methodLink "GlacierYearsLaw" (89 : Nat) ({ cls := "GlacierYears", name := "sum", desc := "(II)J" } : Jvm.MethodName)) ∈ g_tbl := g_mem 466 (by decide +kernel) (by decide +kernel)
theorem q_467 : (Jvm.Cond.instanceMethod ({ cls := "GlacierYears", name := "sum", desc := "(II)J" } : Jvm.MethodName)) ∈ g_tbl := g_mem 467 (by decide +kernel) (by decide +kernel)
theorem q_468 : (Jvm.Cond.selects "GlacierYears" ({ cls := "GlacierYears", name := "sum", desc := "(II)J" } : Jvm.MethodName) ({ cls := "GlacierYears", name := "sum", desc := "(II)J" } : Jvm.MethodName)) ∈ g_tbl := g_mem 468 (by decide +kernel) (by decide +kernel)
theorem q_469 : (Jvm.Cond.code ({ cls := "GlacierYears", name := "sum", desc := "(II)J" } : Jvm.MethodName) prog_1_method_18_code (3 : Nat) (Option.some Jvm.ClassFile.FieldType.long)) ∈ g_tbl := g_mem 469 (by decide +kernel) (by decide +kernel)
theorem q_470 : (Jvm.Cond.methodLink "GlacierYears" (214 : Nat) ({ cls := "GlacierYears$Ice", name := "tallyOfAll", desc := "(I)J" } : Jvm.MethodName)) ∈ g_tbl := g_mem 470 (by decide +kernel) (by decide +kernel)
theorem q_471 : (Jvm.Cond.instanceMethod ({ cls := "GlacierYears$Ice", name := "tallyOfAll", desc := "(I)J" } : Jvm.MethodName)) ∈ g_tbl := g_mem 471 (by decide +kernel) (by decide +kernel)
theorem q_472 : (Jvm.Cond.selects "GlacierYears$Ice" ({ cls := "GlacierYears$Ice", name := "tallyOfAll", desc := "(I)J" } : Jvm.MethodName) ({ cls := "GlacierYears$Ice", name := "tallyOfAll", desc := "(I)J" } : Jvm.MethodName)) ∈ g_tbl := g_mem 472 (by decide +kernel) (by decide +kernel)
theorem q_473 : (Jvm.Cond.code ({ cls := "GlacierYears$Ice", name := "tallyOfAll", desc := "(I)J" } : Jvm.MethodName) prog_2_method_12_code (5 : Nat) (Option.some Jvm.ClassFile.FieldType.long)) ∈ g_tbl := g_mem 473 (by decide +kernel) (by decide +kernel)
theorem q_474 : (Jvm.Cond.methodLink "GlacierYearsLaw" (94 : Nat) ({ cls := "GlacierYears", name := "about", desc := "(I)J" } : Jvm.MethodName)) ∈ g_tbl := g_mem 474 (by decide +kernel) (by decide +kernel)
theorem q_475 : (Jvm.Cond.instanceMethod ({ cls := "GlacierYears", name := "about", desc := "(I)J" } : Jvm.MethodName)) ∈ g_tbl := g_mem 475 (by decide +kernel) (by decide +kernel)
theorem q_476 : (Jvm.Cond.selects "GlacierYears" ({ cls := "GlacierYears", name := "about", desc := "(I)J" } : Jvm.MethodName) ({ cls := "GlacierYears", name := "about", desc := "(I)J" } : Jvm.MethodName)) ∈ g_tbl := g_mem 476 (by decide +kernel) (by decide +kernel)
theorem q_477 : (Jvm.Cond.code ({ cls := "GlacierYears", name := "about", desc := "(I)J" } : Jvm.MethodName) prog_1_method_19_code (3 : Nat) (Option.some Jvm.ClassFile.FieldType.long)) ∈ g_tbl := g_mem 477 (by decide +kernel) (by decide +kernel)
theorem q_478 : (Jvm.Cond.methodLink "GlacierYears" (220 : Nat) ({ cls := "GlacierYears", name := "thickestPlace", desc := "()I" } : Jvm.MethodName)) ∈ g_tbl := g_mem 478 (by decide +kernel) (by decide +kernel)
theorem q_480 : (Jvm.Cond.instanceMethod ({ cls := "GlacierYears", name := "thickestPlace", desc := "()I" } : Jvm.MethodName)) ∈ g_tbl := g_mem 480 (by decide +kernel) (by decide +kernel)
theorem q_481 : (Jvm.Cond.code ({ cls := "GlacierYears", name := "thickestPlace", desc := "()I" } : Jvm.MethodName) prog_1_method_43_code (6 : Nat) (Option.some Jvm.ClassFile.FieldType.int)) ∈ g_tbl := g_mem 481 (by decide +kernel) (by decide +kernel)
theorem q_482 : (Jvm.Cond.methodLink "GlacierYears" (223 : Nat) ({ cls := "GlacierYears", name := "icyCells", desc := "()I" } : Jvm.MethodName)) ∈ g_tbl := g_mem 482 (by decide +kernel) (by decide +kernel)
theorem q_484 : (Jvm.Cond.instanceMethod ({ cls := "GlacierYears", name := "icyCells", desc := "()I" } : Jvm.MethodName)) ∈ g_tbl := g_mem 484 (by decide +kernel) (by decide +kernel)
theorem q_485 : (Jvm.Cond.code ({ cls := "GlacierYears", name := "icyCells", desc := "()I" } : Jvm.MethodName) prog_1_method_42_code (3 : Nat) (Option.some Jvm.ClassFile.FieldType.int)) ∈ g_tbl := g_mem 485 (by decide +kernel) (by decide +kernel)
theorem q_486 : (Jvm.Cond.methodLink "GlacierYears" (226 : Nat) ({ cls := "GlacierYears", name := "lowestIceSurface", desc := "()J" } : Jvm.MethodName)) ∈ g_tbl := g_mem 486 (by decide +kernel) (by decide +kernel)
theorem q_488 : (Jvm.Cond.instanceMethod ({ cls := "GlacierYears", name := "lowestIceSurface", desc := "()J" } : Jvm.MethodName)) ∈ g_tbl := g_mem 488 (by decide +kernel) (by decide +kernel)
theorem q_489 : (Jvm.Cond.code ({ cls := "GlacierYears", name := "lowestIceSurface", desc := "()J" } : Jvm.MethodName) prog_1_method_44_code (5 : Nat) (Option.some Jvm.ClassFile.FieldType.long)) ∈ g_tbl := g_mem 489 (by decide +kernel) (by decide +kernel)
theorem q_490 : (Jvm.Cond.constantLong "GlacierYears" (233 : Nat) (-9 : Int64)) ∈ g_tbl := g_mem 490 (by decide +kernel) (by decide +kernel)
theorem q_491 : (Jvm.Cond.methodLink "GlacierYears" (230 : Nat) ({ cls := "GlacierYears$Ice", name := "oldestYear", desc := "()I" } : Jvm.MethodName)) ∈ g_tbl := g_mem 491 (by decide +kernel) (by decide +kernel)
theorem q_492 : (Jvm.Cond.instanceMethod ({ cls := "GlacierYears$Ice", name := "oldestYear", desc := "()I" } : Jvm.MethodName)) ∈ g_tbl := g_mem 492 (by decide +kernel) (by decide +kernel)
theorem q_493 : (Jvm.Cond.selects "GlacierYears$Ice" ({ cls := "GlacierYears$Ice", name := "oldestYear", desc := "()I" } : Jvm.MethodName) ({ cls := "GlacierYears$Ice", name := "oldestYear", desc := "()I" } : Jvm.MethodName)) ∈ g_tbl := g_mem 493 (by decide +kernel) (by decide +kernel)
theorem q_494 : (Jvm.Cond.code ({ cls := "GlacierYears$Ice", name := "oldestYear", desc := "()I" } : Jvm.MethodName) prog_2_method_11_code (2 : Nat) (Option.some Jvm.ClassFile.FieldType.int)) ∈ g_tbl := g_mem 494 (by decide +kernel) (by decide +kernel)
theorem q_495 : (Jvm.Cond.methodLink "GlacierYearsLaw" (99 : Nat) ({ cls := "GlacierYears", name := "gives", desc := "(III)J" } : Jvm.MethodName)) ∈ g_tbl := g_mem 495 (by decide +kernel) (by decide +kernel)
theorem q_496 : (Jvm.Cond.instanceMethod ({ cls := "GlacierYears", name := "gives", desc := "(III)J" } : Jvm.MethodName)) ∈ g_tbl := g_mem 496 (by decide +kernel) (by decide +kernel)
theorem q_497 : (Jvm.Cond.selects "GlacierYears" ({ cls := "GlacierYears", name := "gives", desc := "(III)J" } : Jvm.MethodName) ({ cls := "GlacierYears", name := "gives", desc := "(III)J" } : Jvm.MethodName)) ∈ g_tbl := g_mem 497 (by decide +kernel) (by decide +kernel)
theorem q_498 : (Jvm.Cond.code ({ cls := "GlacierYears", name := "gives", desc := "(III)J" } : Jvm.MethodName) prog_1_method_20_code (5 : Nat) (Option.some Jvm.ClassFile.FieldType.long)) ∈ g_tbl := g_mem 498 (by decide +kernel) (by decide +kernel)
theorem q_499 : (Jvm.Cond.methodLink "GlacierYearsLaw" (103 : Nat) ({ cls := "GlacierYears", name := "turn", desc := "(I)I" } : Jvm.MethodName)) ∈ g_tbl := g_mem 499 (by decide +kernel) (by decide +kernel)
theorem q_500 : (Jvm.Cond.instanceMethod ({ cls := "GlacierYears", name := "turn", desc := "(I)I" } : Jvm.MethodName)) ∈ g_tbl := g_mem 500 (by decide +kernel) (by decide +kernel)
theorem q_501 : (Jvm.Cond.selects "GlacierYears" ({ cls := "GlacierYears", name := "turn", desc := "(I)I" } : Jvm.MethodName) ({ cls := "GlacierYears", name := "turn", desc := "(I)I" } : Jvm.MethodName)) ∈ g_tbl := g_mem 501 (by decide +kernel) (by decide +kernel)
theorem q_502 : (Jvm.Cond.code ({ cls := "GlacierYears", name := "turn", desc := "(I)I" } : Jvm.MethodName) prog_1_method_21_code (2 : Nat) (Option.some Jvm.ClassFile.FieldType.int)) ∈ g_tbl := g_mem 502 (by decide +kernel) (by decide +kernel)
theorem q_503 : (Jvm.Cond.methodLink "GlacierYears" (238 : Nat) ({ cls := "GlacierYears$Land", name := "becomeCellsOf", desc := "(LGlacierYears$Land;)V" } : Jvm.MethodName)) ∈ g_tbl := g_mem 503 (by decide +kernel) (by decide +kernel)
theorem q_504 : (Jvm.Cond.instanceMethod ({ cls := "GlacierYears$Land", name := "becomeCellsOf", desc := "(LGlacierYears$Land;)V" } : Jvm.MethodName)) ∈ g_tbl := g_mem 504 (by decide +kernel) (by decide +kernel)
theorem q_505 : (Jvm.Cond.selects "GlacierYears$Land" ({ cls := "GlacierYears$Land", name := "becomeCellsOf", desc := "(LGlacierYears$Land;)V" } : Jvm.MethodName) ({ cls := "GlacierYears$Land", name := "becomeCellsOf", desc := "(LGlacierYears$Land;)V" } : Jvm.MethodName)) ∈ g_tbl := g_mem 505 (by decide +kernel) (by decide +kernel)
theorem q_506 : (Jvm.Cond.code ({ cls := "GlacierYears$Land", name := "becomeCellsOf", desc := "(LGlacierYears$Land;)V" } : Jvm.MethodName) prog_3_method_12_code (2 : Nat) (Option.none : Option Jvm.ClassFile.FieldType)) ∈ g_tbl := g_mem 506 (by decide +kernel) (by decide +kernel)
theorem q_507 : (Jvm.Cond.methodLink "GlacierYears$Land" (46 : Nat) ({ cls := "java/lang/System", name := "arraycopy", desc := "(Ljava/lang/Object;ILjava/lang/Object;II)V" } : Jvm.MethodName)) ∈ g_tbl := g_mem 507 (by decide +kernel) (by decide +kernel)
theorem q_508 : (Jvm.Cond.methodLink "GlacierYears" (245 : Nat) ({ cls := "GlacierYears", name := "turnCells", desc := "(Z)V" } : Jvm.MethodName)) ∈ g_tbl := g_mem 508 (by decide +kernel) (by decide +kernel)
theorem q_510 : (Jvm.Cond.instanceMethod ({ cls := "GlacierYears", name := "turnCells", desc := "(Z)V" } : Jvm.MethodName)) ∈ g_tbl := g_mem 510 (by decide +kernel) (by decide +kernel)
theorem q_511 : (Jvm.Cond.code ({ cls := "GlacierYears", name := "turnCells", desc := "(Z)V" } : Jvm.MethodName) prog_1_method_45_code (5 : Nat) (Option.none : Option Jvm.ClassFile.FieldType)) ∈ g_tbl := g_mem 511 (by decide +kernel) (by decide +kernel)
theorem q_512 : (Jvm.Cond.methodLink "GlacierYears" (312 : Nat) ({ cls := "GlacierYears", name := "fetchCell", desc := "(III)V" } : Jvm.MethodName)) ∈ g_tbl := g_mem 512 (by decide +kernel) (by decide +kernel)
theorem q_514 : (Jvm.Cond.instanceMethod ({ cls := "GlacierYears", name := "fetchCell", desc := "(III)V" } : Jvm.MethodName)) ∈ g_tbl := g_mem 514 (by decide +kernel) (by decide +kernel)
theorem q_515 : (Jvm.Cond.code ({ cls := "GlacierYears", name := "fetchCell", desc := "(III)V" } : Jvm.MethodName) prog_1_method_46_code (5 : Nat) (Option.none : Option Jvm.ClassFile.FieldType)) ∈ g_tbl := g_mem 515 (by decide +kernel) (by decide +kernel)
theorem q_516 : (Jvm.Cond.methodLink "GlacierYears" (316 : Nat) ({ cls := "GlacierYears$Land", name := "settleAs", desc := "(ILGlacierYears$Land;I)V" } : Jvm.MethodName)) ∈ g_tbl := g_mem 516 (by decide +kernel) (by decide +kernel)
theorem q_517 : (Jvm.Cond.instanceMethod ({ cls := "GlacierYears$Land", name := "settleAs", desc := "(ILGlacierYears$Land;I)V" } : Jvm.MethodName)) ∈ g_tbl := g_mem 517 (by decide +kernel) (by decide +kernel)
theorem q_518 : (Jvm.Cond.selects "GlacierYears$Land" ({ cls := "GlacierYears$Land", name := "settleAs", desc := "(ILGlacierYears$Land;I)V" } : Jvm.MethodName) ({ cls := "GlacierYears$Land", name := "settleAs", desc := "(ILGlacierYears$Land;I)V" } : Jvm.MethodName)) ∈ g_tbl := g_mem 518 (by decide +kernel) (by decide +kernel)
theorem q_519 : (Jvm.Cond.code ({ cls := "GlacierYears$Land", name := "settleAs", desc := "(ILGlacierYears$Land;I)V" } : Jvm.MethodName) prog_3_method_10_code (4 : Nat) (Option.none : Option Jvm.ClassFile.FieldType)) ∈ g_tbl := g_mem 519 (by decide +kernel) (by decide +kernel)
theorem q_520 : (Jvm.Cond.methodLink "GlacierYears" (320 : Nat) ({ cls := "GlacierYears$Ice", name := "settleAs", desc := "(ILGlacierYears$Ice;I)V" } : Jvm.MethodName)) ∈ g_tbl := g_mem 520 (by decide +kernel) (by decide +kernel)
theorem q_521 : (Jvm.Cond.instanceMethod ({ cls := "GlacierYears$Ice", name := "settleAs", desc := "(ILGlacierYears$Ice;I)V" } : Jvm.MethodName)) ∈ g_tbl := g_mem 521 (by decide +kernel) (by decide +kernel)
theorem q_522 : (Jvm.Cond.selects "GlacierYears$Ice" ({ cls := "GlacierYears$Ice", name := "settleAs", desc := "(ILGlacierYears$Ice;I)V" } : Jvm.MethodName) ({ cls := "GlacierYears$Ice", name := "settleAs", desc := "(ILGlacierYears$Ice;I)V" } : Jvm.MethodName)) ∈ g_tbl := g_mem 522 (by decide +kernel) (by decide +kernel)
theorem q_523 : (Jvm.Cond.code ({ cls := "GlacierYears$Ice", name := "settleAs", desc := "(ILGlacierYears$Ice;I)V" } : Jvm.MethodName) prog_2_method_4_code (4 : Nat) (Option.none : Option Jvm.ClassFile.FieldType)) ∈ g_tbl := g_mem 523 (by decide +kernel) (by decide +kernel)
theorem q_524 : (Jvm.Cond.methodLink "GlacierYearsLaw" (107 : Nat) ({ cls := "GlacierYears", name := "count", desc := "(I)I" } : Jvm.MethodName)) ∈ g_tbl := g_mem 524 (by decide +kernel) (by decide +kernel)
theorem q_525 : (Jvm.Cond.instanceMethod ({ cls := "GlacierYears", name := "count", desc := "(I)I" } : Jvm.MethodName)) ∈ g_tbl := g_mem 525 (by decide +kernel) (by decide +kernel)
theorem q_526 : (Jvm.Cond.selects "GlacierYears" ({ cls := "GlacierYears", name := "count", desc := "(I)I" } : Jvm.MethodName) ({ cls := "GlacierYears", name := "count", desc := "(I)I" } : Jvm.MethodName)) ∈ g_tbl := g_mem 526 (by decide +kernel) (by decide +kernel)
theorem q_527 : (Jvm.Cond.code ({ cls := "GlacierYears", name := "count", desc := "(I)I" } : Jvm.MethodName) prog_1_method_22_code (2 : Nat) (Option.some Jvm.ClassFile.FieldType.int)) ∈ g_tbl := g_mem 527 (by decide +kernel) (by decide +kernel)
theorem q_528 : (Jvm.Cond.methodLink "GlacierYears" (258 : Nat) ({ cls := "GlacierYears", name := "stripsThere", desc := "()I" } : Jvm.MethodName)) ∈ g_tbl := g_mem 528 (by decide +kernel) (by decide +kernel)
theorem q_530 : (Jvm.Cond.instanceMethod ({ cls := "GlacierYears", name := "stripsThere", desc := "()I" } : Jvm.MethodName)) ∈ g_tbl := g_mem 530 (by decide +kernel) (by decide +kernel)
theorem q_531 : (Jvm.Cond.code ({ cls := "GlacierYears", name := "stripsThere", desc := "()I" } : Jvm.MethodName) prog_1_method_29_code (3 : Nat) (Option.some Jvm.ClassFile.FieldType.int)) ∈ g_tbl := g_mem 531 (by decide +kernel) (by decide +kernel)
theorem q_532 : (Jvm.Cond.classLink "GlacierYearsLaw" (10 : Nat) "GlacierYearsModel") ∈ g_tbl := g_mem 532 (by decide +kernel) (by decide +kernel)
theorem q_533 : (Jvm.Cond.instantiable "GlacierYearsModel" (27 : Nat)) ∈ g_tbl := g_mem 533 (by decide +kernel) (by decide +kernel)
theorem q_534 : (Jvm.Cond.methodLink "GlacierYearsLaw" (12 : Nat) ({ cls := "GlacierYearsModel", name := "<init>", desc := "()V" } : Jvm.MethodName)) ∈ g_tbl := g_mem 534 (by decide +kernel) (by decide +kernel)
theorem q_535 : (Jvm.Cond.instanceMethod ({ cls := "GlacierYearsModel", name := "<init>", desc := "()V" } : Jvm.MethodName)) ∈ g_tbl := g_mem 535 (by decide +kernel) (by decide +kernel)
theorem q_536 : (Jvm.Cond.code ({ cls := "GlacierYearsModel", name := "<init>", desc := "()V" } : Jvm.MethodName) prog_8_method_1_code (2 : Nat) (Option.none : Option Jvm.ClassFile.FieldType)) ∈ g_tbl := g_mem 536 (by decide +kernel) (by decide +kernel)
theorem q_537 : (Jvm.Cond.methodLink "GlacierYearsModel" (1 : Nat) ({ cls := "java/lang/Object", name := "<init>", desc := "()V" } : Jvm.MethodName)) ∈ g_tbl := g_mem 537 (by decide +kernel) (by decide +kernel)
theorem q_538 : (Jvm.Cond.fieldLink "GlacierYearsModel" (7 : Nat) "GlacierYearsModel" "laneOf" "[I") ∈ g_tbl := g_mem 538 (by decide +kernel) (by decide +kernel)
theorem q_539 : (Jvm.Cond.fieldLink "GlacierYearsModel" (13 : Nat) "GlacierYearsModel" "many" "[I") ∈ g_tbl := g_mem 539 (by decide +kernel) (by decide +kernel)
theorem q_540 : (Jvm.Cond.fieldLink "GlacierYearsModel" (16 : Nat) "GlacierYearsModel" "number" "[J") ∈ g_tbl := g_mem 540 (by decide +kernel) (by decide +kernel)
theorem q_541 : (Jvm.Cond.fieldLink "GlacierYearsModel" (72 : Nat) "GlacierYearsModel" "failures" "I") ∈ g_tbl := g_mem 541 (by decide +kernel) (by decide +kernel)
theorem q_542 : (Jvm.Cond.fieldLink "GlacierYearsModel" (20 : Nat) "GlacierYearsModel" "held" "[J") ∈ g_tbl := g_mem 542 (by decide +kernel) (by decide +kernel)
theorem q_543 : (Jvm.Cond.fieldLink "GlacierYearsModel" (99 : Nat) "GlacierYearsModel" "width" "I") ∈ g_tbl := g_mem 543 (by decide +kernel) (by decide +kernel)
theorem q_544 : (Jvm.Cond.fieldLink "GlacierYearsModel" (102 : Nat) "GlacierYearsModel" "height" "I") ∈ g_tbl := g_mem 544 (by decide +kernel) (by decide +kernel)
theorem q_545 : (Jvm.Cond.fieldLink "GlacierYearsModel" (107 : Nat) "GlacierYearsModel" "year" "I") ∈ g_tbl := g_mem 545 (by decide +kernel) (by decide +kernel)
theorem q_546 : (Jvm.Cond.fieldLink "GlacierYearsModel" (23 : Nat) "GlacierYearsModel" "kind" "[I") ∈ g_tbl := g_mem 546 (by decide +kernel) (by decide +kernel)
theorem q_547 : (Jvm.Cond.fieldLink "GlacierYearsModel" (26 : Nat) "GlacierYearsModel" "hundredths" "[I") ∈ g_tbl := g_mem 547 (by decide +kernel) (by decide +kernel)
theorem q_548 : (Jvm.Cond.fieldLink "GlacierYearsModel" (29 : Nat) "GlacierYearsModel" "level" "[I") ∈ g_tbl := g_mem 548 (by decide +kernel) (by decide +kernel)
theorem q_549 : (Jvm.Cond.fieldLink "GlacierYearsModel" (32 : Nat) "GlacierYearsModel" "ice" "[J") ∈ g_tbl := g_mem 549 (by decide +kernel) (by decide +kernel)
theorem q_550 : (Jvm.Cond.fieldLink "GlacierYearsModel" (35 : Nat) "GlacierYearsModel" "sums" "[J") ∈ g_tbl := g_mem 550 (by decide +kernel) (by decide +kernel)
theorem q_551 : (Jvm.Cond.fieldLink "GlacierYearsModel" (38 : Nat) "GlacierYearsModel" "snow" "[I") ∈ g_tbl := g_mem 551 (by decide +kernel) (by decide +kernel)
theorem q_552 : (Jvm.Cond.fieldLink "GlacierYearsModel" (41 : Nat) "GlacierYearsModel" "melt" "[I") ∈ g_tbl := g_mem 552 (by decide +kernel) (by decide +kernel)
theorem q_553 : (Jvm.Cond.fieldLink "GlacierYearsModel" (131 : Nat) "GlacierYearsModel" "fraction" "I") ∈ g_tbl := g_mem 553 (by decide +kernel) (by decide +kernel)
theorem q_554 : (Jvm.Cond.fieldLink "GlacierYearsModel" (44 : Nat) "GlacierYearsModel" "cap" "I") ∈ g_tbl := g_mem 554 (by decide +kernel) (by decide +kernel)
theorem q_555 : (Jvm.Cond.fieldLink "GlacierYearsModel" (110 : Nat) "GlacierYearsModel" "kept" "I") ∈ g_tbl := g_mem 555 (by decide +kernel) (by decide +kernel)
theorem q_556 : (Jvm.Cond.fieldLink "GlacierYearsModel" (140 : Nat) "GlacierYearsModel" "ring" "I") ∈ g_tbl := g_mem 556 (by decide +kernel) (by decide +kernel)
theorem q_557 : (Jvm.Cond.fieldLink "GlacierYearsModel" (48 : Nat) "GlacierYearsModel" "keptIce" "[J") ∈ g_tbl := g_mem 557 (by decide +kernel) (by decide +kernel)
theorem q_558 : (Jvm.Cond.fieldLink "GlacierYearsModel" (51 : Nat) "GlacierYearsModel" "keptSums" "[J") ∈ g_tbl := g_mem 558 (by decide +kernel) (by decide +kernel)
theorem q_559 : (Jvm.Cond.fieldLink "GlacierYearsModel" (54 : Nat) "GlacierYearsModel" "gift" "[J") ∈ g_tbl := g_mem 559 (by decide +kernel) (by decide +kernel)
theorem q_560 : (Jvm.Cond.fieldLink "GlacierYearsModel" (57 : Nat) "GlacierYearsModel" "before" "[J") ∈ g_tbl := g_mem 560 (by decide +kernel) (by decide +kernel)
theorem q_561 : (Jvm.Cond.fieldLink "GlacierYearsModel" (60 : Nat) "GlacierYearsModel" "stood" "[J") ∈ g_tbl := g_mem 561 (by decide +kernel) (by decide +kernel)
theorem q_562 : (Jvm.Cond.fieldLink "GlacierYearsModel" (63 : Nat) "GlacierYearsModel" "oldKind" "[I") ∈ g_tbl := g_mem 562 (by decide +kernel) (by decide +kernel)
theorem q_563 : (Jvm.Cond.fieldLink "GlacierYearsModel" (66 : Nat) "GlacierYearsModel" "oldShare" "[I") ∈ g_tbl := g_mem 563 (by decide +kernel) (by decide +kernel)
theorem q_564 : (Jvm.Cond.fieldLink "GlacierYearsModel" (69 : Nat) "GlacierYearsModel" "oldLevel" "[I") ∈ g_tbl := g_mem 564 (by decide +kernel) (by decide +kernel)
theorem q_565 : (Jvm.Cond.laysFinal "GlacierYearsModel" "GlacierYearsModel" "laneOf" "[I") ∈ g_tbl := g_mem 565 (by decide +kernel) (by decide +kernel)
theorem q_567 : (Jvm.Cond.laysFinal "GlacierYearsModel" "GlacierYearsModel" "many" "[I") ∈ g_tbl := g_mem 567 (by decide +kernel) (by decide +kernel)
theorem q_569 : (Jvm.Cond.laysFinal "GlacierYearsModel" "GlacierYearsModel" "number" "[J") ∈ g_tbl := g_mem 569 (by decide +kernel) (by decide +kernel)
theorem q_571 : (Jvm.Cond.lays "GlacierYearsModel" "GlacierYearsModel" "failures" "I") ∈ g_tbl := g_mem 571 (by decide +kernel) (by decide +kernel)
theorem q_573 : (Jvm.Cond.laysFinal "GlacierYearsModel" "GlacierYearsModel" "held" "[J") ∈ g_tbl := g_mem 573 (by decide +kernel) (by decide +kernel)
theorem q_575 : (Jvm.Cond.lays "GlacierYearsModel" "GlacierYearsModel" "width" "I") ∈ g_tbl := g_mem 575 (by decide +kernel) (by decide +kernel)
theorem q_577 : (Jvm.Cond.lays "GlacierYearsModel" "GlacierYearsModel" "height" "I") ∈ g_tbl := g_mem 577 (by decide +kernel) (by decide +kernel)
theorem q_579 : (Jvm.Cond.lays "GlacierYearsModel" "GlacierYearsModel" "year" "I") ∈ g_tbl := g_mem 579 (by decide +kernel) (by decide +kernel)
theorem q_581 : (Jvm.Cond.laysFinal "GlacierYearsModel" "GlacierYearsModel" "kind" "[I") ∈ g_tbl := g_mem 581 (by decide +kernel) (by decide +kernel)
theorem q_583 : (Jvm.Cond.laysFinal "GlacierYearsModel" "GlacierYearsModel" "hundredths" "[I") ∈ g_tbl := g_mem 583 (by decide +kernel) (by decide +kernel)
theorem q_585 : (Jvm.Cond.laysFinal "GlacierYearsModel" "GlacierYearsModel" "level" "[I") ∈ g_tbl := g_mem 585 (by decide +kernel) (by decide +kernel)
theorem q_587 : (Jvm.Cond.laysFinal "GlacierYearsModel" "GlacierYearsModel" "ice" "[J") ∈ g_tbl := g_mem 587 (by decide +kernel) (by decide +kernel)
theorem q_589 : (Jvm.Cond.laysFinal "GlacierYearsModel" "GlacierYearsModel" "sums" "[J") ∈ g_tbl := g_mem 589 (by decide +kernel) (by decide +kernel)
theorem q_591 : (Jvm.Cond.laysFinal "GlacierYearsModel" "GlacierYearsModel" "snow" "[I") ∈ g_tbl := g_mem 591 (by decide +kernel) (by decide +kernel)
theorem q_593 : (Jvm.Cond.laysFinal "GlacierYearsModel" "GlacierYearsModel" "melt" "[I") ∈ g_tbl := g_mem 593 (by decide +kernel) (by decide +kernel)
theorem q_595 : (Jvm.Cond.lays "GlacierYearsModel" "GlacierYearsModel" "fraction" "I") ∈ g_tbl := g_mem 595 (by decide +kernel) (by decide +kernel)
theorem q_597 : (Jvm.Cond.lays "GlacierYearsModel" "GlacierYearsModel" "cap" "I") ∈ g_tbl := g_mem 597 (by decide +kernel) (by decide +kernel)
theorem q_599 : (Jvm.Cond.lays "GlacierYearsModel" "GlacierYearsModel" "kept" "I") ∈ g_tbl := g_mem 599 (by decide +kernel) (by decide +kernel)
theorem q_601 : (Jvm.Cond.lays "GlacierYearsModel" "GlacierYearsModel" "ring" "I") ∈ g_tbl := g_mem 601 (by decide +kernel) (by decide +kernel)
theorem q_603 : (Jvm.Cond.laysFinal "GlacierYearsModel" "GlacierYearsModel" "keptIce" "[J") ∈ g_tbl := g_mem 603 (by decide +kernel) (by decide +kernel)
theorem q_605 : (Jvm.Cond.laysFinal "GlacierYearsModel" "GlacierYearsModel" "keptSums" "[J") ∈ g_tbl := g_mem 605 (by decide +kernel) (by decide +kernel)
theorem q_607 : (Jvm.Cond.laysFinal "GlacierYearsModel" "GlacierYearsModel" "gift" "[J") ∈ g_tbl := g_mem 607 (by decide +kernel) (by decide +kernel)
theorem q_609 : (Jvm.Cond.laysFinal "GlacierYearsModel" "GlacierYearsModel" "before" "[J") ∈ g_tbl := g_mem 609 (by decide +kernel) (by decide +kernel)
theorem q_611 : (Jvm.Cond.laysFinal "GlacierYearsModel" "GlacierYearsModel" "stood" "[J") ∈ g_tbl := g_mem 611 (by decide +kernel) (by decide +kernel)
theorem q_613 : (Jvm.Cond.laysFinal "GlacierYearsModel" "GlacierYearsModel" "oldKind" "[I") ∈ g_tbl := g_mem 613 (by decide +kernel) (by decide +kernel)
theorem q_615 : (Jvm.Cond.laysFinal "GlacierYearsModel" "GlacierYearsModel" "oldShare" "[I") ∈ g_tbl := g_mem 615 (by decide +kernel) (by decide +kernel)
theorem q_617 : (Jvm.Cond.laysFinal "GlacierYearsModel" "GlacierYearsModel" "oldLevel" "[I") ∈ g_tbl := g_mem 617 (by decide +kernel) (by decide +kernel)
theorem q_620 : (Jvm.Cond.methodLink "GlacierYearsLaw" (17 : Nat) ({ cls := "GlacierYearsModel", name := "strip", desc := "(III)I" } : Jvm.MethodName)) ∈ g_tbl := g_mem 620 (by decide +kernel) (by decide +kernel)
theorem q_621 : (Jvm.Cond.instanceMethod ({ cls := "GlacierYearsModel", name := "strip", desc := "(III)I" } : Jvm.MethodName)) ∈ g_tbl := g_mem 621 (by decide +kernel) (by decide +kernel)
theorem q_622 : (Jvm.Cond.selects "GlacierYearsModel" ({ cls := "GlacierYearsModel", name := "strip", desc := "(III)I" } : Jvm.MethodName) ({ cls := "GlacierYearsModel", name := "strip", desc := "(III)I" } : Jvm.MethodName)) ∈ g_tbl := g_mem 622 (by decide +kernel) (by decide +kernel)
theorem q_623 : (Jvm.Cond.code ({ cls := "GlacierYearsModel", name := "strip", desc := "(III)I" } : Jvm.MethodName) prog_8_method_7_code (5 : Nat) (Option.some Jvm.ClassFile.FieldType.int)) ∈ g_tbl := g_mem 623 (by decide +kernel) (by decide +kernel)
theorem q_624 : (Jvm.Cond.methodLink "GlacierYearsModel" (81 : Nat) ({ cls := "GlacierYearsModel", name := "isStrip", desc := "(I)Z" } : Jvm.MethodName)) ∈ g_tbl := g_mem 624 (by decide +kernel) (by decide +kernel)
theorem q_625 : (Jvm.Cond.static ({ cls := "GlacierYearsModel", name := "isStrip", desc := "(I)Z" } : Jvm.MethodName)) ∈ g_tbl := g_mem 625 (by decide +kernel) (by decide +kernel)
theorem q_626 : (Jvm.Cond.code ({ cls := "GlacierYearsModel", name := "isStrip", desc := "(I)Z" } : Jvm.MethodName) prog_8_method_6_code (1 : Nat) (Option.some Jvm.ClassFile.FieldType.boolean)) ∈ g_tbl := g_mem 626 (by decide +kernel) (by decide +kernel)
theorem q_627 : (Jvm.Cond.constantLong "GlacierYearsModel" (75 : Nat) (7 : Int64)) ∈ g_tbl := g_mem 627 (by decide +kernel) (by decide +kernel)
theorem q_628 : (Jvm.Cond.methodLink "GlacierYearsModel" (77 : Nat) ({ cls := "GlacierYearsModel", name := "in", desc := "(JJJ)Z" } : Jvm.MethodName)) ∈ g_tbl := g_mem 628 (by decide +kernel) (by decide +kernel)
theorem q_629 : (Jvm.Cond.static ({ cls := "GlacierYearsModel", name := "in", desc := "(JJJ)Z" } : Jvm.MethodName)) ∈ g_tbl := g_mem 629 (by decide +kernel) (by decide +kernel)
theorem q_630 : (Jvm.Cond.code ({ cls := "GlacierYearsModel", name := "in", desc := "(JJJ)Z" } : Jvm.MethodName) prog_8_method_3_code (6 : Nat) (Option.some Jvm.ClassFile.FieldType.boolean)) ∈ g_tbl := g_mem 630 (by decide +kernel) (by decide +kernel)
theorem q_631 : (Jvm.Cond.constantLong "GlacierYearsModel" (85 : Nat) (2 : Int64)) ∈ g_tbl := g_mem 631 (by decide +kernel) (by decide +kernel)
theorem q_632 : (Jvm.Cond.methodLink "GlacierYearsModel" (87 : Nat) ({ cls := "GlacierYearsModel", name := "failed", desc := "(I)I" } : Jvm.MethodName)) ∈ g_tbl := g_mem 632 (by decide +kernel) (by decide +kernel)
theorem q_634 : (Jvm.Cond.instanceMethod ({ cls := "GlacierYearsModel", name := "failed", desc := "(I)I" } : Jvm.MethodName)) ∈ g_tbl := g_mem 634 (by decide +kernel) (by decide +kernel)
theorem q_635 : (Jvm.Cond.code ({ cls := "GlacierYearsModel", name := "failed", desc := "(I)I" } : Jvm.MethodName) prog_8_method_4_code (2 : Nat) (Option.some Jvm.ClassFile.FieldType.int)) ∈ g_tbl := g_mem 635 (by decide +kernel) (by decide +kernel)
theorem q_636 : (Jvm.Cond.methodLink "GlacierYearsLaw" (22 : Nat) ({ cls := "GlacierYearsModel", name := "tear", desc := "(I)I" } : Jvm.MethodName)) ∈ g_tbl := g_mem 636 (by decide +kernel) (by decide +kernel)
theorem q_637 : (Jvm.Cond.instanceMethod ({ cls := "GlacierYearsModel", name := "tear", desc := "(I)I" } : Jvm.MethodName)) ∈ g_tbl := g_mem 637 (by decide +kernel) (by decide +kernel)
theorem q_638 : (Jvm.Cond.selects "GlacierYearsModel" ({ cls := "GlacierYearsModel", name := "tear", desc := "(I)I" } : Jvm.MethodName) ({ cls := "GlacierYearsModel", name := "tear", desc := "(I)I" } : Jvm.MethodName)) ∈ g_tbl := g_mem 638 (by decide +kernel) (by decide +kernel)
theorem q_639 : (Jvm.Cond.code ({ cls := "GlacierYearsModel", name := "tear", desc := "(I)I" } : Jvm.MethodName) prog_8_method_8_code (3 : Nat) (Option.some Jvm.ClassFile.FieldType.int)) ∈ g_tbl := g_mem 639 (by decide +kernel) (by decide +kernel)
theorem q_640 : (Jvm.Cond.methodLink "GlacierYearsLaw" (29 : Nat) ({ cls := "GlacierYearsModel", name := "put", desc := "(IIJ)I" } : Jvm.MethodName)) ∈ g_tbl := g_mem 640 (by decide +kernel) (by decide +kernel)
theorem q_641 : (Jvm.Cond.instanceMethod ({ cls := "GlacierYearsModel", name := "put", desc := "(IIJ)I" } : Jvm.MethodName)) ∈ g_tbl := g_mem 641 (by decide +kernel) (by decide +kernel)
theorem q_642 : (Jvm.Cond.selects "GlacierYearsModel" ({ cls := "GlacierYearsModel", name := "put", desc := "(IIJ)I" } : Jvm.MethodName) ({ cls := "GlacierYearsModel", name := "put", desc := "(IIJ)I" } : Jvm.MethodName)) ∈ g_tbl := g_mem 642 (by decide +kernel) (by decide +kernel)
theorem q_643 : (Jvm.Cond.code ({ cls := "GlacierYearsModel", name := "put", desc := "(IIJ)I" } : Jvm.MethodName) prog_8_method_9_code (5 : Nat) (Option.some Jvm.ClassFile.FieldType.int)) ∈ g_tbl := g_mem 643 (by decide +kernel) (by decide +kernel)
theorem q_644 : (Jvm.Cond.methodLink "GlacierYearsModel" (91 : Nat) ({ cls := "GlacierYearsModel", name := "cut", desc := "(IJ)J" } : Jvm.MethodName)) ∈ g_tbl := g_mem 644 (by decide +kernel) (by decide +kernel)
theorem q_645 : (Jvm.Cond.static ({ cls := "GlacierYearsModel", name := "cut", desc := "(IJ)J" } : Jvm.MethodName)) ∈ g_tbl := g_mem 645 (by decide +kernel) (by decide +kernel)
theorem q_646 : (Jvm.Cond.code ({ cls := "GlacierYearsModel", name := "cut", desc := "(IJ)J" } : Jvm.MethodName) prog_8_method_5_code (3 : Nat) (Option.some Jvm.ClassFile.FieldType.long)) ∈ g_tbl := g_mem 646 (by decide +kernel) (by decide +kernel)
theorem q_647 : (Jvm.Cond.methodLink "GlacierYearsLaw" (34 : Nat) ({ cls := "GlacierYearsModel", name := "at", desc := "(III)J" } : Jvm.MethodName)) ∈ g_tbl := g_mem 647 (by decide +kernel) (by decide +kernel)
theorem q_648 : (Jvm.Cond.instanceMethod ({ cls := "GlacierYearsModel", name := "at", desc := "(III)J" } : Jvm.MethodName)) ∈ g_tbl := g_mem 648 (by decide +kernel) (by decide +kernel)
theorem q_649 : (Jvm.Cond.selects "GlacierYearsModel" ({ cls := "GlacierYearsModel", name := "at", desc := "(III)J" } : Jvm.MethodName) ({ cls := "GlacierYearsModel", name := "at", desc := "(III)J" } : Jvm.MethodName)) ∈ g_tbl := g_mem 649 (by decide +kernel) (by decide +kernel)
theorem q_650 : (Jvm.Cond.code ({ cls := "GlacierYearsModel", name := "at", desc := "(III)J" } : Jvm.MethodName) prog_8_method_10_code (4 : Nat) (Option.some Jvm.ClassFile.FieldType.long)) ∈ g_tbl := g_mem 650 (by decide +kernel) (by decide +kernel)
theorem q_651 : (Jvm.Cond.constantLong "GlacierYearsModel" (95 : Nat) (-1 : Int64)) ∈ g_tbl := g_mem 651 (by decide +kernel) (by decide +kernel)
theorem q_652 : (Jvm.Cond.constantLong "GlacierYearsModel" (97 : Nat) (-2 : Int64)) ∈ g_tbl := g_mem 652 (by decide +kernel) (by decide +kernel)
theorem q_653 : (Jvm.Cond.methodLink "GlacierYearsLaw" (39 : Nat) ({ cls := "GlacierYearsModel", name := "copy", desc := "(IIIII)I" } : Jvm.MethodName)) ∈ g_tbl := g_mem 653 (by decide +kernel) (by decide +kernel)
theorem q_654 : (Jvm.Cond.instanceMethod ({ cls := "GlacierYearsModel", name := "copy", desc := "(IIIII)I" } : Jvm.MethodName)) ∈ g_tbl := g_mem 654 (by decide +kernel) (by decide +kernel)
theorem q_655 : (Jvm.Cond.selects "GlacierYearsModel" ({ cls := "GlacierYearsModel", name := "copy", desc := "(IIIII)I" } : Jvm.MethodName) ({ cls := "GlacierYearsModel", name := "copy", desc := "(IIIII)I" } : Jvm.MethodName)) ∈ g_tbl := g_mem 655 (by decide +kernel) (by decide +kernel)
theorem q_656 : (Jvm.Cond.code ({ cls := "GlacierYearsModel", name := "copy", desc := "(IIIII)I" } : Jvm.MethodName) prog_8_method_11_code (7 : Nat) (Option.some Jvm.ClassFile.FieldType.int)) ∈ g_tbl := g_mem 656 (by decide +kernel) (by decide +kernel)
theorem q_657 : (Jvm.Cond.methodLink "GlacierYearsLaw" (44 : Nat) ({ cls := "GlacierYearsModel", name := "ground", desc := "(II)I" } : Jvm.MethodName)) ∈ g_tbl := g_mem 657 (by decide +kernel) (by decide +kernel)
theorem q_658 : (Jvm.Cond.instanceMethod ({ cls := "GlacierYearsModel", name := "ground", desc := "(II)I" } : Jvm.MethodName)) ∈ g_tbl := g_mem 658 (by decide +kernel) (by decide +kernel)
theorem q_659 : (Jvm.Cond.selects "GlacierYearsModel" ({ cls := "GlacierYearsModel", name := "ground", desc := "(II)I" } : Jvm.MethodName) ({ cls := "GlacierYearsModel", name := "ground", desc := "(II)I" } : Jvm.MethodName)) ∈ g_tbl := g_mem 659 (by decide +kernel) (by decide +kernel)
theorem q_660 : (Jvm.Cond.code ({ cls := "GlacierYearsModel", name := "ground", desc := "(II)I" } : Jvm.MethodName) prog_8_method_13_code (8 : Nat) (Option.some Jvm.ClassFile.FieldType.int)) ∈ g_tbl := g_mem 660 (by decide +kernel) (by decide +kernel)
theorem q_661 : (Jvm.Cond.constantLong "GlacierYearsModel" (105 : Nat) (8 : Int64)) ∈ g_tbl := g_mem 661 (by decide +kernel) (by decide +kernel)
theorem q_662 : (Jvm.Cond.constantLong "GlacierYearsModel" (113 : Nat) (9999 : Int64)) ∈ g_tbl := g_mem 662 (by decide +kernel) (by decide +kernel)
theorem q_663 : (Jvm.Cond.methodLink "GlacierYearsLaw" (49 : Nat) ({ cls := "GlacierYearsModel", name := "kind", desc := "(IIII)I" } : Jvm.MethodName)) ∈ g_tbl := g_mem 663 (by decide +kernel) (by decide +kernel)
theorem q_664 : (Jvm.Cond.instanceMethod ({ cls := "GlacierYearsModel", name := "kind", desc := "(IIII)I" } : Jvm.MethodName)) ∈ g_tbl := g_mem 664 (by decide +kernel) (by decide +kernel)
theorem q_665 : (Jvm.Cond.selects "GlacierYearsModel" ({ cls := "GlacierYearsModel", name := "kind", desc := "(IIII)I" } : Jvm.MethodName) ({ cls := "GlacierYearsModel", name := "kind", desc := "(IIII)I" } : Jvm.MethodName)) ∈ g_tbl := g_mem 665 (by decide +kernel) (by decide +kernel)
theorem q_666 : (Jvm.Cond.code ({ cls := "GlacierYearsModel", name := "kind", desc := "(IIII)I" } : Jvm.MethodName) prog_8_method_14_code (7 : Nat) (Option.some Jvm.ClassFile.FieldType.int)) ∈ g_tbl := g_mem 666 (by decide +kernel) (by decide +kernel)
theorem q_667 : (Jvm.Cond.methodLink "GlacierYearsModel" (115 : Nat) ({ cls := "GlacierYearsModel", name := "isPlace", desc := "(II)Z" } : Jvm.MethodName)) ∈ g_tbl := g_mem 667 (by decide +kernel) (by decide +kernel)
theorem q_669 : (Jvm.Cond.instanceMethod ({ cls := "GlacierYearsModel", name := "isPlace", desc := "(II)Z" } : Jvm.MethodName)) ∈ g_tbl := g_mem 669 (by decide +kernel) (by decide +kernel)
theorem q_670 : (Jvm.Cond.code ({ cls := "GlacierYearsModel", name := "isPlace", desc := "(II)Z" } : Jvm.MethodName) prog_8_method_12_code (3 : Nat) (Option.some Jvm.ClassFile.FieldType.boolean)) ∈ g_tbl := g_mem 670 (by decide +kernel) (by decide +kernel)
theorem q_671 : (Jvm.Cond.constantLong "GlacierYearsModel" (119 : Nat) (3 : Int64)) ∈ g_tbl := g_mem 671 (by decide +kernel) (by decide +kernel)
theorem q_672 : (Jvm.Cond.constantLong "GlacierYearsModel" (121 : Nat) (100 : Int64)) ∈ g_tbl := g_mem 672 (by decide +kernel) (by decide +kernel)
theorem q_673 : (Jvm.Cond.methodLink "GlacierYearsLaw" (53 : Nat) ({ cls := "GlacierYearsModel", name := "taken", desc := "(IIII)I" } : Jvm.MethodName)) ∈ g_tbl := g_mem 673 (by decide +kernel) (by decide +kernel)
theorem q_674 : (Jvm.Cond.instanceMethod ({ cls := "GlacierYearsModel", name := "taken", desc := "(IIII)I" } : Jvm.MethodName)) ∈ g_tbl := g_mem 674 (by decide +kernel) (by decide +kernel)
theorem q_675 : (Jvm.Cond.selects "GlacierYearsModel" ({ cls := "GlacierYearsModel", name := "taken", desc := "(IIII)I" } : Jvm.MethodName) ({ cls := "GlacierYearsModel", name := "taken", desc := "(IIII)I" } : Jvm.MethodName)) ∈ g_tbl := g_mem 675 (by decide +kernel) (by decide +kernel)
theorem q_676 : (Jvm.Cond.code ({ cls := "GlacierYearsModel", name := "taken", desc := "(IIII)I" } : Jvm.MethodName) prog_8_method_15_code (8 : Nat) (Option.some Jvm.ClassFile.FieldType.int)) ∈ g_tbl := g_mem 676 (by decide +kernel) (by decide +kernel)
theorem q_677 : (Jvm.Cond.constantLong "GlacierYearsModel" (123 : Nat) (4 : Int64)) ∈ g_tbl := g_mem 677 (by decide +kernel) (by decide +kernel)
theorem q_678 : (Jvm.Cond.methodLink "GlacierYearsLaw" (58 : Nat) ({ cls := "GlacierYearsModel", name := "tell", desc := "(ZII)I" } : Jvm.MethodName)) ∈ g_tbl := g_mem 678 (by decide +kernel) (by decide +kernel)
theorem q_679 : (Jvm.Cond.instanceMethod ({ cls := "GlacierYearsModel", name := "tell", desc := "(ZII)I" } : Jvm.MethodName)) ∈ g_tbl := g_mem 679 (by decide +kernel) (by decide +kernel)
theorem q_680 : (Jvm.Cond.selects "GlacierYearsModel" ({ cls := "GlacierYearsModel", name := "tell", desc := "(ZII)I" } : Jvm.MethodName) ({ cls := "GlacierYearsModel", name := "tell", desc := "(ZII)I" } : Jvm.MethodName)) ∈ g_tbl := g_mem 680 (by decide +kernel) (by decide +kernel)
theorem q_681 : (Jvm.Cond.code ({ cls := "GlacierYearsModel", name := "tell", desc := "(ZII)I" } : Jvm.MethodName) prog_8_method_16_code (5 : Nat) (Option.some Jvm.ClassFile.FieldType.int)) ∈ g_tbl := g_mem 681 (by decide +kernel) (by decide +kernel)
theorem q_682 : (Jvm.Cond.constantLong "GlacierYearsModel" (125 : Nat) (9 : Int64)) ∈ g_tbl := g_mem 682 (by decide +kernel) (by decide +kernel)
theorem q_683 : (Jvm.Cond.constantLong "GlacierYearsModel" (127 : Nat) (100000 : Int64)) ∈ g_tbl := g_mem 683 (by decide +kernel) (by decide +kernel)
theorem q_684 : (Jvm.Cond.methodLink "GlacierYearsLaw" (62 : Nat) ({ cls := "GlacierYearsModel", name := "rule", desc := "(II)I" } : Jvm.MethodName)) ∈ g_tbl := g_mem 684 (by decide +kernel) (by decide +kernel)
theorem q_685 : (Jvm.Cond.instanceMethod ({ cls := "GlacierYearsModel", name := "rule", desc := "(II)I" } : Jvm.MethodName)) ∈ g_tbl := g_mem 685 (by decide +kernel) (by decide +kernel)
theorem q_686 : (Jvm.Cond.selects "GlacierYearsModel" ({ cls := "GlacierYearsModel", name := "rule", desc := "(II)I" } : Jvm.MethodName) ({ cls := "GlacierYearsModel", name := "rule", desc := "(II)I" } : Jvm.MethodName)) ∈ g_tbl := g_mem 686 (by decide +kernel) (by decide +kernel)
theorem q_687 : (Jvm.Cond.code ({ cls := "GlacierYearsModel", name := "rule", desc := "(II)I" } : Jvm.MethodName) prog_8_method_17_code (4 : Nat) (Option.some Jvm.ClassFile.FieldType.int)) ∈ g_tbl := g_mem 687 (by decide +kernel) (by decide +kernel)
theorem q_688 : (Jvm.Cond.constantLong "GlacierYearsModel" (129 : Nat) (1000000 : Int64)) ∈ g_tbl := g_mem 688 (by decide +kernel) (by decide +kernel)
theorem q_689 : (Jvm.Cond.methodLink "GlacierYearsLaw" (66 : Nat) ({ cls := "GlacierYearsModel", name := "ice", desc := "(III)J" } : Jvm.MethodName)) ∈ g_tbl := g_mem 689 (by decide +kernel) (by decide +kernel)
theorem q_690 : (Jvm.Cond.instanceMethod ({ cls := "GlacierYearsModel", name := "ice", desc := "(III)J" } : Jvm.MethodName)) ∈ g_tbl := g_mem 690 (by decide +kernel) (by decide +kernel)
theorem q_691 : (Jvm.Cond.selects "GlacierYearsModel" ({ cls := "GlacierYearsModel", name := "ice", desc := "(III)J" } : Jvm.MethodName) ({ cls := "GlacierYearsModel", name := "ice", desc := "(III)J" } : Jvm.MethodName)) ∈ g_tbl := g_mem 691 (by decide +kernel) (by decide +kernel)
theorem q_692 : (Jvm.Cond.code ({ cls := "GlacierYearsModel", name := "ice", desc := "(III)J" } : Jvm.MethodName) prog_8_method_19_code (5 : Nat) (Option.some Jvm.ClassFile.FieldType.long)) ∈ g_tbl := g_mem 692 (by decide +kernel) (by decide +kernel)
theorem q_693 : (Jvm.Cond.constantLong "GlacierYearsModel" (134 : Nat) (-3 : Int64)) ∈ g_tbl := g_mem 693 (by decide +kernel) (by decide +kernel)
theorem q_694 : (Jvm.Cond.methodLink "GlacierYearsModel" (136 : Nat) ({ cls := "GlacierYearsModel", name := "thick", desc := "(I)J" } : Jvm.MethodName)) ∈ g_tbl := g_mem 694 (by decide +kernel) (by decide +kernel)
theorem q_696 : (Jvm.Cond.instanceMethod ({ cls := "GlacierYearsModel", name := "thick", desc := "(I)J" } : Jvm.MethodName)) ∈ g_tbl := g_mem 696 (by decide +kernel) (by decide +kernel)
theorem q_697 : (Jvm.Cond.code ({ cls := "GlacierYearsModel", name := "thick", desc := "(I)J" } : Jvm.MethodName) prog_8_method_18_code (5 : Nat) (Option.some Jvm.ClassFile.FieldType.long)) ∈ g_tbl := g_mem 697 (by decide +kernel) (by decide +kernel)
theorem q_698 : (Jvm.Cond.methodLink "GlacierYearsLaw" (75 : Nat) ({ cls := "GlacierYearsModel", name := "back", desc := "()I" } : Jvm.MethodName)) ∈ g_tbl := g_mem 698 (by decide +kernel) (by decide +kernel)
theorem q_699 : (Jvm.Cond.instanceMethod ({ cls := "GlacierYearsModel", name := "back", desc := "()I" } : Jvm.MethodName)) ∈ g_tbl := g_mem 699 (by decide +kernel) (by decide +kernel)
theorem q_700 : (Jvm.Cond.selects "GlacierYearsModel" ({ cls := "GlacierYearsModel", name := "back", desc := "()I" } : Jvm.MethodName) ({ cls := "GlacierYearsModel", name := "back", desc := "()I" } : Jvm.MethodName)) ∈ g_tbl := g_mem 700 (by decide +kernel) (by decide +kernel)
theorem q_701 : (Jvm.Cond.code ({ cls := "GlacierYearsModel", name := "back", desc := "()I" } : Jvm.MethodName) prog_8_method_21_code (2 : Nat) (Option.some Jvm.ClassFile.FieldType.int)) ∈ g_tbl := g_mem 701 (by decide +kernel) (by decide +kernel)
theorem q_702 : (Jvm.Cond.methodLink "GlacierYearsLaw" (70 : Nat) ({ cls := "GlacierYearsModel", name := "years", desc := "(I)I" } : Jvm.MethodName)) ∈ g_tbl := g_mem 702 (by decide +kernel) (by decide +kernel)
theorem q_703 : (Jvm.Cond.instanceMethod ({ cls := "GlacierYearsModel", name := "years", desc := "(I)I" } : Jvm.MethodName)) ∈ g_tbl := g_mem 703 (by decide +kernel) (by decide +kernel)
theorem q_704 : (Jvm.Cond.selects "GlacierYearsModel" ({ cls := "GlacierYearsModel", name := "years", desc := "(I)I" } : Jvm.MethodName) ({ cls := "GlacierYearsModel", name := "years", desc := "(I)I" } : Jvm.MethodName)) ∈ g_tbl := g_mem 704 (by decide +kernel) (by decide +kernel)
theorem q_705 : (Jvm.Cond.code ({ cls := "GlacierYearsModel", name := "years", desc := "(I)I" } : Jvm.MethodName) prog_8_method_30_code (3 : Nat) (Option.some Jvm.ClassFile.FieldType.int)) ∈ g_tbl := g_mem 705 (by decide +kernel) (by decide +kernel)
theorem q_706 : (Jvm.Cond.constantLong "GlacierYearsModel" (170 : Nat) (60 : Int64)) ∈ g_tbl := g_mem 706 (by decide +kernel) (by decide +kernel)
theorem q_707 : (Jvm.Cond.methodLink "GlacierYearsModel" (172 : Nat) ({ cls := "GlacierYearsModel", name := "oneYear", desc := "()V" } : Jvm.MethodName)) ∈ g_tbl := g_mem 707 (by decide +kernel) (by decide +kernel)
theorem q_709 : (Jvm.Cond.instanceMethod ({ cls := "GlacierYearsModel", name := "oneYear", desc := "()V" } : Jvm.MethodName)) ∈ g_tbl := g_mem 709 (by decide +kernel) (by decide +kernel)
theorem q_710 : (Jvm.Cond.code ({ cls := "GlacierYearsModel", name := "oneYear", desc := "()V" } : Jvm.MethodName) prog_8_method_29_code (1 : Nat) (Option.none : Option Jvm.ClassFile.FieldType)) ∈ g_tbl := g_mem 710 (by decide +kernel) (by decide +kernel)
theorem q_711 : (Jvm.Cond.methodLink "GlacierYearsModel" (158 : Nat) ({ cls := "GlacierYearsModel", name := "keep", desc := "()V" } : Jvm.MethodName)) ∈ g_tbl := g_mem 711 (by decide +kernel) (by decide +kernel)
theorem q_713 : (Jvm.Cond.instanceMethod ({ cls := "GlacierYearsModel", name := "keep", desc := "()V" } : Jvm.MethodName)) ∈ g_tbl := g_mem 713 (by decide +kernel) (by decide +kernel)
theorem q_714 : (Jvm.Cond.code ({ cls := "GlacierYearsModel", name := "keep", desc := "()V" } : Jvm.MethodName) prog_8_method_20_code (2 : Nat) (Option.none : Option Jvm.ClassFile.FieldType)) ∈ g_tbl := g_mem 714 (by decide +kernel) (by decide +kernel)
theorem q_715 : (Jvm.Cond.methodLink "GlacierYearsModel" (161 : Nat) ({ cls := "GlacierYearsModel", name := "fall", desc := "()V" } : Jvm.MethodName)) ∈ g_tbl := g_mem 715 (by decide +kernel) (by decide +kernel)
theorem q_717 : (Jvm.Cond.instanceMethod ({ cls := "GlacierYearsModel", name := "fall", desc := "()V" } : Jvm.MethodName)) ∈ g_tbl := g_mem 717 (by decide +kernel) (by decide +kernel)
theorem q_718 : (Jvm.Cond.code ({ cls := "GlacierYearsModel", name := "fall", desc := "()V" } : Jvm.MethodName) prog_8_method_26_code (8 : Nat) (Option.none : Option Jvm.ClassFile.FieldType)) ∈ g_tbl := g_mem 718 (by decide +kernel) (by decide +kernel)
theorem q_719 : (Jvm.Cond.methodLink "GlacierYearsModel" (151 : Nat) ({ cls := "GlacierYearsModel", name := "isIce", desc := "(I)Z" } : Jvm.MethodName)) ∈ g_tbl := g_mem 719 (by decide +kernel) (by decide +kernel)
theorem q_721 : (Jvm.Cond.instanceMethod ({ cls := "GlacierYearsModel", name := "isIce", desc := "(I)Z" } : Jvm.MethodName)) ∈ g_tbl := g_mem 721 (by decide +kernel) (by decide +kernel)
theorem q_722 : (Jvm.Cond.code ({ cls := "GlacierYearsModel", name := "isIce", desc := "(I)Z" } : Jvm.MethodName) prog_8_method_25_code (2 : Nat) (Option.some Jvm.ClassFile.FieldType.boolean)) ∈ g_tbl := g_mem 722 (by decide +kernel) (by decide +kernel)
theorem q_723 : (Jvm.Cond.methodLink "GlacierYearsModel" (147 : Nat) ({ cls := "GlacierYearsModel", name := "lesser", desc := "(JJ)J" } : Jvm.MethodName)) ∈ g_tbl := g_mem 723 (by decide +kernel) (by decide +kernel)
theorem q_724 : (Jvm.Cond.static ({ cls := "GlacierYearsModel", name := "lesser", desc := "(JJ)J" } : Jvm.MethodName)) ∈ g_tbl := g_mem 724 (by decide +kernel) (by decide +kernel)
theorem q_725 : (Jvm.Cond.code ({ cls := "GlacierYearsModel", name := "lesser", desc := "(JJ)J" } : Jvm.MethodName) prog_8_method_23_code (4 : Nat) (Option.some Jvm.ClassFile.FieldType.long)) ∈ g_tbl := g_mem 725 (by decide +kernel) (by decide +kernel)
theorem q_726 : (Jvm.Cond.methodLink "GlacierYearsModel" (164 : Nat) ({ cls := "GlacierYearsModel", name := "move", desc := "()V" } : Jvm.MethodName)) ∈ g_tbl := g_mem 726 (by decide +kernel) (by decide +kernel)
theorem q_728 : (Jvm.Cond.instanceMethod ({ cls := "GlacierYearsModel", name := "move", desc := "()V" } : Jvm.MethodName)) ∈ g_tbl := g_mem 728 (by decide +kernel) (by decide +kernel)
theorem q_729 : (Jvm.Cond.code ({ cls := "GlacierYearsModel", name := "move", desc := "()V" } : Jvm.MethodName) prog_8_method_27_code (9 : Nat) (Option.none : Option Jvm.ClassFile.FieldType)) ∈ g_tbl := g_mem 729 (by decide +kernel) (by decide +kernel)
theorem q_730 : (Jvm.Cond.methodLink "GlacierYearsModel" (154 : Nat) ({ cls := "GlacierYearsModel", name := "given", desc := "(II)J" } : Jvm.MethodName)) ∈ g_tbl := g_mem 730 (by decide +kernel) (by decide +kernel)
theorem q_732 : (Jvm.Cond.instanceMethod ({ cls := "GlacierYearsModel", name := "given", desc := "(II)J" } : Jvm.MethodName)) ∈ g_tbl := g_mem 732 (by decide +kernel) (by decide +kernel)
theorem q_733 : (Jvm.Cond.code ({ cls := "GlacierYearsModel", name := "given", desc := "(II)J" } : Jvm.MethodName) prog_8_method_24_code (12 : Nat) (Option.some Jvm.ClassFile.FieldType.long)) ∈ g_tbl := g_mem 733 (by decide +kernel) (by decide +kernel)
theorem q_734 : (Jvm.Cond.methodLink "GlacierYearsModel" (143 : Nat) ({ cls := "GlacierYearsModel", name := "beside", desc := "(II)I" } : Jvm.MethodName)) ∈ g_tbl := g_mem 734 (by decide +kernel) (by decide +kernel)
theorem q_736 : (Jvm.Cond.instanceMethod ({ cls := "GlacierYearsModel", name := "beside", desc := "(II)I" } : Jvm.MethodName)) ∈ g_tbl := g_mem 736 (by decide +kernel) (by decide +kernel)
theorem q_737 : (Jvm.Cond.code ({ cls := "GlacierYearsModel", name := "beside", desc := "(II)I" } : Jvm.MethodName) prog_8_method_22_code (5 : Nat) (Option.some Jvm.ClassFile.FieldType.int)) ∈ g_tbl := g_mem 737 (by decide +kernel) (by decide +kernel)
theorem q_738 : (Jvm.Cond.methodLink "GlacierYearsModel" (167 : Nat) ({ cls := "GlacierYearsModel", name := "swim", desc := "()V" } : Jvm.MethodName)) ∈ g_tbl := g_mem 738 (by decide +kernel) (by decide +kernel)
theorem q_740 : (Jvm.Cond.instanceMethod ({ cls := "GlacierYearsModel", name := "swim", desc := "()V" } : Jvm.MethodName)) ∈ g_tbl := g_mem 740 (by decide +kernel) (by decide +kernel)
theorem q_741 : (Jvm.Cond.code ({ cls := "GlacierYearsModel", name := "swim", desc := "()V" } : Jvm.MethodName) prog_8_method_28_code (3 : Nat) (Option.none : Option Jvm.ClassFile.FieldType)) ∈ g_tbl := g_mem 741 (by decide +kernel) (by decide +kernel)
theorem q_742 : (Jvm.Cond.methodLink "GlacierYearsLaw" (79 : Nat) ({ cls := "GlacierYearsModel", name := "steady", desc := "(I)I" } : Jvm.MethodName)) ∈ g_tbl := g_mem 742 (by decide +kernel) (by decide +kernel)
theorem q_743 : (Jvm.Cond.instanceMethod ({ cls := "GlacierYearsModel", name := "steady", desc := "(I)I" } : Jvm.MethodName)) ∈ g_tbl := g_mem 743 (by decide +kernel) (by decide +kernel)
theorem q_744 : (Jvm.Cond.selects "GlacierYearsModel" ({ cls := "GlacierYearsModel", name := "steady", desc := "(I)I" } : Jvm.MethodName) ({ cls := "GlacierYearsModel", name := "steady", desc := "(I)I" } : Jvm.MethodName)) ∈ g_tbl := g_mem 744 (by decide +kernel) (by decide +kernel)
theorem q_745 : (Jvm.Cond.code ({ cls := "GlacierYearsModel", name := "steady", desc := "(I)I" } : Jvm.MethodName) prog_8_method_33_code (4 : Nat) (Option.some Jvm.ClassFile.FieldType.int)) ∈ g_tbl := g_mem 745 (by decide +kernel) (by decide +kernel)
theorem q_746 : (Jvm.Cond.methodLink "GlacierYearsModel" (175 : Nat) ({ cls := "GlacierYearsModel", name := "note", desc := "(I)V" } : Jvm.MethodName)) ∈ g_tbl := g_mem 746 (by decide +kernel) (by decide +kernel)
theorem q_748 : (Jvm.Cond.instanceMethod ({ cls := "GlacierYearsModel", name := "note", desc := "(I)V" } : Jvm.MethodName)) ∈ g_tbl := g_mem 748 (by decide +kernel) (by decide +kernel)
theorem q_749 : (Jvm.Cond.code ({ cls := "GlacierYearsModel", name := "note", desc := "(I)V" } : Jvm.MethodName) prog_8_method_31_code (3 : Nat) (Option.none : Option Jvm.ClassFile.FieldType)) ∈ g_tbl := g_mem 749 (by decide +kernel) (by decide +kernel)
theorem q_750 : (Jvm.Cond.methodLink "GlacierYearsModel" (179 : Nat) ({ cls := "GlacierYearsModel", name := "isLike", desc := "(II)Z" } : Jvm.MethodName)) ∈ g_tbl := g_mem 750 (by decide +kernel) (by decide +kernel)
theorem q_752 : (Jvm.Cond.instanceMethod ({ cls := "GlacierYearsModel", name := "isLike", desc := "(II)Z" } : Jvm.MethodName)) ∈ g_tbl := g_mem 752 (by decide +kernel) (by decide +kernel)
theorem q_753 : (Jvm.Cond.code ({ cls := "GlacierYearsModel", name := "isLike", desc := "(II)Z" } : Jvm.MethodName) prog_8_method_32_code (5 : Nat) (Option.some Jvm.ClassFile.FieldType.boolean)) ∈ g_tbl := g_mem 753 (by decide +kernel) (by decide +kernel)
theorem q_754 : (Jvm.Cond.methodLink "GlacierYearsLaw" (83 : Nat) ({ cls := "GlacierYearsModel", name := "cell", desc := "(III)J" } : Jvm.MethodName)) ∈ g_tbl := g_mem 754 (by decide +kernel) (by decide +kernel)
theorem q_755 : (Jvm.Cond.instanceMethod ({ cls := "GlacierYearsModel", name := "cell", desc := "(III)J" } : Jvm.MethodName)) ∈ g_tbl := g_mem 755 (by decide +kernel) (by decide +kernel)
theorem q_756 : (Jvm.Cond.selects "GlacierYearsModel" ({ cls := "GlacierYearsModel", name := "cell", desc := "(III)J" } : Jvm.MethodName) ({ cls := "GlacierYearsModel", name := "cell", desc := "(III)J" } : Jvm.MethodName)) ∈ g_tbl := g_mem 756 (by decide +kernel) (by decide +kernel)
theorem q_757 : (Jvm.Cond.code ({ cls := "GlacierYearsModel", name := "cell", desc := "(III)J" } : Jvm.MethodName) prog_8_method_36_code (5 : Nat) (Option.some Jvm.ClassFile.FieldType.long)) ∈ g_tbl := g_mem 757 (by decide +kernel) (by decide +kernel)
theorem q_758 : (Jvm.Cond.constantLong "GlacierYearsModel" (182 : Nat) (6 : Int64)) ∈ g_tbl := g_mem 758 (by decide +kernel) (by decide +kernel)
theorem q_759 : (Jvm.Cond.methodLink "GlacierYearsModel" (184 : Nat) ({ cls := "GlacierYearsModel", name := "layers", desc := "(I)I" } : Jvm.MethodName)) ∈ g_tbl := g_mem 759 (by decide +kernel) (by decide +kernel)
theorem q_761 : (Jvm.Cond.instanceMethod ({ cls := "GlacierYearsModel", name := "layers", desc := "(I)I" } : Jvm.MethodName)) ∈ g_tbl := g_mem 761 (by decide +kernel) (by decide +kernel)
theorem q_762 : (Jvm.Cond.code ({ cls := "GlacierYearsModel", name := "layers", desc := "(I)I" } : Jvm.MethodName) prog_8_method_35_code (4 : Nat) (Option.some Jvm.ClassFile.FieldType.int)) ∈ g_tbl := g_mem 762 (by decide +kernel) (by decide +kernel)
theorem q_763 : (Jvm.Cond.methodLink "GlacierYearsModel" (187 : Nat) ({ cls := "GlacierYearsModel", name := "layerOf", desc := "(II)I" } : Jvm.MethodName)) ∈ g_tbl := g_mem 763 (by decide +kernel) (by decide +kernel)
theorem q_765 : (Jvm.Cond.instanceMethod ({ cls := "GlacierYearsModel", name := "layerOf", desc := "(II)I" } : Jvm.MethodName)) ∈ g_tbl := g_mem 765 (by decide +kernel) (by decide +kernel)
theorem q_766 : (Jvm.Cond.code ({ cls := "GlacierYearsModel", name := "layerOf", desc := "(II)I" } : Jvm.MethodName) prog_8_method_34_code (5 : Nat) (Option.some Jvm.ClassFile.FieldType.int)) ∈ g_tbl := g_mem 766 (by decide +kernel) (by decide +kernel)
theorem q_767 : (Jvm.Cond.methodLink "GlacierYearsLaw" (88 : Nat) ({ cls := "GlacierYearsModel", name := "layer", desc := "(IIII)J" } : Jvm.MethodName)) ∈ g_tbl := g_mem 767 (by decide +kernel) (by decide +kernel)
theorem q_768 : (Jvm.Cond.instanceMethod ({ cls := "GlacierYearsModel", name := "layer", desc := "(IIII)J" } : Jvm.MethodName)) ∈ g_tbl := g_mem 768 (by decide +kernel) (by decide +kernel)
theorem q_769 : (Jvm.Cond.selects "GlacierYearsModel" ({ cls := "GlacierYearsModel", name := "layer", desc := "(IIII)J" } : Jvm.MethodName) ({ cls := "GlacierYearsModel", name := "layer", desc := "(IIII)J" } : Jvm.MethodName)) ∈ g_tbl := g_mem 769 (by decide +kernel) (by decide +kernel)
theorem q_770 : (Jvm.Cond.code ({ cls := "GlacierYearsModel", name := "layer", desc := "(IIII)J" } : Jvm.MethodName) prog_8_method_37_code (7 : Nat) (Option.some Jvm.ClassFile.FieldType.long)) ∈ g_tbl := g_mem 770 (by decide +kernel) (by decide +kernel)
theorem q_771 : (Jvm.Cond.constantLong "GlacierYearsModel" (190 : Nat) (-9 : Int64)) ∈ g_tbl := g_mem 771 (by decide +kernel) (by decide +kernel)
theorem q_772 : (Jvm.Cond.methodLink "GlacierYearsLaw" (93 : Nat) ({ cls := "GlacierYearsModel", name := "sum", desc := "(II)J" } : Jvm.MethodName)) ∈ g_tbl := g_mem 772 (by decide +kernel) (by decide +kernel)
theorem q_773 : (Jvm.Cond.instanceMethod ({ cls := "GlacierYearsModel", name := "sum", desc := "(II)J" } : Jvm.MethodName)) ∈ g_tbl := g_mem 773 (by decide +kernel) (by decide +kernel)
theorem q_774 : (Jvm.Cond.selects "GlacierYearsModel" ({ cls := "GlacierYearsModel", name := "sum", desc := "(II)J" } : Jvm.MethodName) ({ cls := "GlacierYearsModel", name := "sum", desc := "(II)J" } : Jvm.MethodName)) ∈ g_tbl := g_mem 774 (by decide +kernel) (by decide +kernel)
theorem q_775 : (Jvm.Cond.code ({ cls := "GlacierYearsModel", name := "sum", desc := "(II)J" } : Jvm.MethodName) prog_8_method_38_code (7 : Nat) (Option.some Jvm.ClassFile.FieldType.long)) ∈ g_tbl := g_mem 775 (by decide +kernel) (by decide +kernel)
theorem q_776 : (Jvm.Cond.methodLink "GlacierYearsLaw" (98 : Nat) ({ cls := "GlacierYearsModel", name := "about", desc := "(I)J" } : Jvm.MethodName)) ∈ g_tbl := g_mem 776 (by decide +kernel) (by decide +kernel)
theorem q_777 : (Jvm.Cond.instanceMethod ({ cls := "GlacierYearsModel", name := "about", desc := "(I)J" } : Jvm.MethodName)) ∈ g_tbl := g_mem 777 (by decide +kernel) (by decide +kernel)
theorem q_778 : (Jvm.Cond.selects "GlacierYearsModel" ({ cls := "GlacierYearsModel", name := "about", desc := "(I)J" } : Jvm.MethodName) ({ cls := "GlacierYearsModel", name := "about", desc := "(I)J" } : Jvm.MethodName)) ∈ g_tbl := g_mem 778 (by decide +kernel) (by decide +kernel)
theorem q_779 : (Jvm.Cond.code ({ cls := "GlacierYearsModel", name := "about", desc := "(I)J" } : Jvm.MethodName) prog_8_method_39_code (13 : Nat) (Option.some Jvm.ClassFile.FieldType.long)) ∈ g_tbl := g_mem 779 (by decide +kernel) (by decide +kernel)
theorem q_780 : (Jvm.Cond.methodLink "GlacierYearsLaw" (102 : Nat) ({ cls := "GlacierYearsModel", name := "gives", desc := "(III)J" } : Jvm.MethodName)) ∈ g_tbl := g_mem 780 (by decide +kernel) (by decide +kernel)
theorem q_781 : (Jvm.Cond.instanceMethod ({ cls := "GlacierYearsModel", name := "gives", desc := "(III)J" } : Jvm.MethodName)) ∈ g_tbl := g_mem 781 (by decide +kernel) (by decide +kernel)
theorem q_782 : (Jvm.Cond.selects "GlacierYearsModel" ({ cls := "GlacierYearsModel", name := "gives", desc := "(III)J" } : Jvm.MethodName) ({ cls := "GlacierYearsModel", name := "gives", desc := "(III)J" } : Jvm.MethodName)) ∈ g_tbl := g_mem 782 (by decide +kernel) (by decide +kernel)
theorem q_783 : (Jvm.Cond.code ({ cls := "GlacierYearsModel", name := "gives", desc := "(III)J" } : Jvm.MethodName) prog_8_method_40_code (4 : Nat) (Option.some Jvm.ClassFile.FieldType.long)) ∈ g_tbl := g_mem 783 (by decide +kernel) (by decide +kernel)
theorem q_784 : (Jvm.Cond.methodLink "GlacierYearsLaw" (106 : Nat) ({ cls := "GlacierYearsModel", name := "turn", desc := "(I)I" } : Jvm.MethodName)) ∈ g_tbl := g_mem 784 (by decide +kernel) (by decide +kernel)
theorem q_785 : (Jvm.Cond.instanceMethod ({ cls := "GlacierYearsModel", name := "turn", desc := "(I)I" } : Jvm.MethodName)) ∈ g_tbl := g_mem 785 (by decide +kernel) (by decide +kernel)
theorem q_786 : (Jvm.Cond.selects "GlacierYearsModel" ({ cls := "GlacierYearsModel", name := "turn", desc := "(I)I" } : Jvm.MethodName) ({ cls := "GlacierYearsModel", name := "turn", desc := "(I)I" } : Jvm.MethodName)) ∈ g_tbl := g_mem 786 (by decide +kernel) (by decide +kernel)
theorem q_787 : (Jvm.Cond.code ({ cls := "GlacierYearsModel", name := "turn", desc := "(I)I" } : Jvm.MethodName) prog_8_method_41_code (9 : Nat) (Option.some Jvm.ClassFile.FieldType.int)) ∈ g_tbl := g_mem 787 (by decide +kernel) (by decide +kernel)
theorem q_788 : (Jvm.Cond.methodLink "GlacierYearsLaw" (110 : Nat) ({ cls := "GlacierYearsModel", name := "count", desc := "(I)I" } : Jvm.MethodName)) ∈ g_tbl := g_mem 788 (by decide +kernel) (by decide +kernel)
theorem q_789 : (Jvm.Cond.instanceMethod ({ cls := "GlacierYearsModel", name := "count", desc := "(I)I" } : Jvm.MethodName)) ∈ g_tbl := g_mem 789 (by decide +kernel) (by decide +kernel)
theorem q_790 : (Jvm.Cond.selects "GlacierYearsModel" ({ cls := "GlacierYearsModel", name := "count", desc := "(I)I" } : Jvm.MethodName) ({ cls := "GlacierYearsModel", name := "count", desc := "(I)I" } : Jvm.MethodName)) ∈ g_tbl := g_mem 790 (by decide +kernel) (by decide +kernel)
theorem q_791 : (Jvm.Cond.code ({ cls := "GlacierYearsModel", name := "count", desc := "(I)I" } : Jvm.MethodName) prog_8_method_42_code (4 : Nat) (Option.some Jvm.ClassFile.FieldType.int)) ∈ g_tbl := g_mem 791 (by decide +kernel) (by decide +kernel)
theorem q_792 : (Jvm.Cond.constantLong "GlacierYearsLaw" (23 : Nat) (4294967295 : Int64)) ∈ g_tbl := g_mem 792 (by decide +kernel) (by decide +kernel)
