def RX0 : String := "QuotaCarousel$Ratio"
def TX0 : u_T := fun k => match k with
  | 0 => ("QuotaCarousel$Ratio", "above", "J", false)
  | 1 => ("QuotaCarousel$Ratio", "below", "J", false)
  | _ => ("QuotaCarousel$Ratio", "over", "Z", false)
def tyX0 : Nat → FieldType := fun k => match k with
  | 0 => .long
  | 1 => .long
  | _ => .boolean
theorem nmX0 : ∀ a, a < 3 → ∀ b, b < 3 → a ≠ b → (TX0 a).2.1 ≠ (TX0 b).2.1 := by decide +kernel
theorem tyX0_ok : ∀ k, k < 3 → parseFieldDescriptor (TX0 k).2.2.1 = some (tyX0 k) := by decide +kernel
abbrev cX0_init : ByteArray := prog_2_method_1_code
def yX0_init : MethodName := ⟨RX0, "<init>", "()V"⟩
abbrev cX0_begin : ByteArray := prog_2_method_2_code
def yX0_begin : MethodName := ⟨RX0, "begin", "(JJ)V"⟩
abbrev cX0_add : ByteArray := prog_2_method_3_code
def yX0_add : MethodName := ⟨RX0, "add", "(JJ)V"⟩
abbrev cX0_times : ByteArray := prog_2_method_4_code
def yX0_times : MethodName := ⟨RX0, "times", "(JJ)V"⟩
abbrev cX0_reduce : ByteArray := prog_2_method_5_code
def yX0_reduce : MethodName := ⟨RX0, "reduce", "(JJ)V"⟩
abbrev cX0_productFits : ByteArray := prog_2_method_6_code
def yX0_productFits : MethodName := ⟨RX0, "productFits", "(JJ)Z"⟩
def RX1 : String := "QuotaCarousel$Reason"
def TX1 : u_T := fun k => match k with
  | 0 => ("QuotaCarousel$Reason", "answer", "I", false)
  | 1 => ("QuotaCarousel$Reason", "behind", "I", false)
  | 2 => ("QuotaCarousel$Reason", "nearest", "I", false)
  | _ => ("QuotaCarousel$Reason", "last", "I", false)
def tyX1 : Nat → FieldType := fun k => match k with
  | 0 => .int
  | 1 => .int
  | 2 => .int
  | _ => .int
theorem nmX1 : ∀ a, a < 4 → ∀ b, b < 4 → a ≠ b → (TX1 a).2.1 ≠ (TX1 b).2.1 := by decide +kernel
theorem tyX1_ok : ∀ k, k < 4 → parseFieldDescriptor (TX1 k).2.2.1 = some (tyX1 k) := by decide +kernel
abbrev cX1_init : ByteArray := prog_3_method_1_code
def yX1_init : MethodName := ⟨RX1, "<init>", "()V"⟩
abbrev cX1_note : ByteArray := prog_3_method_2_code
def yX1_note : MethodName := ⟨RX1, "note", "(IIII)V"⟩
def RX2 : String := "QuotaCarousel$Replacement"
def TX2 : u_T := fun k => match k with
  | 0 => ("QuotaCarousel$Replacement", "inTheEnd", "I", false)
  | _ => ("QuotaCarousel$Replacement", "instead", "[I", true)
def tyX2 : Nat → FieldType := fun k => match k with
  | 0 => .int
  | _ => .array .int
theorem nmX2 : ∀ a, a < 2 → ∀ b, b < 2 → a ≠ b → (TX2 a).2.1 ≠ (TX2 b).2.1 := by decide +kernel
theorem tyX2_ok : ∀ k, k < 2 → parseFieldDescriptor (TX2 k).2.2.1 = some (tyX2 k) := by decide +kernel
abbrev cX2_init : ByteArray := prog_4_method_1_code
def yX2_init : MethodName := ⟨RX2, "<init>", "()V"⟩
abbrev cX2_settle : ByteArray := prog_4_method_2_code
def yX2_settle : MethodName := ⟨RX2, "settle", "(LQuotaCarousel$Roster;II)V"⟩
abbrev cX2_firstBehind : ByteArray := prog_4_method_3_code
def yX2_firstBehind : MethodName := ⟨RX2, "firstBehind", "(LQuotaCarousel$Roster;III)I"⟩
def RX3 : String := "QuotaCarousel$Roster"
def TX3 : u_T := fun k => match k with
  | 0 => ("QuotaCarousel$Roster", "units", "I", false)
  | 1 => ("QuotaCarousel$Roster", "refusing", "I", false)
  | 2 => ("QuotaCarousel$Roster", "orderNumber", "I", false)
  | 3 => ("QuotaCarousel$Roster", "stratumOf", "[I", true)
  | 4 => ("QuotaCarousel$Roster", "markOf", "[I", true)
  | 5 => ("QuotaCarousel$Roster", "hand", "[I", true)
  | 6 => ("QuotaCarousel$Roster", "inOrder", "[I", true)
  | 7 => ("QuotaCarousel$Roster", "aboves", "[I", true)
  | _ => ("QuotaCarousel$Roster", "belows", "[I", true)
def tyX3 : Nat → FieldType := fun k => match k with
  | 0 => .int
  | 1 => .int
  | 2 => .int
  | 3 => .array .int
  | 4 => .array .int
  | 5 => .array .int
  | 6 => .array .int
  | 7 => .array .int
  | _ => .array .int
theorem nmX3 : ∀ a, a < 9 → ∀ b, b < 9 → a ≠ b → (TX3 a).2.1 ≠ (TX3 b).2.1 := by decide +kernel
theorem tyX3_ok : ∀ k, k < 9 → parseFieldDescriptor (TX3 k).2.2.1 = some (tyX3 k) := by decide +kernel
abbrev cX3_init : ByteArray := prog_5_method_1_code
def yX3_init : MethodName := ⟨RX3, "<init>", "()V"⟩
abbrev cX3_has : ByteArray := prog_5_method_2_code
def yX3_has : MethodName := ⟨RX3, "has", "(I)Z"⟩
abbrev cX3_everyone : ByteArray := prog_5_method_3_code
def yX3_everyone : MethodName := ⟨RX3, "everyone", "()I"⟩
abbrev cX3_isRefusing : ByteArray := prog_5_method_4_code
def yX3_isRefusing : MethodName := ⟨RX3, "isRefusing", "(I)Z"⟩
abbrev cX3_above : ByteArray := prog_5_method_5_code
def yX3_above : MethodName := ⟨RX3, "above", "(II)I"⟩
abbrev cX3_below : ByteArray := prog_5_method_6_code
def yX3_below : MethodName := ⟨RX3, "below", "(II)I"⟩
abbrev cX3_unitAt : ByteArray := prog_5_method_7_code
def yX3_unitAt : MethodName := ⟨RX3, "unitAt", "(I)I"⟩
abbrev cX3_stratumAt : ByteArray := prog_5_method_8_code
def yX3_stratumAt : MethodName := ⟨RX3, "stratumAt", "(I)I"⟩
abbrev cX3_marksTogether : ByteArray := prog_5_method_9_code
def yX3_marksTogether : MethodName := ⟨RX3, "marksTogether", "()J"⟩
abbrev cX3_placeOf : ByteArray := prog_5_method_10_code
def yX3_placeOf : MethodName := ⟨RX3, "placeOf", "(I)I"⟩
abbrev cX3_admit : ByteArray := prog_5_method_11_code
def qe_named (o : Option Cond) : String := match o with
  | some (.instanceMethod m) => m.name
  | _ => ""
def yX3_admit : MethodName := ⟨RX3, qe_named (tables_1_2[23]?), "(IIII)I"⟩
abbrev cX3_changeOdds : ByteArray := prog_5_method_12_code
def yX3_changeOdds : MethodName := ⟨RX3, "changeOdds", "(IIII)I"⟩
abbrev cX3_changeStratum : ByteArray := prog_5_method_13_code
def yX3_changeStratum : MethodName := ⟨RX3, "changeStratum", "(II)I"⟩
abbrev cX3_changeRefusing : ByteArray := prog_5_method_14_code
def yX3_changeRefusing : MethodName := ⟨RX3, "changeRefusing", "(II)I"⟩
abbrev cX3_changeMark : ByteArray := prog_5_method_15_code
def yX3_changeMark : MethodName := ⟨RX3, "changeMark", "(II)I"⟩
abbrev cX3_changeOrder : ByteArray := prog_5_method_16_code
def yX3_changeOrder : MethodName := ⟨RX3, "changeOrder", "(I)I"⟩
abbrev cX3_exchange : ByteArray := prog_5_method_17_code
def yX3_exchange : MethodName := ⟨RX3, "exchange", "(II)I"⟩
abbrev cX3_copyOf : ByteArray := prog_5_method_18_code
def yX3_copyOf : MethodName := ⟨RX3, "copyOf", "(LQuotaCarousel$Roster;)V"⟩
abbrev cX3_places : ByteArray := prog_5_method_19_code
def yX3_places : MethodName := ⟨RX3, "places", "(I)J"⟩
abbrev cX3_partsOf : ByteArray := prog_5_method_20_code
def yX3_partsOf : MethodName := ⟨RX3, "partsOf", "(IIJ)J"⟩
abbrev cX3_partsOfAll : ByteArray := prog_5_method_21_code
def yX3_partsOfAll : MethodName := ⟨RX3, "partsOfAll", "(IJ)J"⟩
abbrev cX3_putOdds : ByteArray := prog_5_method_22_code
def yX3_putOdds : MethodName := ⟨RX3, "putOdds", "(IIII)V"⟩
abbrev cX3_arrange : ByteArray := prog_5_method_23_code
def yX3_arrange : MethodName := ⟨RX3, "arrange", "()V"⟩
abbrev cX3_standsAhead : ByteArray := prog_5_method_24_code
def yX3_standsAhead : MethodName := ⟨RX3, "standsAhead", "(II)Z"⟩
abbrev cX3_commonMultiple : ByteArray := prog_5_method_25_code
def yX3_commonMultiple : MethodName := ⟨RX3, "commonMultiple", "(JJ)J"⟩
abbrev cX3_oddsFit : ByteArray := prog_5_method_26_code
def yX3_oddsFit : MethodName := ⟨RX3, "oddsFit", "(III)Z"⟩
abbrev cX3_stratumFits : ByteArray := prog_5_method_27_code
def yX3_stratumFits : MethodName := ⟨RX3, "stratumFits", "(I)Z"⟩
abbrev cX3_markFits : ByteArray := prog_5_method_28_code
def yX3_markFits : MethodName := ⟨RX3, "markFits", "(I)Z"⟩
def RX4 : String := "QuotaCarousel$Row"
def TX4 : u_T := fun k => match k with
  | 0 => ("QuotaCarousel$Row", "length", "I", false)
  | _ => ("QuotaCarousel$Row", "longs", "[J", true)
def tyX4 : Nat → FieldType := fun k => match k with
  | 0 => .int
  | _ => .array .long
theorem nmX4 : ∀ a, a < 2 → ∀ b, b < 2 → a ≠ b → (TX4 a).2.1 ≠ (TX4 b).2.1 := by decide +kernel
theorem tyX4_ok : ∀ k, k < 2 → parseFieldDescriptor (TX4 k).2.2.1 = some (tyX4 k) := by decide +kernel
abbrev cX4_init : ByteArray := prog_6_method_1_code
def yX4_init : MethodName := ⟨RX4, "<init>", "()V"⟩
abbrev cX4_become : ByteArray := prog_6_method_2_code
def yX4_become : MethodName := ⟨RX4, "become", "(I)I"⟩
def RX5 : String := "QuotaCarousel$Runs"
def TX5 : u_T := fun k => match k with
  | 0 => ("QuotaCarousel$Runs", "number", "I", false)
  | 1 => ("QuotaCarousel$Runs", "firstStart", "[J", true)
  | 2 => ("QuotaCarousel$Runs", "starts", "[J", true)
  | _ => ("QuotaCarousel$Runs", "who", "[I", true)
def tyX5 : Nat → FieldType := fun k => match k with
  | 0 => .int
  | 1 => .array .long
  | 2 => .array .long
  | _ => .array .int
theorem nmX5 : ∀ a, a < 4 → ∀ b, b < 4 → a ≠ b → (TX5 a).2.1 ≠ (TX5 b).2.1 := by decide +kernel
theorem tyX5_ok : ∀ k, k < 4 → parseFieldDescriptor (TX5 k).2.2.1 = some (tyX5 k) := by decide +kernel
abbrev cX5_init : ByteArray := prog_7_method_1_code
def yX5_init : MethodName := ⟨RX5, "<init>", "()V"⟩
abbrev cX5_trace : ByteArray := prog_7_method_2_code
def yX5_trace : MethodName := ⟨RX5, "trace", "(LQuotaCarousel$Wheel;)V"⟩
def RX6 : String := "QuotaCarousel$Tape"
def TX6 : u_T := fun k => match k with
  | 0 => ("QuotaCarousel$Tape", "length", "I", false)
  | 1 => ("QuotaCarousel$Tape", "kind", "I", false)
  | 2 => ("QuotaCarousel$Tape", "reached", "I", false)
  | 3 => ("QuotaCarousel$Tape", "numbers", "[I", true)
  | 4 => ("QuotaCarousel$Tape", "filled", "I", false)
  | _ => ("QuotaCarousel$Tape", "bytes", "[I", true)
def tyX6 : Nat → FieldType := fun k => match k with
  | 0 => .int
  | 1 => .int
  | 2 => .int
  | 3 => .array .int
  | 4 => .int
  | _ => .array .int
theorem nmX6 : ∀ a, a < 6 → ∀ b, b < 6 → a ≠ b → (TX6 a).2.1 ≠ (TX6 b).2.1 := by decide +kernel
theorem tyX6_ok : ∀ k, k < 6 → parseFieldDescriptor (TX6 k).2.2.1 = some (tyX6 k) := by decide +kernel
abbrev cX6_init : ByteArray := prog_8_method_1_code
def yX6_init : MethodName := ⟨RX6, "<init>", "()V"⟩
abbrev cX6_take : ByteArray := prog_8_method_2_code
def yX6_take : MethodName := ⟨RX6, "take", "(I)I"⟩
abbrev cX6_fault : ByteArray := prog_8_method_3_code
def yX6_fault : MethodName := ⟨RX6, "fault", "()I"⟩
abbrev cX6_readClause : ByteArray := prog_8_method_4_code
def yX6_readClause : MethodName := ⟨RX6, "readClause", "(I)Z"⟩
abbrev cX6_shapeOf : ByteArray := prog_8_method_5_code
def yX6_shapeOf : MethodName := ⟨RX6, "shapeOf", "(I)Ljava/lang/String;"⟩
abbrev cX6_readSign : ByteArray := prog_8_method_6_code
def yX6_readSign : MethodName := ⟨RX6, "readSign", "(C)Z"⟩
abbrev cX6_readsByte : ByteArray := prog_8_method_7_code
def yX6_readsByte : MethodName := ⟨RX6, "readsByte", "(I)Z"⟩
abbrev cX6_readNumber : ByteArray := prog_8_method_8_code
def yX6_readNumber : MethodName := ⟨RX6, "readNumber", "(II)Z"⟩
abbrev cX6_byteAt : ByteArray := prog_8_method_9_code
def yX6_byteAt : MethodName := ⟨RX6, "byteAt", "(I)I"⟩
abbrev cX6_isDigit : ByteArray := prog_8_method_10_code
def yX6_isDigit : MethodName := ⟨RX6, "isDigit", "(I)Z"⟩
def RX7 : String := "QuotaCarousel$Wheel"
def TX7 : u_T := fun k => match k with
  | 0 => ("QuotaCarousel$Wheel", "places", "J", false)
  | 1 => ("QuotaCarousel$Wheel", "from", "[J", true)
  | _ => ("QuotaCarousel$Wheel", "length", "[J", true)
def tyX7 : Nat → FieldType := fun k => match k with
  | 0 => .long
  | 1 => .array .long
  | _ => .array .long
theorem nmX7 : ∀ a, a < 3 → ∀ b, b < 3 → a ≠ b → (TX7 a).2.1 ≠ (TX7 b).2.1 := by decide +kernel
theorem tyX7_ok : ∀ k, k < 3 → parseFieldDescriptor (TX7 k).2.2.1 = some (tyX7 k) := by decide +kernel
abbrev cX7_init : ByteArray := prog_9_method_1_code
def yX7_init : MethodName := ⟨RX7, "<init>", "()V"⟩
abbrev cX7_lay : ByteArray := prog_9_method_2_code
def yX7_lay : MethodName := ⟨RX7, "lay", "(LQuotaCarousel$Roster;IJI)V"⟩
abbrev cX7_hasPlace : ByteArray := prog_9_method_3_code
def yX7_hasPlace : MethodName := ⟨RX7, "hasPlace", "(I)Z"⟩
abbrev cX7_chooses : ByteArray := prog_9_method_4_code
def yX7_chooses : MethodName := ⟨RX7, "chooses", "(IJ)Z"⟩
abbrev cX7_chosenBy : ByteArray := prog_9_method_5_code
def yX7_chosenBy : MethodName := ⟨RX7, "chosenBy", "(J)I"⟩
abbrev cX7_together : ByteArray := prog_9_method_6_code
def yX7_together : MethodName := ⟨RX7, "together", "(II)J"⟩
abbrev cX7_nextEnd : ByteArray := prog_9_method_7_code
def yX7_nextEnd : MethodName := ⟨RX7, "nextEnd", "(J)J"⟩
def RX8 : String := "QuotaCarousel"
def TX8 : u_T := fun k => match k with
  | 0 => ("QuotaCarousel", "now", "LQuotaCarousel$Roster;", true)
  | 1 => ("QuotaCarousel", "picture", "LQuotaCarousel$Roster;", true)
  | 2 => ("QuotaCarousel", "before", "LQuotaCarousel$Roster;", true)
  | 3 => ("QuotaCarousel", "pictured", "Z", false)
  | 4 => ("QuotaCarousel", "wheel", "LQuotaCarousel$Wheel;", true)
  | 5 => ("QuotaCarousel", "second", "LQuotaCarousel$Wheel;", true)
  | 6 => ("QuotaCarousel", "runs", "LQuotaCarousel$Runs;", true)
  | 7 => ("QuotaCarousel", "total", "LQuotaCarousel$Ratio;", true)
  | 8 => ("QuotaCarousel", "term", "LQuotaCarousel$Ratio;", true)
  | 9 => ("QuotaCarousel", "piece", "LQuotaCarousel$Ratio;", true)
  | 10 => ("QuotaCarousel", "replacement", "LQuotaCarousel$Replacement;", true)
  | 11 => ("QuotaCarousel", "tape", "LQuotaCarousel$Tape;", true)
  | 12 => ("QuotaCarousel", "latest", "LQuotaCarousel$Reason;", true)
  | _ => ("QuotaCarousel", "rows", "[LQuotaCarousel$Row;", true)
def tyX8 : Nat → FieldType := fun k => match k with
  | 0 => .object "QuotaCarousel$Roster"
  | 1 => .object "QuotaCarousel$Roster"
  | 2 => .object "QuotaCarousel$Roster"
  | 3 => .boolean
  | 4 => .object "QuotaCarousel$Wheel"
  | 5 => .object "QuotaCarousel$Wheel"
  | 6 => .object "QuotaCarousel$Runs"
  | 7 => .object "QuotaCarousel$Ratio"
  | 8 => .object "QuotaCarousel$Ratio"
  | 9 => .object "QuotaCarousel$Ratio"
  | 10 => .object "QuotaCarousel$Replacement"
  | 11 => .object "QuotaCarousel$Tape"
  | 12 => .object "QuotaCarousel$Reason"
  | _ => .array (.object "QuotaCarousel$Row")
theorem nmX8 : ∀ a, a < 14 → ∀ b, b < 14 → a ≠ b → (TX8 a).2.1 ≠ (TX8 b).2.1 := by decide +kernel
theorem tyX8_ok : ∀ k, k < 14 → parseFieldDescriptor (TX8 k).2.2.1 = some (tyX8 k) := by decide +kernel
abbrev cX8_init : ByteArray := prog_1_method_1_code
def yX8_init : MethodName := ⟨RX8, "<init>", "()V"⟩
abbrev cX8_unit : ByteArray := prog_1_method_2_code
def yX8_unit : MethodName := ⟨RX8, "unit", "(IIII)I"⟩
abbrev cX8_odds : ByteArray := prog_1_method_3_code
def yX8_odds : MethodName := ⟨RX8, "odds", "(IIII)I"⟩
abbrev cX8_set : ByteArray := prog_1_method_4_code
def yX8_set : MethodName := ⟨RX8, "set", "(III)I"⟩
abbrev cX8_mark : ByteArray := prog_1_method_5_code
def yX8_mark : MethodName := ⟨RX8, "mark", "(II)I"⟩
abbrev cX8_of : ByteArray := prog_1_method_6_code
def yX8_of : MethodName := ⟨RX8, "of", "(II)J"⟩
abbrev cX8_fraction : ByteArray := prog_1_method_7_code
def yX8_fraction : MethodName := ⟨RX8, "fraction", "(III)J"⟩
abbrev cX8_order : ByteArray := prog_1_method_8_code
def yX8_order : MethodName := ⟨RX8, "order", "(I)I"⟩
abbrev cX8_at : ByteArray := prog_1_method_9_code
def yX8_at : MethodName := ⟨RX8, "at", "(I)I"⟩
abbrev cX8_swap : ByteArray := prog_1_method_10_code
def yX8_swap : MethodName := ⟨RX8, "swap", "(II)I"⟩
abbrev cX8_common : ByteArray := prog_1_method_11_code
def yX8_common : MethodName := ⟨RX8, "common", "(I)I"⟩
abbrev cX8_parts : ByteArray := prog_1_method_12_code
def yX8_parts : MethodName := ⟨RX8, "parts", "(I)I"⟩
abbrev cX8_size : ByteArray := prog_1_method_13_code
def yX8_size : MethodName := ⟨RX8, "size", "(I)I"⟩
abbrev cX8_chosen : ByteArray := prog_1_method_14_code
def yX8_chosen : MethodName := ⟨RX8, "chosen", "(I)I"⟩
abbrev cX8_run : ByteArray := prog_1_method_15_code
def yX8_run : MethodName := ⟨RX8, "run", "(II)I"⟩
abbrev cX8_joint : ByteArray := prog_1_method_16_code
def yX8_joint : MethodName := ⟨RX8, "joint", "(III)J"⟩
abbrev cX8_joints : ByteArray := prog_1_method_17_code
def yX8_joints : MethodName := ⟨RX8, "joints", "(II)J"⟩
abbrev cX8_fair : ByteArray := prog_1_method_18_code
def yX8_fair : MethodName := ⟨RX8, "fair", "(I)I"⟩
abbrev cX8_estimate : ByteArray := prog_1_method_19_code
def yX8_estimate : MethodName := ⟨RX8, "estimate", "(II)J"⟩
abbrev cX8_mean : ByteArray := prog_1_method_20_code
def yX8_mean : MethodName := ⟨RX8, "mean", "(I)J"⟩
abbrev cX8_spread : ByteArray := prog_1_method_21_code
def yX8_spread : MethodName := ⟨RX8, "spread", "(I)J"⟩
abbrev cX8_twice : ByteArray := prog_1_method_22_code
def yX8_twice : MethodName := ⟨RX8, "twice", "(II)I"⟩
abbrev cX8_both : ByteArray := prog_1_method_23_code
def yX8_both : MethodName := ⟨RX8, "both", "(III)J"⟩
abbrev cX8_kept : ByteArray := prog_1_method_24_code
def yX8_kept : MethodName := ⟨RX8, "kept", "(III)J"⟩
abbrev cX8_overlap : ByteArray := prog_1_method_25_code
def yX8_overlap : MethodName := ⟨RX8, "overlap", "(II)J"⟩
abbrev cX8_shift : ByteArray := prog_1_method_26_code
def yX8_shift : MethodName := ⟨RX8, "shift", "(I)I"⟩
abbrev cX8_replaced : ByteArray := prog_1_method_27_code
def yX8_replaced : MethodName := ⟨RX8, "replaced", "(II)I"⟩
abbrev cX8_substitute : ByteArray := prog_1_method_28_code
def yX8_substitute : MethodName := ⟨RX8, "substitute", "(III)I"⟩
abbrev cX8_finals : ByteArray := prog_1_method_29_code
def yX8_finals : MethodName := ⟨RX8, "finals", "(III)J"⟩
abbrev cX8_drawn : ByteArray := prog_1_method_30_code
def yX8_drawn : MethodName := ⟨RX8, "drawn", "(IIJ)I"⟩
abbrev cX8_feed : ByteArray := prog_1_method_31_code
def yX8_feed : MethodName := ⟨RX8, "feed", "(I)I"⟩
abbrev cX8_tells : ByteArray := prog_1_method_32_code
def yX8_tells : MethodName := ⟨RX8, "tells", "()I"⟩
abbrev cX8_reason : ByteArray := prog_1_method_33_code
def yX8_reason : MethodName := ⟨RX8, "reason", "(I)I"⟩
abbrev cX8_list : ByteArray := prog_1_method_34_code
def yX8_list : MethodName := ⟨RX8, "list", "(II)I"⟩
abbrev cX8_put : ByteArray := prog_1_method_35_code
def yX8_put : MethodName := ⟨RX8, "put", "(IIJ)I"⟩
abbrev cX8_look : ByteArray := prog_1_method_36_code
def yX8_look : MethodName := ⟨RX8, "look", "(II)J"⟩
abbrev cX8_judge : ByteArray := prog_1_method_37_code
def yX8_judge : MethodName := ⟨RX8, "judge", "(II)I"⟩
abbrev cX8_image : ByteArray := prog_1_method_38_code
def yX8_image : MethodName := ⟨RX8, "image", "()I"⟩
abbrev cX8_undo : ByteArray := prog_1_method_39_code
def yX8_undo : MethodName := ⟨RX8, "undo", "()I"⟩
abbrev cX8_count : ByteArray := prog_1_method_40_code
def yX8_count : MethodName := ⟨RX8, "count", "(I)I"⟩
abbrev cX8_answered : ByteArray := prog_1_method_41_code
def yX8_answered : MethodName := ⟨RX8, "answered", "(I)I"⟩
abbrev cX8_refuse : ByteArray := prog_1_method_42_code
def yX8_refuse : MethodName := ⟨RX8, "refuse", "(I)I"⟩
abbrev cX8_refuseLong : ByteArray := prog_1_method_43_code
def yX8_refuseLong : MethodName := ⟨RX8, "refuseLong", "(I)J"⟩
abbrev cX8_partOf : ByteArray := prog_1_method_44_code
def yX8_partOf : MethodName := ⟨RX8, "partOf", "(LQuotaCarousel$Ratio;I)J"⟩
abbrev cX8_lowest : ByteArray := prog_1_method_45_code
def yX8_lowest : MethodName := ⟨RX8, "lowest", "(JJI)J"⟩
abbrev cX8_rowOf : ByteArray := prog_1_method_46_code
def yX8_rowOf : MethodName := ⟨RX8, "rowOf", "(I)LQuotaCarousel$Row;"⟩
abbrev cX8_refusalAt : ByteArray := prog_1_method_47_code
def yX8_refusalAt : MethodName := ⟨RX8, "refusalAt", "(LQuotaCarousel$Row;I)I"⟩
abbrev cX8_isRow : ByteArray := prog_1_method_48_code
def yX8_isRow : MethodName := ⟨RX8, "isRow", "(I)Z"⟩
abbrev cX8_isPart : ByteArray := prog_1_method_49_code
def yX8_isPart : MethodName := ⟨RX8, "isPart", "(I)Z"⟩
abbrev cX8_isManner : ByteArray := prog_1_method_50_code
def yX8_isManner : MethodName := ⟨RX8, "isManner", "(I)Z"⟩
abbrev cX8_isIn : ByteArray := prog_1_method_51_code
def yX8_isIn : MethodName := ⟨RX8, "isIn", "(II)Z"⟩
abbrev cX8_gcd : ByteArray := prog_1_method_52_code
def yX8_gcd : MethodName := ⟨RX8, "gcd", "(JJ)J"⟩
abbrev cX8_layWheel : ByteArray := prog_1_method_53_code
def yX8_layWheel : MethodName := ⟨RX8, "layWheel", "()Z"⟩
abbrev cX8_layBothTimes : ByteArray := prog_1_method_54_code
def yX8_layBothTimes : MethodName := ⟨RX8, "layBothTimes", "()Z"⟩
abbrev cX8_isFair : ByteArray := prog_1_method_55_code
def yX8_isFair : MethodName := ⟨RX8, "isFair", "(I)Z"⟩
abbrev cX8_addEstimate : ByteArray := prog_1_method_56_code
def yX8_addEstimate : MethodName := ⟨RX8, "addEstimate", "(LQuotaCarousel$Ratio;I)V"⟩
abbrev cX8_overAllRuns : ByteArray := prog_1_method_57_code
def yX8_overAllRuns : MethodName := ⟨RX8, "overAllRuns", "(IZ)J"⟩
abbrev cX8_pairsOfBoth : ByteArray := prog_1_method_58_code
def yX8_pairsOfBoth : MethodName := ⟨RX8, "pairsOfBoth", "(IIJ)J"⟩
abbrev cX8_keptBy : ByteArray := prog_1_method_59_code
def yX8_keptBy : MethodName := ⟨RX8, "keptBy", "(IJ)J"⟩
abbrev cX8_allKeptBy : ByteArray := prog_1_method_60_code
def yX8_allKeptBy : MethodName := ⟨RX8, "allKeptBy", "(J)J"⟩
abbrev cX8_extremeShift : ByteArray := prog_1_method_61_code
def yX8_extremeShift : MethodName := ⟨RX8, "extremeShift", "(I)J"⟩
abbrev cX8_meeting : ByteArray := prog_1_method_62_code
def yX8_meeting : MethodName := ⟨RX8, "meeting", "(JJJJJ)J"⟩
abbrev cX8_doClauses : ByteArray := prog_1_method_63_code
def yX8_doClauses : MethodName := ⟨RX8, "doClauses", "()I"⟩
abbrev cX8_doClause : ByteArray := prog_1_method_64_code
def yX8_doClause : MethodName := ⟨RX8, "doClause", "()I"⟩
def RX9 : String := "QuotaCarouselModel"
def TX9 : u_T := fun k => match k with
  | 0 => ("QuotaCarouselModel", "now", "[I", true)
  | 1 => ("QuotaCarouselModel", "old", "[I", true)
  | 2 => ("QuotaCarouselModel", "ahead", "[I", true)
  | 3 => ("QuotaCarouselModel", "imaged", "Z", false)
  | 4 => ("QuotaCarouselModel", "reason", "[I", true)
  | 5 => ("QuotaCarouselModel", "row", "[I", true)
  | 6 => ("QuotaCarouselModel", "common", "J", false)
  | 7 => ("QuotaCarouselModel", "from", "[J", true)
  | 8 => ("QuotaCarouselModel", "parts", "[J", true)
  | 9 => ("QuotaCarouselModel", "otherFrom", "[J", true)
  | 10 => ("QuotaCarouselModel", "otherParts", "[J", true)
  | 11 => ("QuotaCarouselModel", "all", "J", false)
  | 12 => ("QuotaCarouselModel", "runs", "I", false)
  | 13 => ("QuotaCarouselModel", "first", "[J", true)
  | 14 => ("QuotaCarouselModel", "many", "[J", true)
  | 15 => ("QuotaCarouselModel", "who", "[I", true)
  | 16 => ("QuotaCarouselModel", "cuts", "[J", true)
  | 17 => ("QuotaCarouselModel", "above", "J", false)
  | 18 => ("QuotaCarouselModel", "below", "J", false)
  | 19 => ("QuotaCarouselModel", "beyond", "Z", false)
  | 20 => ("QuotaCarouselModel", "substitutes", "[I", true)
  | 21 => ("QuotaCarouselModel", "taped", "I", false)
  | 22 => ("QuotaCarouselModel", "tape", "[I", true)
  | 23 => ("QuotaCarouselModel", "at", "I", false)
  | 24 => ("QuotaCarouselModel", "fault", "I", false)
  | 25 => ("QuotaCarouselModel", "clauses", "I", false)
  | 26 => ("QuotaCarouselModel", "read", "[I", true)
  | 27 => ("QuotaCarouselModel", "size", "[I", true)
  | _ => ("QuotaCarouselModel", "items", "[J", true)
def tyX9 : Nat → FieldType := fun k => match k with
  | 0 => .array .int
  | 1 => .array .int
  | 2 => .array .int
  | 3 => .boolean
  | 4 => .array .int
  | 5 => .array .int
  | 6 => .long
  | 7 => .array .long
  | 8 => .array .long
  | 9 => .array .long
  | 10 => .array .long
  | 11 => .long
  | 12 => .int
  | 13 => .array .long
  | 14 => .array .long
  | 15 => .array .int
  | 16 => .array .long
  | 17 => .long
  | 18 => .long
  | 19 => .boolean
  | 20 => .array .int
  | 21 => .int
  | 22 => .array .int
  | 23 => .int
  | 24 => .int
  | 25 => .int
  | 26 => .array .int
  | 27 => .array .int
  | _ => .array .long
theorem nmX9 : ∀ a, a < 29 → ∀ b, b < 29 → a ≠ b → (TX9 a).2.1 ≠ (TX9 b).2.1 := by decide +kernel
theorem tyX9_ok : ∀ k, k < 29 → parseFieldDescriptor (TX9 k).2.2.1 = some (tyX9 k) := by decide +kernel
abbrev cX9_init : ByteArray := prog_11_method_1_code
def yX9_init : MethodName := ⟨RX9, "<init>", "()V"⟩
abbrev cX9_within : ByteArray := prog_11_method_2_code
def yX9_within : MethodName := ⟨RX9, "within", "(III)Z"⟩
abbrev cX9_refused : ByteArray := prog_11_method_3_code
def yX9_refused : MethodName := ⟨RX9, "refused", "(IIII)I"⟩
abbrev cX9_no : ByteArray := prog_11_method_4_code
def yX9_no : MethodName := ⟨RX9, "no", "(I)I"⟩
abbrev cX9_noLong : ByteArray := prog_11_method_5_code
def yX9_noLong : MethodName := ⟨RX9, "noLong", "(I)J"⟩
abbrev cX9_isUnit : ByteArray := prog_11_method_6_code
def yX9_isUnit : MethodName := ⟨RX9, "isUnit", "(I)Z"⟩
abbrev cX9_isOdds : ByteArray := prog_11_method_7_code
def yX9_isOdds : MethodName := ⟨RX9, "isOdds", "(III)Z"⟩
abbrev cX9_comes : ByteArray := prog_11_method_8_code
def yX9_comes : MethodName := ⟨RX9, "comes", "(IIII)I"⟩
abbrev cX9_unit : ByteArray := prog_11_method_9_code
def yX9_unit : MethodName := ⟨RX9, "unit", "(IIII)I"⟩
abbrev cX9_becomes : ByteArray := prog_11_method_10_code
def yX9_becomes : MethodName := ⟨RX9, "becomes", "(IIII)I"⟩
abbrev cX9_odds : ByteArray := prog_11_method_11_code
def yX9_odds : MethodName := ⟨RX9, "odds", "(IIII)I"⟩
abbrev cX9_set : ByteArray := prog_11_method_12_code
def yX9_set : MethodName := ⟨RX9, "set", "(III)I"⟩
abbrev cX9_mark : ByteArray := prog_11_method_13_code
def yX9_mark : MethodName := ⟨RX9, "mark", "(II)I"⟩
abbrev cX9_of : ByteArray := prog_11_method_14_code
def yX9_of : MethodName := ⟨RX9, "of", "(II)J"⟩
abbrev cX9_divisor : ByteArray := prog_11_method_15_code
def yX9_divisor : MethodName := ⟨RX9, "divisor", "(JJ)J"⟩
abbrev cX9_lowest : ByteArray := prog_11_method_16_code
def yX9_lowest : MethodName := ⟨RX9, "lowest", "(JJI)J"⟩
abbrev cX9_isPart : ByteArray := prog_11_method_17_code
def yX9_isPart : MethodName := ⟨RX9, "isPart", "(I)Z"⟩
abbrev cX9_fraction : ByteArray := prog_11_method_18_code
def yX9_fraction : MethodName := ⟨RX9, "fraction", "(III)J"⟩
abbrev cX9_order : ByteArray := prog_11_method_19_code
def yX9_order : MethodName := ⟨RX9, "order", "(I)I"⟩
abbrev cX9_more : ByteArray := prog_11_method_20_code
def yX9_more : MethodName := ⟨RX9, "more", "(II)I"⟩
abbrev cX9_isAhead : ByteArray := prog_11_method_21_code
def yX9_isAhead : MethodName := ⟨RX9, "isAhead", "(II)Z"⟩
abbrev cX9_inOrder : ByteArray := prog_11_method_22_code
def yX9_inOrder : MethodName := ⟨RX9, "inOrder", "()V"⟩
abbrev cX9_place : ByteArray := prog_11_method_23_code
def yX9_place : MethodName := ⟨RX9, "place", "(I)I"⟩
abbrev cX9_at : ByteArray := prog_11_method_24_code
def yX9_at : MethodName := ⟨RX9, "at", "(I)I"⟩
abbrev cX9_swaps : ByteArray := prog_11_method_25_code
def yX9_swaps : MethodName := ⟨RX9, "swaps", "(II)I"⟩
abbrev cX9_swap : ByteArray := prog_11_method_26_code
def yX9_swap : MethodName := ⟨RX9, "swap", "(II)I"⟩
abbrev cX9_meets : ByteArray := prog_11_method_27_code
def yX9_meets : MethodName := ⟨RX9, "meets", "(I)Z"⟩
abbrev cX9_arcs : ByteArray := prog_11_method_28_code
def yX9_arcs : MethodName := ⟨RX9, "arcs", "(I[J[JI)Z"⟩
abbrev cX9_everyone : ByteArray := prog_11_method_29_code
def yX9_everyone : MethodName := ⟨RX9, "everyone", "()I"⟩
abbrev cX9_lays : ByteArray := prog_11_method_30_code
def yX9_lays : MethodName := ⟨RX9, "lays", "(I)Z"⟩
abbrev cX9_common : ByteArray := prog_11_method_31_code
def yX9_common : MethodName := ⟨RX9, "common", "(I)I"⟩
abbrev cX9_parts : ByteArray := prog_11_method_32_code
def yX9_parts : MethodName := ⟨RX9, "parts", "(I)I"⟩
abbrev cX9_size : ByteArray := prog_11_method_33_code
def yX9_size : MethodName := ⟨RX9, "size", "(I)I"⟩
abbrev cX9_isOn : ByteArray := prog_11_method_34_code
def yX9_isOn : MethodName := ⟨RX9, "isOn", "(JJJJ)Z"⟩
abbrev cX9_chosenBy : ByteArray := prog_11_method_35_code
def yX9_chosenBy : MethodName := ⟨RX9, "chosenBy", "(J)I"⟩
abbrev cX9_isPlace : ByteArray := prog_11_method_36_code
def yX9_isPlace : MethodName := ⟨RX9, "isPlace", "(I)Z"⟩
abbrev cX9_chosen : ByteArray := prog_11_method_37_code
def yX9_chosen : MethodName := ⟨RX9, "chosen", "(I)I"⟩
abbrev cX9_cutsAt : ByteArray := prog_11_method_38_code
def yX9_cutsAt : MethodName := ⟨RX9, "cutsAt", "(IJ)I"⟩
abbrev cX9_goesRound : ByteArray := prog_11_method_39_code
def yX9_goesRound : MethodName := ⟨RX9, "goesRound", "()V"⟩
abbrev cX9_laysRuns : ByteArray := prog_11_method_40_code
def yX9_laysRuns : MethodName := ⟨RX9, "laysRuns", "()Z"⟩
abbrev cX9_run : ByteArray := prog_11_method_41_code
def yX9_run : MethodName := ⟨RX9, "run", "(II)I"⟩
abbrev cX9_has : ByteArray := prog_11_method_42_code
def yX9_has : MethodName := ⟨RX9, "has", "(II)Z"⟩
abbrev cX9_joint : ByteArray := prog_11_method_43_code
def yX9_joint : MethodName := ⟨RX9, "joint", "(III)J"⟩
abbrev cX9_joints : ByteArray := prog_11_method_44_code
def yX9_joints : MethodName := ⟨RX9, "joints", "(II)J"⟩
abbrev cX9_fair : ByteArray := prog_11_method_45_code
def yX9_fair : MethodName := ⟨RX9, "fair", "(I)I"⟩
abbrev cX9_product : ByteArray := prog_11_method_46_code
def yX9_product : MethodName := ⟨RX9, "product", "(JJ)J"⟩
abbrev cX9_sum : ByteArray := prog_11_method_47_code
def yX9_sum : MethodName := ⟨RX9, "sum", "(JJ)J"⟩
abbrev cX9_is : ByteArray := prog_11_method_48_code
def yX9_is : MethodName := ⟨RX9, "is", "(JJ)V"⟩
abbrev cX9_adds : ByteArray := prog_11_method_49_code
def yX9_adds : MethodName := ⟨RX9, "adds", "(JJJJ)V"⟩
abbrev cX9_times : ByteArray := prog_11_method_50_code
def yX9_times : MethodName := ⟨RX9, "times", "(JJJJ)V"⟩
abbrev cX9_estimates : ByteArray := prog_11_method_51_code
def yX9_estimates : MethodName := ⟨RX9, "estimates", "(I)V"⟩
abbrev cX9_estimate : ByteArray := prog_11_method_52_code
def yX9_estimate : MethodName := ⟨RX9, "estimate", "(II)J"⟩
abbrev cX9_meansOf : ByteArray := prog_11_method_53_code
def yX9_meansOf : MethodName := ⟨RX9, "meansOf", "(Z)Z"⟩
abbrev cX9_meant : ByteArray := prog_11_method_54_code
def yX9_meant : MethodName := ⟨RX9, "meant", "(IZ)J"⟩
abbrev cX9_mean : ByteArray := prog_11_method_55_code
def yX9_mean : MethodName := ⟨RX9, "mean", "(I)J"⟩
abbrev cX9_spread : ByteArray := prog_11_method_56_code
def yX9_spread : MethodName := ⟨RX9, "spread", "(I)J"⟩
abbrev cX9_overlaps : ByteArray := prog_11_method_57_code
def yX9_overlaps : MethodName := ⟨RX9, "overlaps", "(JJJJJ)J"⟩
abbrev cX9_twice : ByteArray := prog_11_method_58_code
def yX9_twice : MethodName := ⟨RX9, "twice", "(II)I"⟩
abbrev cX9_both : ByteArray := prog_11_method_59_code
def yX9_both : MethodName := ⟨RX9, "both", "(III)J"⟩
abbrev cX9_keptOf : ByteArray := prog_11_method_60_code
def yX9_keptOf : MethodName := ⟨RX9, "keptOf", "(IJ)J"⟩
abbrev cX9_overlapOf : ByteArray := prog_11_method_61_code
def yX9_overlapOf : MethodName := ⟨RX9, "overlapOf", "(J)J"⟩
abbrev cX9_kept : ByteArray := prog_11_method_62_code
def yX9_kept : MethodName := ⟨RX9, "kept", "(III)J"⟩
abbrev cX9_overlap : ByteArray := prog_11_method_63_code
def yX9_overlap : MethodName := ⟨RX9, "overlap", "(II)J"⟩
abbrev cX9_shift : ByteArray := prog_11_method_64_code
def yX9_shift : MethodName := ⟨RX9, "shift", "(I)I"⟩
abbrev cX9_finalOf : ByteArray := prog_11_method_65_code
def yX9_finalOf : MethodName := ⟨RX9, "finalOf", "(II)I"⟩
abbrev cX9_isManner : ByteArray := prog_11_method_66_code
def yX9_isManner : MethodName := ⟨RX9, "isManner", "(I)Z"⟩
abbrev cX9_replaced : ByteArray := prog_11_method_67_code
def yX9_replaced : MethodName := ⟨RX9, "replaced", "(II)I"⟩
abbrev cX9_substitute : ByteArray := prog_11_method_68_code
def yX9_substitute : MethodName := ⟨RX9, "substitute", "(III)I"⟩
abbrev cX9_finals : ByteArray := prog_11_method_69_code
def yX9_finals : MethodName := ⟨RX9, "finals", "(III)J"⟩
abbrev cX9_drawn : ByteArray := prog_11_method_70_code
def yX9_drawn : MethodName := ⟨RX9, "drawn", "(IIJ)I"⟩
abbrev cX9_feed : ByteArray := prog_11_method_71_code
def yX9_feed : MethodName := ⟨RX9, "feed", "(I)I"⟩
abbrev cX9_isFrom : ByteArray := prog_11_method_72_code
def yX9_isFrom : MethodName := ⟨RX9, "isFrom", "(II)Z"⟩
abbrev cX9_wrong : ByteArray := prog_11_method_73_code
def yX9_wrong : MethodName := ⟨RX9, "wrong", "()V"⟩
abbrev cX9_needs : ByteArray := prog_11_method_74_code
def yX9_needs : MethodName := ⟨RX9, "needs", "(I)V"⟩
abbrev cX9_number : ByteArray := prog_11_method_75_code
def yX9_number : MethodName := ⟨RX9, "number", "(I)I"⟩
abbrev cX9_reads : ByteArray := prog_11_method_76_code
def yX9_reads : MethodName := ⟨RX9, "reads", "()V"⟩
abbrev cX9_does : ByteArray := prog_11_method_77_code
def yX9_does : MethodName := ⟨RX9, "does", "(I)I"⟩
abbrev cX9_pours : ByteArray := prog_11_method_78_code
def yX9_pours : MethodName := ⟨RX9, "pours", "([I[I)V"⟩
abbrev cX9_tells : ByteArray := prog_11_method_79_code
def yX9_tells : MethodName := ⟨RX9, "tells", "()I"⟩
abbrev cX9_reason : ByteArray := prog_11_method_80_code
def yX9_reason : MethodName := ⟨RX9, "reason", "(I)I"⟩
abbrev cX9_isList : ByteArray := prog_11_method_81_code
def yX9_isList : MethodName := ⟨RX9, "isList", "(I)Z"⟩
abbrev cX9_list : ByteArray := prog_11_method_82_code
def yX9_list : MethodName := ⟨RX9, "list", "(II)I"⟩
abbrev cX9_put : ByteArray := prog_11_method_83_code
def yX9_put : MethodName := ⟨RX9, "put", "(IIJ)I"⟩
abbrev cX9_look : ByteArray := prog_11_method_84_code
def yX9_look : MethodName := ⟨RX9, "look", "(II)J"⟩
abbrev cX9_judge : ByteArray := prog_11_method_85_code
def yX9_judge : MethodName := ⟨RX9, "judge", "(II)I"⟩
abbrev cX9_image : ByteArray := prog_11_method_86_code
def yX9_image : MethodName := ⟨RX9, "image", "()I"⟩
abbrev cX9_undo : ByteArray := prog_11_method_87_code
def yX9_undo : MethodName := ⟨RX9, "undo", "()I"⟩
abbrev cX9_count : ByteArray := prog_11_method_88_code
def yX9_count : MethodName := ⟨RX9, "count", "(I)I"⟩
def RJ6 : String := "java/lang/Integer"
abbrev cJ6_bitCount_0f7a4 : ByteArray := prog_12_method_49_code
def yJ6_bitCount_0f7a4 : MethodName := ⟨RJ6, "bitCount", "(I)I"⟩
def RJ9 : String := "java/lang/Math"
abbrev cJ9_floorMod_f86c9 : ByteArray := prog_13_method_52_code
def yJ9_floorMod_f86c9 : MethodName := ⟨RJ9, "floorMod", "(JJ)J"⟩
abbrev cJ9_max_f86c9 : ByteArray := prog_13_method_66_code
def yJ9_max_f86c9 : MethodName := ⟨RJ9, "max", "(JJ)J"⟩
abbrev cJ9_min_f86c9 : ByteArray := prog_13_method_70_code
def yJ9_min_f86c9 : MethodName := ⟨RJ9, "min", "(JJ)J"⟩
def RJ0 : String := "java/lang/String"
abbrev cJ0_length_8abf5 : ByteArray := prog_14_method_54_code
def yJ0_length_8abf5 : MethodName := ⟨RJ0, "length", "()I"⟩
abbrev cJ0_isEmpty_aae02 : ByteArray := prog_14_method_55_code
def yJ0_isEmpty_aae02 : MethodName := ⟨RJ0, "isEmpty", "()Z"⟩
abbrev cJ0_charAt_5068e : ByteArray := prog_14_method_56_code
def yJ0_charAt_5068e : MethodName := ⟨RJ0, "charAt", "(I)C"⟩
abbrev cJ0_coder_7d493 : ByteArray := prog_14_method_152_code
def yJ0_coder_7d493 : MethodName := ⟨RJ0, "coder", "()B"⟩
abbrev cJ0_isLatin1_aae02 : ByteArray := prog_14_method_154_code
def yJ0_isLatin1_aae02 : MethodName := ⟨RJ0, "isLatin1", "()Z"⟩
abbrev cJ0_checkIndex_df160 : ByteArray := prog_14_method_155_code
def yJ0_checkIndex_df160 : MethodName := ⟨RJ0, "checkIndex", "(II)V"⟩
def RJ1 : String := "java/lang/StringLatin1"
abbrev cJ1_charAt_3b067 : ByteArray := prog_15_method_2_code
def yJ1_charAt_3b067 : MethodName := ⟨RJ1, "charAt", "([BI)C"⟩
def RJ2 : String := "java/lang/StringUTF16"
abbrev cJ2_getChar_3b067 : ByteArray := prog_16_method_5_code
def yJ2_getChar_3b067 : MethodName := ⟨RJ2, "getChar", "([BI)C"⟩
abbrev cJ2_length_9d52b : ByteArray := prog_16_method_6_code
def yJ2_length_9d52b : MethodName := ⟨RJ2, "length", "([B)I"⟩
abbrev cJ2_charAt_3b067 : ByteArray := prog_16_method_83_code
def yJ2_charAt_3b067 : MethodName := ⟨RJ2, "charAt", "([BI)C"⟩
abbrev cJ2_checkIndex_2214a : ByteArray := prog_16_method_91_code
def yJ2_checkIndex_2214a : MethodName := ⟨RJ2, "checkIndex", "(I[B)V"⟩
def RJ10 : String := "java/lang/System"
def RJ3 : String := "jdk/internal/util/Preconditions"
abbrev cJ3_checkIndex_8e157 : ByteArray := prog_18_method_11_code
def yJ3_checkIndex_8e157 : MethodName := ⟨RJ3, "checkIndex", "(IILjava/util/function/BiFunction;)I"⟩
def RL : String := "QuotaCarouselLaw"
abbrev cL_law : ByteArray := code
def yL_law : MethodName := ⟨RL, "law", "([I)Z"⟩
theorem dX0_init_0 : decode cX0_init 0 = .ok (.aload_n 0, 1) := by decide +kernel
theorem dX0_init_1 : decode cX0_init 1 = .ok (.invokespecial 3, 3) := by decide +kernel
theorem dX0_init_4 : decode cX0_init 4 = .ok (.aload_n 0, 1) := by decide +kernel
theorem dX0_init_5 : decode cX0_init 5 = .ok (.lconst 0, 1) := by decide +kernel
theorem dX0_init_6 : decode cX0_init 6 = .ok (.putfield 9, 3) := by decide +kernel
theorem dX0_init_9 : decode cX0_init 9 = .ok (.aload_n 0, 1) := by decide +kernel
theorem dX0_init_10 : decode cX0_init 10 = .ok (.lconst 1, 1) := by decide +kernel
theorem dX0_init_11 : decode cX0_init 11 = .ok (.putfield 15, 3) := by decide +kernel
theorem dX0_init_14 : decode cX0_init 14 = .ok (.aload_n 0, 1) := by decide +kernel
theorem dX0_init_15 : decode cX0_init 15 = .ok (.iconst 0, 1) := by decide +kernel
theorem dX0_init_16 : decode cX0_init 16 = .ok (.putfield 18, 3) := by decide +kernel
theorem dX0_init_19 : decode cX0_init 19 = .ok (.return_, 1) := by decide +kernel
theorem dX0_begin_0 : decode cX0_begin 0 = .ok (.aload_n 0, 1) := by decide +kernel
theorem dX0_begin_1 : decode cX0_begin 1 = .ok (.iconst 0, 1) := by decide +kernel
theorem dX0_begin_2 : decode cX0_begin 2 = .ok (.putfield 18, 3) := by decide +kernel
theorem dX0_begin_5 : decode cX0_begin 5 = .ok (.aload_n 0, 1) := by decide +kernel
theorem dX0_begin_6 : decode cX0_begin 6 = .ok (.lload_n 1, 1) := by decide +kernel
theorem dX0_begin_7 : decode cX0_begin 7 = .ok (.lload_n 3, 1) := by decide +kernel
theorem dX0_begin_8 : decode cX0_begin 8 = .ok (.invokevirtual 22, 3) := by decide +kernel
theorem dX0_begin_11 : decode cX0_begin 11 = .ok (.return_, 1) := by decide +kernel
theorem dX0_add_0 : decode cX0_add 0 = .ok (.aload_n 0, 1) := by decide +kernel
theorem dX0_add_1 : decode cX0_add 1 = .ok (.getfield 9, 3) := by decide +kernel
theorem dX0_add_4 : decode cX0_add 4 = .ok (.lload_n 3, 1) := by decide +kernel
theorem dX0_add_5 : decode cX0_add 5 = .ok (.lmul, 1) := by decide +kernel
theorem dX0_add_6 : decode cX0_add 6 = .ok (.lstore 5, 2) := by decide +kernel
theorem dX0_add_8 : decode cX0_add 8 = .ok (.lload_n 1, 1) := by decide +kernel
theorem dX0_add_9 : decode cX0_add 9 = .ok (.aload_n 0, 1) := by decide +kernel
theorem dX0_add_10 : decode cX0_add 10 = .ok (.getfield 15, 3) := by decide +kernel
theorem dX0_add_13 : decode cX0_add 13 = .ok (.lmul, 1) := by decide +kernel
theorem dX0_add_14 : decode cX0_add 14 = .ok (.lstore 7, 2) := by decide +kernel
theorem dX0_add_16 : decode cX0_add 16 = .ok (.lload 5, 2) := by decide +kernel
theorem dX0_add_18 : decode cX0_add 18 = .ok (.lload 7, 2) := by decide +kernel
theorem dX0_add_20 : decode cX0_add 20 = .ok (.ladd, 1) := by decide +kernel
theorem dX0_add_21 : decode cX0_add 21 = .ok (.lstore 9, 2) := by decide +kernel
theorem dX0_add_23 : decode cX0_add 23 = .ok (.lload 5, 2) := by decide +kernel
theorem dX0_add_25 : decode cX0_add 25 = .ok (.lload 9, 2) := by decide +kernel
theorem dX0_add_27 : decode cX0_add 27 = .ok (.lxor, 1) := by decide +kernel
theorem dX0_add_28 : decode cX0_add 28 = .ok (.lload 7, 2) := by decide +kernel
theorem dX0_add_30 : decode cX0_add 30 = .ok (.lload 9, 2) := by decide +kernel
theorem dX0_add_32 : decode cX0_add 32 = .ok (.lxor, 1) := by decide +kernel
theorem dX0_add_33 : decode cX0_add 33 = .ok (.land, 1) := by decide +kernel
theorem dX0_add_34 : decode cX0_add 34 = .ok (.lconst 0, 1) := by decide +kernel
theorem dX0_add_35 : decode cX0_add 35 = .ok (.lcmp, 1) := by decide +kernel
theorem dX0_add_36 : decode cX0_add 36 = .ok (.ifCond .lt 7, 3) := by decide +kernel
theorem dX0_add_39 : decode cX0_add 39 = .ok (.iconst 1, 1) := by decide +kernel
theorem dX0_add_40 : decode cX0_add 40 = .ok (.goto 4, 3) := by decide +kernel
theorem dX0_add_43 : decode cX0_add 43 = .ok (.iconst 0, 1) := by decide +kernel
theorem dX0_add_44 : decode cX0_add 44 = .ok (.istore 11, 2) := by decide +kernel
theorem dX0_add_46 : decode cX0_add 46 = .ok (.aload_n 0, 1) := by decide +kernel
theorem dX0_add_47 : decode cX0_add 47 = .ok (.getfield 9, 3) := by decide +kernel
theorem dX0_add_50 : decode cX0_add 50 = .ok (.lload_n 3, 1) := by decide +kernel
theorem dX0_add_51 : decode cX0_add 51 = .ok (.invokestatic 26, 3) := by decide +kernel
theorem dX0_add_54 : decode cX0_add 54 = .ok (.ifCond .eq 30, 3) := by decide +kernel
theorem dX0_add_57 : decode cX0_add 57 = .ok (.lload_n 1, 1) := by decide +kernel
theorem dX0_add_58 : decode cX0_add 58 = .ok (.aload_n 0, 1) := by decide +kernel
theorem dX0_add_59 : decode cX0_add 59 = .ok (.getfield 15, 3) := by decide +kernel
theorem dX0_add_62 : decode cX0_add 62 = .ok (.invokestatic 26, 3) := by decide +kernel
theorem dX0_add_65 : decode cX0_add 65 = .ok (.ifCond .eq 19, 3) := by decide +kernel
theorem dX0_add_68 : decode cX0_add 68 = .ok (.aload_n 0, 1) := by decide +kernel
theorem dX0_add_69 : decode cX0_add 69 = .ok (.getfield 15, 3) := by decide +kernel
theorem dX0_add_72 : decode cX0_add 72 = .ok (.lload_n 3, 1) := by decide +kernel
theorem dX0_add_73 : decode cX0_add 73 = .ok (.invokestatic 26, 3) := by decide +kernel
theorem dX0_add_76 : decode cX0_add 76 = .ok (.ifCond .eq 8, 3) := by decide +kernel
theorem dX0_add_79 : decode cX0_add 79 = .ok (.iload 11, 2) := by decide +kernel
theorem dX0_add_81 : decode cX0_add 81 = .ok (.ifCond .ne 9, 3) := by decide +kernel
theorem dX0_add_84 : decode cX0_add 84 = .ok (.aload_n 0, 1) := by decide +kernel
theorem dX0_add_85 : decode cX0_add 85 = .ok (.iconst 1, 1) := by decide +kernel
theorem dX0_add_86 : decode cX0_add 86 = .ok (.putfield 18, 3) := by decide +kernel
theorem dX0_add_89 : decode cX0_add 89 = .ok (.return_, 1) := by decide +kernel
theorem dX0_add_90 : decode cX0_add 90 = .ok (.aload_n 0, 1) := by decide +kernel
theorem dX0_add_91 : decode cX0_add 91 = .ok (.lload 9, 2) := by decide +kernel
theorem dX0_add_93 : decode cX0_add 93 = .ok (.aload_n 0, 1) := by decide +kernel
theorem dX0_add_94 : decode cX0_add 94 = .ok (.getfield 15, 3) := by decide +kernel
theorem dX0_add_97 : decode cX0_add 97 = .ok (.lload_n 3, 1) := by decide +kernel
theorem dX0_add_98 : decode cX0_add 98 = .ok (.lmul, 1) := by decide +kernel
theorem dX0_add_99 : decode cX0_add 99 = .ok (.invokevirtual 22, 3) := by decide +kernel
theorem dX0_add_102 : decode cX0_add 102 = .ok (.return_, 1) := by decide +kernel
theorem dX0_times_0 : decode cX0_times 0 = .ok (.aload_n 0, 1) := by decide +kernel
theorem dX0_times_1 : decode cX0_times 1 = .ok (.getfield 9, 3) := by decide +kernel
theorem dX0_times_4 : decode cX0_times 4 = .ok (.lload_n 1, 1) := by decide +kernel
theorem dX0_times_5 : decode cX0_times 5 = .ok (.invokestatic 26, 3) := by decide +kernel
theorem dX0_times_8 : decode cX0_times 8 = .ok (.ifCond .eq 14, 3) := by decide +kernel
theorem dX0_times_11 : decode cX0_times 11 = .ok (.aload_n 0, 1) := by decide +kernel
theorem dX0_times_12 : decode cX0_times 12 = .ok (.getfield 15, 3) := by decide +kernel
theorem dX0_times_15 : decode cX0_times 15 = .ok (.lload_n 3, 1) := by decide +kernel
theorem dX0_times_16 : decode cX0_times 16 = .ok (.invokestatic 26, 3) := by decide +kernel
theorem dX0_times_19 : decode cX0_times 19 = .ok (.ifCond .ne 9, 3) := by decide +kernel
theorem dX0_times_22 : decode cX0_times 22 = .ok (.aload_n 0, 1) := by decide +kernel
theorem dX0_times_23 : decode cX0_times 23 = .ok (.iconst 1, 1) := by decide +kernel
theorem dX0_times_24 : decode cX0_times 24 = .ok (.putfield 18, 3) := by decide +kernel
theorem dX0_times_27 : decode cX0_times 27 = .ok (.return_, 1) := by decide +kernel
theorem dX0_times_28 : decode cX0_times 28 = .ok (.aload_n 0, 1) := by decide +kernel
theorem dX0_times_29 : decode cX0_times 29 = .ok (.aload_n 0, 1) := by decide +kernel
theorem dX0_times_30 : decode cX0_times 30 = .ok (.getfield 9, 3) := by decide +kernel
theorem dX0_times_33 : decode cX0_times 33 = .ok (.lload_n 1, 1) := by decide +kernel
theorem dX0_times_34 : decode cX0_times 34 = .ok (.lmul, 1) := by decide +kernel
theorem dX0_times_35 : decode cX0_times 35 = .ok (.aload_n 0, 1) := by decide +kernel
theorem dX0_times_36 : decode cX0_times 36 = .ok (.getfield 15, 3) := by decide +kernel
theorem dX0_times_39 : decode cX0_times 39 = .ok (.lload_n 3, 1) := by decide +kernel
theorem dX0_times_40 : decode cX0_times 40 = .ok (.lmul, 1) := by decide +kernel
theorem dX0_times_41 : decode cX0_times 41 = .ok (.invokevirtual 22, 3) := by decide +kernel
theorem dX0_times_44 : decode cX0_times 44 = .ok (.return_, 1) := by decide +kernel
theorem dX0_reduce_0 : decode cX0_reduce 0 = .ok (.lload_n 1, 1) := by decide +kernel
theorem dX0_reduce_1 : decode cX0_reduce 1 = .ok (.lload_n 3, 1) := by decide +kernel
theorem dX0_reduce_2 : decode cX0_reduce 2 = .ok (.invokestatic 30, 3) := by decide +kernel
theorem dX0_reduce_5 : decode cX0_reduce 5 = .ok (.lstore 5, 2) := by decide +kernel
theorem dX0_reduce_7 : decode cX0_reduce 7 = .ok (.aload_n 0, 1) := by decide +kernel
theorem dX0_reduce_8 : decode cX0_reduce 8 = .ok (.lload 5, 2) := by decide +kernel
theorem dX0_reduce_10 : decode cX0_reduce 10 = .ok (.lconst 1, 1) := by decide +kernel
theorem dX0_reduce_11 : decode cX0_reduce 11 = .ok (.lcmp, 1) := by decide +kernel
theorem dX0_reduce_12 : decode cX0_reduce 12 = .ok (.ifCond .le 10, 3) := by decide +kernel
theorem dX0_reduce_15 : decode cX0_reduce 15 = .ok (.lload_n 1, 1) := by decide +kernel
theorem dX0_reduce_16 : decode cX0_reduce 16 = .ok (.lload 5, 2) := by decide +kernel
theorem dX0_reduce_18 : decode cX0_reduce 18 = .ok (.ldiv, 1) := by decide +kernel
theorem dX0_reduce_19 : decode cX0_reduce 19 = .ok (.goto 4, 3) := by decide +kernel
theorem dX0_reduce_22 : decode cX0_reduce 22 = .ok (.lload_n 1, 1) := by decide +kernel
theorem dX0_reduce_23 : decode cX0_reduce 23 = .ok (.putfield 9, 3) := by decide +kernel
theorem dX0_reduce_26 : decode cX0_reduce 26 = .ok (.aload_n 0, 1) := by decide +kernel
theorem dX0_reduce_27 : decode cX0_reduce 27 = .ok (.lload 5, 2) := by decide +kernel
theorem dX0_reduce_29 : decode cX0_reduce 29 = .ok (.lconst 1, 1) := by decide +kernel
theorem dX0_reduce_30 : decode cX0_reduce 30 = .ok (.lcmp, 1) := by decide +kernel
theorem dX0_reduce_31 : decode cX0_reduce 31 = .ok (.ifCond .le 10, 3) := by decide +kernel
theorem dX0_reduce_34 : decode cX0_reduce 34 = .ok (.lload_n 3, 1) := by decide +kernel
theorem dX0_reduce_35 : decode cX0_reduce 35 = .ok (.lload 5, 2) := by decide +kernel
theorem dX0_reduce_37 : decode cX0_reduce 37 = .ok (.ldiv, 1) := by decide +kernel
theorem dX0_reduce_38 : decode cX0_reduce 38 = .ok (.goto 4, 3) := by decide +kernel
theorem dX0_reduce_41 : decode cX0_reduce 41 = .ok (.lload_n 3, 1) := by decide +kernel
theorem dX0_reduce_42 : decode cX0_reduce 42 = .ok (.putfield 15, 3) := by decide +kernel
theorem dX0_reduce_45 : decode cX0_reduce 45 = .ok (.return_, 1) := by decide +kernel
theorem dX0_productFits_0 : decode cX0_productFits 0 = .ok (.lload_n 0, 1) := by decide +kernel
theorem dX0_productFits_1 : decode cX0_productFits 1 = .ok (.lconst 0, 1) := by decide +kernel
theorem dX0_productFits_2 : decode cX0_productFits 2 = .ok (.lcmp, 1) := by decide +kernel
theorem dX0_productFits_3 : decode cX0_productFits 3 = .ok (.ifCond .eq 11, 3) := by decide +kernel
theorem dX0_productFits_6 : decode cX0_productFits 6 = .ok (.lload_n 0, 1) := by decide +kernel
theorem dX0_productFits_7 : decode cX0_productFits 7 = .ok (.ldc2_w 34, 3) := by decide +kernel
theorem dX0_productFits_10 : decode cX0_productFits 10 = .ok (.lcmp, 1) := by decide +kernel
theorem dX0_productFits_11 : decode cX0_productFits 11 = .ok (.ifCond .ne 23, 3) := by decide +kernel
theorem dX0_productFits_14 : decode cX0_productFits 14 = .ok (.lload_n 0, 1) := by decide +kernel
theorem dX0_productFits_15 : decode cX0_productFits 15 = .ok (.lconst 0, 1) := by decide +kernel
theorem dX0_productFits_16 : decode cX0_productFits 16 = .ok (.lcmp, 1) := by decide +kernel
theorem dX0_productFits_17 : decode cX0_productFits 17 = .ok (.ifCond .eq 11, 3) := by decide +kernel
theorem dX0_productFits_20 : decode cX0_productFits 20 = .ok (.lload_n 2, 1) := by decide +kernel
theorem dX0_productFits_21 : decode cX0_productFits 21 = .ok (.ldc2_w 36, 3) := by decide +kernel
theorem dX0_productFits_24 : decode cX0_productFits 24 = .ok (.lcmp, 1) := by decide +kernel
theorem dX0_productFits_25 : decode cX0_productFits 25 = .ok (.ifCond .eq 7, 3) := by decide +kernel
theorem dX0_productFits_28 : decode cX0_productFits 28 = .ok (.iconst 1, 1) := by decide +kernel
theorem dX0_productFits_29 : decode cX0_productFits 29 = .ok (.goto 4, 3) := by decide +kernel
theorem dX0_productFits_32 : decode cX0_productFits 32 = .ok (.iconst 0, 1) := by decide +kernel
theorem dX0_productFits_33 : decode cX0_productFits 33 = .ok (.ireturn, 1) := by decide +kernel
theorem dX0_productFits_34 : decode cX0_productFits 34 = .ok (.lload_n 0, 1) := by decide +kernel
theorem dX0_productFits_35 : decode cX0_productFits 35 = .ok (.lload_n 2, 1) := by decide +kernel
theorem dX0_productFits_36 : decode cX0_productFits 36 = .ok (.lmul, 1) := by decide +kernel
theorem dX0_productFits_37 : decode cX0_productFits 37 = .ok (.lload_n 0, 1) := by decide +kernel
theorem dX0_productFits_38 : decode cX0_productFits 38 = .ok (.ldiv, 1) := by decide +kernel
theorem dX0_productFits_39 : decode cX0_productFits 39 = .ok (.lload_n 2, 1) := by decide +kernel
theorem dX0_productFits_40 : decode cX0_productFits 40 = .ok (.lcmp, 1) := by decide +kernel
theorem dX0_productFits_41 : decode cX0_productFits 41 = .ok (.ifCond .ne 7, 3) := by decide +kernel
theorem dX0_productFits_44 : decode cX0_productFits 44 = .ok (.iconst 1, 1) := by decide +kernel
theorem dX0_productFits_45 : decode cX0_productFits 45 = .ok (.goto 4, 3) := by decide +kernel
theorem dX0_productFits_48 : decode cX0_productFits 48 = .ok (.iconst 0, 1) := by decide +kernel
theorem dX0_productFits_49 : decode cX0_productFits 49 = .ok (.ireturn, 1) := by decide +kernel
theorem dX1_init_0 : decode cX1_init 0 = .ok (.aload_n 0, 1) := by decide +kernel
theorem dX1_init_1 : decode cX1_init 1 = .ok (.invokespecial 1, 3) := by decide +kernel
theorem dX1_init_4 : decode cX1_init 4 = .ok (.aload_n 0, 1) := by decide +kernel
theorem dX1_init_5 : decode cX1_init 5 = .ok (.iconst 0, 1) := by decide +kernel
theorem dX1_init_6 : decode cX1_init 6 = .ok (.putfield 7, 3) := by decide +kernel
theorem dX1_init_9 : decode cX1_init 9 = .ok (.aload_n 0, 1) := by decide +kernel
theorem dX1_init_10 : decode cX1_init 10 = .ok (.iconst 0, 1) := by decide +kernel
theorem dX1_init_11 : decode cX1_init 11 = .ok (.putfield 13, 3) := by decide +kernel
theorem dX1_init_14 : decode cX1_init 14 = .ok (.aload_n 0, 1) := by decide +kernel
theorem dX1_init_15 : decode cX1_init 15 = .ok (.iconst 0, 1) := by decide +kernel
theorem dX1_init_16 : decode cX1_init 16 = .ok (.putfield 16, 3) := by decide +kernel
theorem dX1_init_19 : decode cX1_init 19 = .ok (.aload_n 0, 1) := by decide +kernel
theorem dX1_init_20 : decode cX1_init 20 = .ok (.iconst 0, 1) := by decide +kernel
theorem dX1_init_21 : decode cX1_init 21 = .ok (.putfield 19, 3) := by decide +kernel
theorem dX1_init_24 : decode cX1_init 24 = .ok (.return_, 1) := by decide +kernel
theorem dX1_note_0 : decode cX1_note 0 = .ok (.aload_n 0, 1) := by decide +kernel
theorem dX1_note_1 : decode cX1_note 1 = .ok (.iload_n 1, 1) := by decide +kernel
theorem dX1_note_2 : decode cX1_note 2 = .ok (.putfield 7, 3) := by decide +kernel
theorem dX1_note_5 : decode cX1_note 5 = .ok (.aload_n 0, 1) := by decide +kernel
theorem dX1_note_6 : decode cX1_note 6 = .ok (.iload_n 2, 1) := by decide +kernel
theorem dX1_note_7 : decode cX1_note 7 = .ok (.putfield 13, 3) := by decide +kernel
theorem dX1_note_10 : decode cX1_note 10 = .ok (.aload_n 0, 1) := by decide +kernel
theorem dX1_note_11 : decode cX1_note 11 = .ok (.iload_n 3, 1) := by decide +kernel
theorem dX1_note_12 : decode cX1_note 12 = .ok (.putfield 16, 3) := by decide +kernel
theorem dX1_note_15 : decode cX1_note 15 = .ok (.aload_n 0, 1) := by decide +kernel
theorem dX1_note_16 : decode cX1_note 16 = .ok (.iload 4, 2) := by decide +kernel
theorem dX1_note_18 : decode cX1_note 18 = .ok (.putfield 19, 3) := by decide +kernel
theorem dX1_note_21 : decode cX1_note 21 = .ok (.return_, 1) := by decide +kernel
theorem dX2_init_0 : decode cX2_init 0 = .ok (.aload_n 0, 1) := by decide +kernel
theorem dX2_init_1 : decode cX2_init 1 = .ok (.invokespecial 3, 3) := by decide +kernel
theorem dX2_init_4 : decode cX2_init 4 = .ok (.aload_n 0, 1) := by decide +kernel
theorem dX2_init_5 : decode cX2_init 5 = .ok (.iconst 0, 1) := by decide +kernel
theorem dX2_init_6 : decode cX2_init 6 = .ok (.putfield 9, 3) := by decide +kernel
theorem dX2_init_9 : decode cX2_init 9 = .ok (.aload_n 0, 1) := by decide +kernel
theorem dX2_init_10 : decode cX2_init 10 = .ok (.bipush 12, 2) := by decide +kernel
theorem dX2_init_12 : decode cX2_init 12 = .ok (.newarray .int, 2) := by decide +kernel
theorem dX2_init_14 : decode cX2_init 14 = .ok (.putfield 15, 3) := by decide +kernel
theorem dX2_init_17 : decode cX2_init 17 = .ok (.return_, 1) := by decide +kernel
theorem dX2_settle_0 : decode cX2_settle 0 = .ok (.iconst 0, 1) := by decide +kernel
theorem dX2_settle_1 : decode cX2_settle 1 = .ok (.istore 4, 2) := by decide +kernel
theorem dX2_settle_3 : decode cX2_settle 3 = .ok (.iconst 0, 1) := by decide +kernel
theorem dX2_settle_4 : decode cX2_settle 4 = .ok (.istore 5, 2) := by decide +kernel
theorem dX2_settle_6 : decode cX2_settle 6 = .ok (.iload 5, 2) := by decide +kernel
theorem dX2_settle_8 : decode cX2_settle 8 = .ok (.aload_n 1, 1) := by decide +kernel
theorem dX2_settle_9 : decode cX2_settle 9 = .ok (.getfield 19, 3) := by decide +kernel
theorem dX2_settle_12 : decode cX2_settle 12 = .ok (.if_icmp .ge 80, 3) := by decide +kernel
theorem dX2_settle_15 : decode cX2_settle 15 = .ok (.aload_n 1, 1) := by decide +kernel
theorem dX2_settle_16 : decode cX2_settle 16 = .ok (.iload 5, 2) := by decide +kernel
theorem dX2_settle_18 : decode cX2_settle 18 = .ok (.invokevirtual 24, 3) := by decide +kernel
theorem dX2_settle_21 : decode cX2_settle 21 = .ok (.istore 6, 2) := by decide +kernel
theorem dX2_settle_23 : decode cX2_settle 23 = .ok (.aload_n 1, 1) := by decide +kernel
theorem dX2_settle_24 : decode cX2_settle 24 = .ok (.iload 6, 2) := by decide +kernel
theorem dX2_settle_26 : decode cX2_settle 26 = .ok (.invokevirtual 28, 3) := by decide +kernel
theorem dX2_settle_29 : decode cX2_settle 29 = .ok (.ifCond .eq 57, 3) := by decide +kernel
theorem dX2_settle_32 : decode cX2_settle 32 = .ok (.iload_n 2, 1) := by decide +kernel
theorem dX2_settle_33 : decode cX2_settle 33 = .ok (.iload 6, 2) := by decide +kernel
theorem dX2_settle_35 : decode cX2_settle 35 = .ok (.invokestatic 32, 3) := by decide +kernel
theorem dX2_settle_38 : decode cX2_settle 38 = .ok (.ifCond .eq 48, 3) := by decide +kernel
theorem dX2_settle_41 : decode cX2_settle 41 = .ok (.aload_n 1, 1) := by decide +kernel
theorem dX2_settle_42 : decode cX2_settle 42 = .ok (.iload 5, 2) := by decide +kernel
theorem dX2_settle_44 : decode cX2_settle 44 = .ok (.iload_n 2, 1) := by decide +kernel
theorem dX2_settle_45 : decode cX2_settle 45 = .ok (.aload_n 1, 1) := by decide +kernel
theorem dX2_settle_46 : decode cX2_settle 46 = .ok (.getfield 36, 3) := by decide +kernel
theorem dX2_settle_49 : decode cX2_settle 49 = .ok (.ior, 1) := by decide +kernel
theorem dX2_settle_50 : decode cX2_settle 50 = .ok (.iload 4, 2) := by decide +kernel
theorem dX2_settle_52 : decode cX2_settle 52 = .ok (.ior, 1) := by decide +kernel
theorem dX2_settle_53 : decode cX2_settle 53 = .ok (.iload_n 3, 1) := by decide +kernel
theorem dX2_settle_54 : decode cX2_settle 54 = .ok (.invokestatic 39, 3) := by decide +kernel
theorem dX2_settle_57 : decode cX2_settle 57 = .ok (.istore 7, 2) := by decide +kernel
theorem dX2_settle_59 : decode cX2_settle 59 = .ok (.aload_n 0, 1) := by decide +kernel
theorem dX2_settle_60 : decode cX2_settle 60 = .ok (.getfield 15, 3) := by decide +kernel
theorem dX2_settle_63 : decode cX2_settle 63 = .ok (.iload 6, 2) := by decide +kernel
theorem dX2_settle_65 : decode cX2_settle 65 = .ok (.iload 7, 2) := by decide +kernel
theorem dX2_settle_67 : decode cX2_settle 67 = .ok (.iastore, 1) := by decide +kernel
theorem dX2_settle_68 : decode cX2_settle 68 = .ok (.iload 4, 2) := by decide +kernel
theorem dX2_settle_70 : decode cX2_settle 70 = .ok (.iload 7, 2) := by decide +kernel
theorem dX2_settle_72 : decode cX2_settle 72 = .ok (.ifCond .lt 10, 3) := by decide +kernel
theorem dX2_settle_75 : decode cX2_settle 75 = .ok (.iconst 1, 1) := by decide +kernel
theorem dX2_settle_76 : decode cX2_settle 76 = .ok (.iload 7, 2) := by decide +kernel
theorem dX2_settle_78 : decode cX2_settle 78 = .ok (.ishl, 1) := by decide +kernel
theorem dX2_settle_79 : decode cX2_settle 79 = .ok (.goto 4, 3) := by decide +kernel
theorem dX2_settle_82 : decode cX2_settle 82 = .ok (.iconst 0, 1) := by decide +kernel
theorem dX2_settle_83 : decode cX2_settle 83 = .ok (.ior, 1) := by decide +kernel
theorem dX2_settle_84 : decode cX2_settle 84 = .ok (.istore 4, 2) := by decide +kernel
theorem dX2_settle_86 : decode cX2_settle 86 = .ok (.iinc 5 1, 3) := by decide +kernel
theorem dX2_settle_89 : decode cX2_settle 89 = .ok (.goto (-83), 3) := by decide +kernel
theorem dX2_settle_92 : decode cX2_settle 92 = .ok (.aload_n 0, 1) := by decide +kernel
theorem dX2_settle_93 : decode cX2_settle 93 = .ok (.iload_n 2, 1) := by decide +kernel
theorem dX2_settle_94 : decode cX2_settle 94 = .ok (.aload_n 1, 1) := by decide +kernel
theorem dX2_settle_95 : decode cX2_settle 95 = .ok (.getfield 36, 3) := by decide +kernel
theorem dX2_settle_98 : decode cX2_settle 98 = .ok (.iconst (-1), 1) := by decide +kernel
theorem dX2_settle_99 : decode cX2_settle 99 = .ok (.ixor, 1) := by decide +kernel
theorem dX2_settle_100 : decode cX2_settle 100 = .ok (.iand, 1) := by decide +kernel
theorem dX2_settle_101 : decode cX2_settle 101 = .ok (.iload 4, 2) := by decide +kernel
theorem dX2_settle_103 : decode cX2_settle 103 = .ok (.ior, 1) := by decide +kernel
theorem dX2_settle_104 : decode cX2_settle 104 = .ok (.putfield 9, 3) := by decide +kernel
theorem dX2_settle_107 : decode cX2_settle 107 = .ok (.return_, 1) := by decide +kernel
theorem dX2_firstBehind_0 : decode cX2_firstBehind 0 = .ok (.aload_n 0, 1) := by decide +kernel
theorem dX2_firstBehind_1 : decode cX2_firstBehind 1 = .ok (.iload_n 1, 1) := by decide +kernel
theorem dX2_firstBehind_2 : decode cX2_firstBehind 2 = .ok (.invokevirtual 43, 3) := by decide +kernel
theorem dX2_firstBehind_5 : decode cX2_firstBehind 5 = .ok (.istore 4, 2) := by decide +kernel
theorem dX2_firstBehind_7 : decode cX2_firstBehind 7 = .ok (.iconst 1, 1) := by decide +kernel
theorem dX2_firstBehind_8 : decode cX2_firstBehind 8 = .ok (.istore 5, 2) := by decide +kernel
theorem dX2_firstBehind_10 : decode cX2_firstBehind 10 = .ok (.iload 5, 2) := by decide +kernel
theorem dX2_firstBehind_12 : decode cX2_firstBehind 12 = .ok (.aload_n 0, 1) := by decide +kernel
theorem dX2_firstBehind_13 : decode cX2_firstBehind 13 = .ok (.getfield 19, 3) := by decide +kernel
theorem dX2_firstBehind_16 : decode cX2_firstBehind 16 = .ok (.if_icmp .ge 55, 3) := by decide +kernel
theorem dX2_firstBehind_19 : decode cX2_firstBehind 19 = .ok (.iload_n 1, 1) := by decide +kernel
theorem dX2_firstBehind_20 : decode cX2_firstBehind 20 = .ok (.iload 5, 2) := by decide +kernel
theorem dX2_firstBehind_22 : decode cX2_firstBehind 22 = .ok (.iadd, 1) := by decide +kernel
theorem dX2_firstBehind_23 : decode cX2_firstBehind 23 = .ok (.aload_n 0, 1) := by decide +kernel
theorem dX2_firstBehind_24 : decode cX2_firstBehind 24 = .ok (.getfield 19, 3) := by decide +kernel
theorem dX2_firstBehind_27 : decode cX2_firstBehind 27 = .ok (.irem, 1) := by decide +kernel
theorem dX2_firstBehind_28 : decode cX2_firstBehind 28 = .ok (.istore 6, 2) := by decide +kernel
theorem dX2_firstBehind_30 : decode cX2_firstBehind 30 = .ok (.aload_n 0, 1) := by decide +kernel
theorem dX2_firstBehind_31 : decode cX2_firstBehind 31 = .ok (.iload 6, 2) := by decide +kernel
theorem dX2_firstBehind_33 : decode cX2_firstBehind 33 = .ok (.invokevirtual 24, 3) := by decide +kernel
theorem dX2_firstBehind_36 : decode cX2_firstBehind 36 = .ok (.istore 7, 2) := by decide +kernel
theorem dX2_firstBehind_38 : decode cX2_firstBehind 38 = .ok (.iload_n 2, 1) := by decide +kernel
theorem dX2_firstBehind_39 : decode cX2_firstBehind 39 = .ok (.iload 7, 2) := by decide +kernel
theorem dX2_firstBehind_41 : decode cX2_firstBehind 41 = .ok (.invokestatic 32, 3) := by decide +kernel
theorem dX2_firstBehind_44 : decode cX2_firstBehind 44 = .ok (.ifCond .ne 21, 3) := by decide +kernel
theorem dX2_firstBehind_47 : decode cX2_firstBehind 47 = .ok (.iload_n 3, 1) := by decide +kernel
theorem dX2_firstBehind_48 : decode cX2_firstBehind 48 = .ok (.ifCond .eq 14, 3) := by decide +kernel
theorem dX2_firstBehind_51 : decode cX2_firstBehind 51 = .ok (.aload_n 0, 1) := by decide +kernel
theorem dX2_firstBehind_52 : decode cX2_firstBehind 52 = .ok (.iload 6, 2) := by decide +kernel
theorem dX2_firstBehind_54 : decode cX2_firstBehind 54 = .ok (.invokevirtual 43, 3) := by decide +kernel
theorem dX2_firstBehind_57 : decode cX2_firstBehind 57 = .ok (.iload 4, 2) := by decide +kernel
theorem dX2_firstBehind_59 : decode cX2_firstBehind 59 = .ok (.if_icmp .ne 6, 3) := by decide +kernel
theorem dX2_firstBehind_62 : decode cX2_firstBehind 62 = .ok (.iload 7, 2) := by decide +kernel
theorem dX2_firstBehind_64 : decode cX2_firstBehind 64 = .ok (.ireturn, 1) := by decide +kernel
theorem dX2_firstBehind_65 : decode cX2_firstBehind 65 = .ok (.iinc 5 1, 3) := by decide +kernel
theorem dX2_firstBehind_68 : decode cX2_firstBehind 68 = .ok (.goto (-58), 3) := by decide +kernel
theorem dX2_firstBehind_71 : decode cX2_firstBehind 71 = .ok (.iconst (-1), 1) := by decide +kernel
theorem dX2_firstBehind_72 : decode cX2_firstBehind 72 = .ok (.ireturn, 1) := by decide +kernel
theorem dX3_init_0 : decode cX3_init 0 = .ok (.aload_n 0, 1) := by decide +kernel
theorem dX3_init_1 : decode cX3_init 1 = .ok (.invokespecial 3, 3) := by decide +kernel
theorem dX3_init_4 : decode cX3_init 4 = .ok (.aload_n 0, 1) := by decide +kernel
theorem dX3_init_5 : decode cX3_init 5 = .ok (.iconst 0, 1) := by decide +kernel
theorem dX3_init_6 : decode cX3_init 6 = .ok (.putfield 9, 3) := by decide +kernel
theorem dX3_init_9 : decode cX3_init 9 = .ok (.aload_n 0, 1) := by decide +kernel
theorem dX3_init_10 : decode cX3_init 10 = .ok (.iconst 0, 1) := by decide +kernel
theorem dX3_init_11 : decode cX3_init 11 = .ok (.putfield 15, 3) := by decide +kernel
theorem dX3_init_14 : decode cX3_init 14 = .ok (.aload_n 0, 1) := by decide +kernel
theorem dX3_init_15 : decode cX3_init 15 = .ok (.iconst 0, 1) := by decide +kernel
theorem dX3_init_16 : decode cX3_init 16 = .ok (.putfield 18, 3) := by decide +kernel
theorem dX3_init_19 : decode cX3_init 19 = .ok (.aload_n 0, 1) := by decide +kernel
theorem dX3_init_20 : decode cX3_init 20 = .ok (.bipush 12, 2) := by decide +kernel
theorem dX3_init_22 : decode cX3_init 22 = .ok (.newarray .int, 2) := by decide +kernel
theorem dX3_init_24 : decode cX3_init 24 = .ok (.putfield 21, 3) := by decide +kernel
theorem dX3_init_27 : decode cX3_init 27 = .ok (.aload_n 0, 1) := by decide +kernel
theorem dX3_init_28 : decode cX3_init 28 = .ok (.bipush 12, 2) := by decide +kernel
theorem dX3_init_30 : decode cX3_init 30 = .ok (.newarray .int, 2) := by decide +kernel
theorem dX3_init_32 : decode cX3_init 32 = .ok (.putfield 25, 3) := by decide +kernel
theorem dX3_init_35 : decode cX3_init 35 = .ok (.aload_n 0, 1) := by decide +kernel
theorem dX3_init_36 : decode cX3_init 36 = .ok (.bipush 12, 2) := by decide +kernel
theorem dX3_init_38 : decode cX3_init 38 = .ok (.newarray .int, 2) := by decide +kernel
theorem dX3_init_40 : decode cX3_init 40 = .ok (.putfield 28, 3) := by decide +kernel
theorem dX3_init_43 : decode cX3_init 43 = .ok (.aload_n 0, 1) := by decide +kernel
theorem dX3_init_44 : decode cX3_init 44 = .ok (.bipush 12, 2) := by decide +kernel
theorem dX3_init_46 : decode cX3_init 46 = .ok (.newarray .int, 2) := by decide +kernel
theorem dX3_init_48 : decode cX3_init 48 = .ok (.putfield 31, 3) := by decide +kernel
theorem dX3_init_51 : decode cX3_init 51 = .ok (.aload_n 0, 1) := by decide +kernel
theorem dX3_init_52 : decode cX3_init 52 = .ok (.bipush 36, 2) := by decide +kernel
theorem dX3_init_54 : decode cX3_init 54 = .ok (.newarray .int, 2) := by decide +kernel
theorem dX3_init_56 : decode cX3_init 56 = .ok (.putfield 34, 3) := by decide +kernel
theorem dX3_init_59 : decode cX3_init 59 = .ok (.aload_n 0, 1) := by decide +kernel
theorem dX3_init_60 : decode cX3_init 60 = .ok (.bipush 36, 2) := by decide +kernel
theorem dX3_init_62 : decode cX3_init 62 = .ok (.newarray .int, 2) := by decide +kernel
theorem dX3_init_64 : decode cX3_init 64 = .ok (.putfield 37, 3) := by decide +kernel
theorem dX3_init_67 : decode cX3_init 67 = .ok (.return_, 1) := by decide +kernel
theorem dX3_has_0 : decode cX3_has 0 = .ok (.iload_n 1, 1) := by decide +kernel
theorem dX3_has_1 : decode cX3_has 1 = .ok (.ifCond .lt 15, 3) := by decide +kernel
theorem dX3_has_4 : decode cX3_has 4 = .ok (.iload_n 1, 1) := by decide +kernel
theorem dX3_has_5 : decode cX3_has 5 = .ok (.aload_n 0, 1) := by decide +kernel
theorem dX3_has_6 : decode cX3_has 6 = .ok (.getfield 9, 3) := by decide +kernel
theorem dX3_has_9 : decode cX3_has 9 = .ok (.if_icmp .ge 7, 3) := by decide +kernel
theorem dX3_has_12 : decode cX3_has 12 = .ok (.iconst 1, 1) := by decide +kernel
theorem dX3_has_13 : decode cX3_has 13 = .ok (.goto 4, 3) := by decide +kernel
theorem dX3_has_16 : decode cX3_has 16 = .ok (.iconst 0, 1) := by decide +kernel
theorem dX3_has_17 : decode cX3_has 17 = .ok (.ireturn, 1) := by decide +kernel
theorem dX3_everyone_0 : decode cX3_everyone 0 = .ok (.iconst 1, 1) := by decide +kernel
theorem dX3_everyone_1 : decode cX3_everyone 1 = .ok (.aload_n 0, 1) := by decide +kernel
theorem dX3_everyone_2 : decode cX3_everyone 2 = .ok (.getfield 9, 3) := by decide +kernel
theorem dX3_everyone_5 : decode cX3_everyone 5 = .ok (.ishl, 1) := by decide +kernel
theorem dX3_everyone_6 : decode cX3_everyone 6 = .ok (.iconst 1, 1) := by decide +kernel
theorem dX3_everyone_7 : decode cX3_everyone 7 = .ok (.isub, 1) := by decide +kernel
theorem dX3_everyone_8 : decode cX3_everyone 8 = .ok (.ireturn, 1) := by decide +kernel
theorem dX3_isRefusing_0 : decode cX3_isRefusing 0 = .ok (.aload_n 0, 1) := by decide +kernel
theorem dX3_isRefusing_1 : decode cX3_isRefusing 1 = .ok (.iload_n 1, 1) := by decide +kernel
theorem dX3_isRefusing_2 : decode cX3_isRefusing 2 = .ok (.invokevirtual 40, 3) := by decide +kernel
theorem dX3_isRefusing_5 : decode cX3_isRefusing 5 = .ok (.ifCond .eq 18, 3) := by decide +kernel
theorem dX3_isRefusing_8 : decode cX3_isRefusing 8 = .ok (.aload_n 0, 1) := by decide +kernel
theorem dX3_isRefusing_9 : decode cX3_isRefusing 9 = .ok (.getfield 15, 3) := by decide +kernel
theorem dX3_isRefusing_12 : decode cX3_isRefusing 12 = .ok (.iload_n 1, 1) := by decide +kernel
theorem dX3_isRefusing_13 : decode cX3_isRefusing 13 = .ok (.invokestatic 44, 3) := by decide +kernel
theorem dX3_isRefusing_16 : decode cX3_isRefusing 16 = .ok (.ifCond .eq 7, 3) := by decide +kernel
theorem dX3_isRefusing_19 : decode cX3_isRefusing 19 = .ok (.iconst 1, 1) := by decide +kernel
theorem dX3_isRefusing_20 : decode cX3_isRefusing 20 = .ok (.goto 4, 3) := by decide +kernel
theorem dX3_isRefusing_23 : decode cX3_isRefusing 23 = .ok (.iconst 0, 1) := by decide +kernel
theorem dX3_isRefusing_24 : decode cX3_isRefusing 24 = .ok (.ireturn, 1) := by decide +kernel
theorem dX3_above_0 : decode cX3_above 0 = .ok (.iload_n 1, 1) := by decide +kernel
theorem dX3_above_1 : decode cX3_above 1 = .ok (.ifCond .lt 24, 3) := by decide +kernel
theorem dX3_above_4 : decode cX3_above 4 = .ok (.iload_n 1, 1) := by decide +kernel
theorem dX3_above_5 : decode cX3_above 5 = .ok (.aload_n 0, 1) := by decide +kernel
theorem dX3_above_6 : decode cX3_above 6 = .ok (.getfield 9, 3) := by decide +kernel
theorem dX3_above_9 : decode cX3_above 9 = .ok (.if_icmp .ge 16, 3) := by decide +kernel
theorem dX3_above_12 : decode cX3_above 12 = .ok (.iload_n 2, 1) := by decide +kernel
theorem dX3_above_13 : decode cX3_above 13 = .ok (.ifCond .lt 12, 3) := by decide +kernel
theorem dX3_above_16 : decode cX3_above 16 = .ok (.iload_n 2, 1) := by decide +kernel
theorem dX3_above_17 : decode cX3_above 17 = .ok (.iconst 3, 1) := by decide +kernel
theorem dX3_above_18 : decode cX3_above 18 = .ok (.if_icmp .ge 7, 3) := by decide +kernel
theorem dX3_above_21 : decode cX3_above 21 = .ok (.iconst 1, 1) := by decide +kernel
theorem dX3_above_22 : decode cX3_above 22 = .ok (.goto 4, 3) := by decide +kernel
theorem dX3_above_25 : decode cX3_above 25 = .ok (.iconst 0, 1) := by decide +kernel
theorem dX3_above_26 : decode cX3_above 26 = .ok (.istore_n 3, 1) := by decide +kernel
theorem dX3_above_27 : decode cX3_above 27 = .ok (.iload_n 3, 1) := by decide +kernel
theorem dX3_above_28 : decode cX3_above 28 = .ok (.ifCond .eq 17, 3) := by decide +kernel
theorem dX3_above_31 : decode cX3_above 31 = .ok (.aload_n 0, 1) := by decide +kernel
theorem dX3_above_32 : decode cX3_above 32 = .ok (.getfield 34, 3) := by decide +kernel
theorem dX3_above_35 : decode cX3_above 35 = .ok (.iload_n 2, 1) := by decide +kernel
theorem dX3_above_36 : decode cX3_above 36 = .ok (.bipush 12, 2) := by decide +kernel
theorem dX3_above_38 : decode cX3_above 38 = .ok (.imul, 1) := by decide +kernel
theorem dX3_above_39 : decode cX3_above 39 = .ok (.iload_n 1, 1) := by decide +kernel
theorem dX3_above_40 : decode cX3_above 40 = .ok (.iadd, 1) := by decide +kernel
theorem dX3_above_41 : decode cX3_above 41 = .ok (.iaload, 1) := by decide +kernel
theorem dX3_above_42 : decode cX3_above 42 = .ok (.goto 4, 3) := by decide +kernel
theorem dX3_above_45 : decode cX3_above 45 = .ok (.iconst 0, 1) := by decide +kernel
theorem dX3_above_46 : decode cX3_above 46 = .ok (.ireturn, 1) := by decide +kernel
theorem dX3_below_0 : decode cX3_below 0 = .ok (.iload_n 1, 1) := by decide +kernel
theorem dX3_below_1 : decode cX3_below 1 = .ok (.ifCond .lt 24, 3) := by decide +kernel
theorem dX3_below_4 : decode cX3_below 4 = .ok (.iload_n 1, 1) := by decide +kernel
theorem dX3_below_5 : decode cX3_below 5 = .ok (.aload_n 0, 1) := by decide +kernel
theorem dX3_below_6 : decode cX3_below 6 = .ok (.getfield 9, 3) := by decide +kernel
theorem dX3_below_9 : decode cX3_below 9 = .ok (.if_icmp .ge 16, 3) := by decide +kernel
theorem dX3_below_12 : decode cX3_below 12 = .ok (.iload_n 2, 1) := by decide +kernel
theorem dX3_below_13 : decode cX3_below 13 = .ok (.ifCond .lt 12, 3) := by decide +kernel
theorem dX3_below_16 : decode cX3_below 16 = .ok (.iload_n 2, 1) := by decide +kernel
theorem dX3_below_17 : decode cX3_below 17 = .ok (.iconst 3, 1) := by decide +kernel
theorem dX3_below_18 : decode cX3_below 18 = .ok (.if_icmp .ge 7, 3) := by decide +kernel
theorem dX3_below_21 : decode cX3_below 21 = .ok (.iconst 1, 1) := by decide +kernel
theorem dX3_below_22 : decode cX3_below 22 = .ok (.goto 4, 3) := by decide +kernel
theorem dX3_below_25 : decode cX3_below 25 = .ok (.iconst 0, 1) := by decide +kernel
theorem dX3_below_26 : decode cX3_below 26 = .ok (.istore_n 3, 1) := by decide +kernel
theorem dX3_below_27 : decode cX3_below 27 = .ok (.iload_n 3, 1) := by decide +kernel
theorem dX3_below_28 : decode cX3_below 28 = .ok (.ifCond .eq 17, 3) := by decide +kernel
theorem dX3_below_31 : decode cX3_below 31 = .ok (.aload_n 0, 1) := by decide +kernel
theorem dX3_below_32 : decode cX3_below 32 = .ok (.getfield 37, 3) := by decide +kernel
theorem dX3_below_35 : decode cX3_below 35 = .ok (.iload_n 2, 1) := by decide +kernel
theorem dX3_below_36 : decode cX3_below 36 = .ok (.bipush 12, 2) := by decide +kernel
theorem dX3_below_38 : decode cX3_below 38 = .ok (.imul, 1) := by decide +kernel
theorem dX3_below_39 : decode cX3_below 39 = .ok (.iload_n 1, 1) := by decide +kernel
theorem dX3_below_40 : decode cX3_below 40 = .ok (.iadd, 1) := by decide +kernel
theorem dX3_below_41 : decode cX3_below 41 = .ok (.iaload, 1) := by decide +kernel
theorem dX3_below_42 : decode cX3_below 42 = .ok (.goto 4, 3) := by decide +kernel
theorem dX3_below_45 : decode cX3_below 45 = .ok (.iconst 1, 1) := by decide +kernel
theorem dX3_below_46 : decode cX3_below 46 = .ok (.ireturn, 1) := by decide +kernel
theorem dX3_unitAt_0 : decode cX3_unitAt 0 = .ok (.iload_n 1, 1) := by decide +kernel
theorem dX3_unitAt_1 : decode cX3_unitAt 1 = .ok (.ifCond .lt 20, 3) := by decide +kernel
theorem dX3_unitAt_4 : decode cX3_unitAt 4 = .ok (.iload_n 1, 1) := by decide +kernel
theorem dX3_unitAt_5 : decode cX3_unitAt 5 = .ok (.aload_n 0, 1) := by decide +kernel
theorem dX3_unitAt_6 : decode cX3_unitAt 6 = .ok (.getfield 9, 3) := by decide +kernel
theorem dX3_unitAt_9 : decode cX3_unitAt 9 = .ok (.if_icmp .ge 12, 3) := by decide +kernel
theorem dX3_unitAt_12 : decode cX3_unitAt 12 = .ok (.aload_n 0, 1) := by decide +kernel
theorem dX3_unitAt_13 : decode cX3_unitAt 13 = .ok (.getfield 31, 3) := by decide +kernel
theorem dX3_unitAt_16 : decode cX3_unitAt 16 = .ok (.iload_n 1, 1) := by decide +kernel
theorem dX3_unitAt_17 : decode cX3_unitAt 17 = .ok (.iaload, 1) := by decide +kernel
theorem dX3_unitAt_18 : decode cX3_unitAt 18 = .ok (.goto 4, 3) := by decide +kernel
theorem dX3_unitAt_21 : decode cX3_unitAt 21 = .ok (.iconst (-1), 1) := by decide +kernel
theorem dX3_unitAt_22 : decode cX3_unitAt 22 = .ok (.ireturn, 1) := by decide +kernel
theorem dX3_stratumAt_0 : decode cX3_stratumAt 0 = .ok (.aload_n 0, 1) := by decide +kernel
theorem dX3_stratumAt_1 : decode cX3_stratumAt 1 = .ok (.iload_n 1, 1) := by decide +kernel
theorem dX3_stratumAt_2 : decode cX3_stratumAt 2 = .ok (.invokevirtual 48, 3) := by decide +kernel
theorem dX3_stratumAt_5 : decode cX3_stratumAt 5 = .ok (.istore_n 2, 1) := by decide +kernel
theorem dX3_stratumAt_6 : decode cX3_stratumAt 6 = .ok (.aload_n 0, 1) := by decide +kernel
theorem dX3_stratumAt_7 : decode cX3_stratumAt 7 = .ok (.iload_n 2, 1) := by decide +kernel
theorem dX3_stratumAt_8 : decode cX3_stratumAt 8 = .ok (.invokevirtual 40, 3) := by decide +kernel
theorem dX3_stratumAt_11 : decode cX3_stratumAt 11 = .ok (.ifCond .eq 12, 3) := by decide +kernel
theorem dX3_stratumAt_14 : decode cX3_stratumAt 14 = .ok (.aload_n 0, 1) := by decide +kernel
theorem dX3_stratumAt_15 : decode cX3_stratumAt 15 = .ok (.getfield 21, 3) := by decide +kernel
theorem dX3_stratumAt_18 : decode cX3_stratumAt 18 = .ok (.iload_n 2, 1) := by decide +kernel
theorem dX3_stratumAt_19 : decode cX3_stratumAt 19 = .ok (.iaload, 1) := by decide +kernel
theorem dX3_stratumAt_20 : decode cX3_stratumAt 20 = .ok (.goto 4, 3) := by decide +kernel
theorem dX3_stratumAt_23 : decode cX3_stratumAt 23 = .ok (.iconst (-1), 1) := by decide +kernel
theorem dX3_stratumAt_24 : decode cX3_stratumAt 24 = .ok (.ireturn, 1) := by decide +kernel
theorem dX3_marksTogether_0 : decode cX3_marksTogether 0 = .ok (.lconst 0, 1) := by decide +kernel
theorem dX3_marksTogether_1 : decode cX3_marksTogether 1 = .ok (.lstore_n 1, 1) := by decide +kernel
theorem dX3_marksTogether_2 : decode cX3_marksTogether 2 = .ok (.iconst 0, 1) := by decide +kernel
theorem dX3_marksTogether_3 : decode cX3_marksTogether 3 = .ok (.istore_n 3, 1) := by decide +kernel
theorem dX3_marksTogether_4 : decode cX3_marksTogether 4 = .ok (.iload_n 3, 1) := by decide +kernel
theorem dX3_marksTogether_5 : decode cX3_marksTogether 5 = .ok (.aload_n 0, 1) := by decide +kernel
theorem dX3_marksTogether_6 : decode cX3_marksTogether 6 = .ok (.getfield 9, 3) := by decide +kernel
theorem dX3_marksTogether_9 : decode cX3_marksTogether 9 = .ok (.if_icmp .ge 19, 3) := by decide +kernel
theorem dX3_marksTogether_12 : decode cX3_marksTogether 12 = .ok (.lload_n 1, 1) := by decide +kernel
theorem dX3_marksTogether_13 : decode cX3_marksTogether 13 = .ok (.aload_n 0, 1) := by decide +kernel
theorem dX3_marksTogether_14 : decode cX3_marksTogether 14 = .ok (.getfield 25, 3) := by decide +kernel
theorem dX3_marksTogether_17 : decode cX3_marksTogether 17 = .ok (.iload_n 3, 1) := by decide +kernel
theorem dX3_marksTogether_18 : decode cX3_marksTogether 18 = .ok (.iaload, 1) := by decide +kernel
theorem dX3_marksTogether_19 : decode cX3_marksTogether 19 = .ok (.i2l, 1) := by decide +kernel
theorem dX3_marksTogether_20 : decode cX3_marksTogether 20 = .ok (.ladd, 1) := by decide +kernel
theorem dX3_marksTogether_21 : decode cX3_marksTogether 21 = .ok (.lstore_n 1, 1) := by decide +kernel
theorem dX3_marksTogether_22 : decode cX3_marksTogether 22 = .ok (.iinc 3 1, 3) := by decide +kernel
theorem dX3_marksTogether_25 : decode cX3_marksTogether 25 = .ok (.goto (-21), 3) := by decide +kernel
theorem dX3_marksTogether_28 : decode cX3_marksTogether 28 = .ok (.lload_n 1, 1) := by decide +kernel
theorem dX3_marksTogether_29 : decode cX3_marksTogether 29 = .ok (.lreturn, 1) := by decide +kernel
theorem dX3_placeOf_0 : decode cX3_placeOf 0 = .ok (.iconst 0, 1) := by decide +kernel
theorem dX3_placeOf_1 : decode cX3_placeOf 1 = .ok (.istore_n 2, 1) := by decide +kernel
theorem dX3_placeOf_2 : decode cX3_placeOf 2 = .ok (.iload_n 2, 1) := by decide +kernel
theorem dX3_placeOf_3 : decode cX3_placeOf 3 = .ok (.aload_n 0, 1) := by decide +kernel
theorem dX3_placeOf_4 : decode cX3_placeOf 4 = .ok (.getfield 9, 3) := by decide +kernel
theorem dX3_placeOf_7 : decode cX3_placeOf 7 = .ok (.if_icmp .ge 21, 3) := by decide +kernel
theorem dX3_placeOf_10 : decode cX3_placeOf 10 = .ok (.aload_n 0, 1) := by decide +kernel
theorem dX3_placeOf_11 : decode cX3_placeOf 11 = .ok (.getfield 31, 3) := by decide +kernel
theorem dX3_placeOf_14 : decode cX3_placeOf 14 = .ok (.iload_n 2, 1) := by decide +kernel
theorem dX3_placeOf_15 : decode cX3_placeOf 15 = .ok (.iaload, 1) := by decide +kernel
theorem dX3_placeOf_16 : decode cX3_placeOf 16 = .ok (.iload_n 1, 1) := by decide +kernel
theorem dX3_placeOf_17 : decode cX3_placeOf 17 = .ok (.if_icmp .ne 5, 3) := by decide +kernel
theorem dX3_placeOf_20 : decode cX3_placeOf 20 = .ok (.iload_n 2, 1) := by decide +kernel
theorem dX3_placeOf_21 : decode cX3_placeOf 21 = .ok (.ireturn, 1) := by decide +kernel
theorem dX3_placeOf_22 : decode cX3_placeOf 22 = .ok (.iinc 2 1, 3) := by decide +kernel
theorem dX3_placeOf_25 : decode cX3_placeOf 25 = .ok (.goto (-23), 3) := by decide +kernel
theorem dX3_placeOf_28 : decode cX3_placeOf 28 = .ok (.iconst (-1), 1) := by decide +kernel
theorem dX3_placeOf_29 : decode cX3_placeOf 29 = .ok (.ireturn, 1) := by decide +kernel
theorem dX3_admit_0 : decode cX3_admit 0 = .ok (.iconst 0, 1) := by decide +kernel
theorem dX3_admit_1 : decode cX3_admit 1 = .ok (.iload_n 1, 1) := by decide +kernel
theorem dX3_admit_2 : decode cX3_admit 2 = .ok (.iload_n 2, 1) := by decide +kernel
theorem dX3_admit_3 : decode cX3_admit 3 = .ok (.invokestatic 52, 3) := by decide +kernel
theorem dX3_admit_6 : decode cX3_admit 6 = .ok (.ifCond .eq 18, 3) := by decide +kernel
theorem dX3_admit_9 : decode cX3_admit 9 = .ok (.iload_n 3, 1) := by decide +kernel
theorem dX3_admit_10 : decode cX3_admit 10 = .ok (.invokestatic 56, 3) := by decide +kernel
theorem dX3_admit_13 : decode cX3_admit 13 = .ok (.ifCond .eq 11, 3) := by decide +kernel
theorem dX3_admit_16 : decode cX3_admit 16 = .ok (.iload 4, 2) := by decide +kernel
theorem dX3_admit_18 : decode cX3_admit 18 = .ok (.invokestatic 59, 3) := by decide +kernel
theorem dX3_admit_21 : decode cX3_admit 21 = .ok (.ifCond .ne 6, 3) := by decide +kernel
theorem dX3_admit_24 : decode cX3_admit 24 = .ok (.bipush (-2), 2) := by decide +kernel
theorem dX3_admit_26 : decode cX3_admit 26 = .ok (.ireturn, 1) := by decide +kernel
theorem dX3_admit_27 : decode cX3_admit 27 = .ok (.aload_n 0, 1) := by decide +kernel
theorem dX3_admit_28 : decode cX3_admit 28 = .ok (.getfield 9, 3) := by decide +kernel
theorem dX3_admit_31 : decode cX3_admit 31 = .ok (.bipush 12, 2) := by decide +kernel
theorem dX3_admit_33 : decode cX3_admit 33 = .ok (.if_icmp .lt 6, 3) := by decide +kernel
theorem dX3_admit_36 : decode cX3_admit 36 = .ok (.bipush (-4), 2) := by decide +kernel
theorem dX3_admit_38 : decode cX3_admit 38 = .ok (.ireturn, 1) := by decide +kernel
theorem dX3_admit_39 : decode cX3_admit 39 = .ok (.aload_n 0, 1) := by decide +kernel
theorem dX3_admit_40 : decode cX3_admit 40 = .ok (.getfield 9, 3) := by decide +kernel
theorem dX3_admit_43 : decode cX3_admit 43 = .ok (.istore 5, 2) := by decide +kernel
theorem dX3_admit_45 : decode cX3_admit 45 = .ok (.aload_n 0, 1) := by decide +kernel
theorem dX3_admit_46 : decode cX3_admit 46 = .ok (.dup, 1) := by decide +kernel
theorem dX3_admit_47 : decode cX3_admit 47 = .ok (.getfield 9, 3) := by decide +kernel
theorem dX3_admit_50 : decode cX3_admit 50 = .ok (.iconst 1, 1) := by decide +kernel
theorem dX3_admit_51 : decode cX3_admit 51 = .ok (.iadd, 1) := by decide +kernel
theorem dX3_admit_52 : decode cX3_admit 52 = .ok (.putfield 9, 3) := by decide +kernel
theorem dX3_admit_55 : decode cX3_admit 55 = .ok (.aload_n 0, 1) := by decide +kernel
theorem dX3_admit_56 : decode cX3_admit 56 = .ok (.iload 5, 2) := by decide +kernel
theorem dX3_admit_58 : decode cX3_admit 58 = .ok (.iconst 0, 1) := by decide +kernel
theorem dX3_admit_59 : decode cX3_admit 59 = .ok (.iload_n 1, 1) := by decide +kernel
theorem dX3_admit_60 : decode cX3_admit 60 = .ok (.iload_n 2, 1) := by decide +kernel
theorem dX3_admit_61 : decode cX3_admit 61 = .ok (.invokevirtual 62, 3) := by decide +kernel
theorem dX3_admit_64 : decode cX3_admit 64 = .ok (.aload_n 0, 1) := by decide +kernel
theorem dX3_admit_65 : decode cX3_admit 65 = .ok (.iload 5, 2) := by decide +kernel
theorem dX3_admit_67 : decode cX3_admit 67 = .ok (.iconst 1, 1) := by decide +kernel
theorem dX3_admit_68 : decode cX3_admit 68 = .ok (.iconst 1, 1) := by decide +kernel
theorem dX3_admit_69 : decode cX3_admit 69 = .ok (.iconst 1, 1) := by decide +kernel
theorem dX3_admit_70 : decode cX3_admit 70 = .ok (.invokevirtual 62, 3) := by decide +kernel
theorem dX3_admit_73 : decode cX3_admit 73 = .ok (.aload_n 0, 1) := by decide +kernel
theorem dX3_admit_74 : decode cX3_admit 74 = .ok (.iload 5, 2) := by decide +kernel
theorem dX3_admit_76 : decode cX3_admit 76 = .ok (.iconst 2, 1) := by decide +kernel
theorem dX3_admit_77 : decode cX3_admit 77 = .ok (.iconst 1, 1) := by decide +kernel
theorem dX3_admit_78 : decode cX3_admit 78 = .ok (.iconst 1, 1) := by decide +kernel
theorem dX3_admit_79 : decode cX3_admit 79 = .ok (.invokevirtual 62, 3) := by decide +kernel
theorem dX3_admit_82 : decode cX3_admit 82 = .ok (.aload_n 0, 1) := by decide +kernel
theorem dX3_admit_83 : decode cX3_admit 83 = .ok (.getfield 21, 3) := by decide +kernel
theorem dX3_admit_86 : decode cX3_admit 86 = .ok (.iload 5, 2) := by decide +kernel
theorem dX3_admit_88 : decode cX3_admit 88 = .ok (.iload_n 3, 1) := by decide +kernel
theorem dX3_admit_89 : decode cX3_admit 89 = .ok (.iastore, 1) := by decide +kernel
theorem dX3_admit_90 : decode cX3_admit 90 = .ok (.aload_n 0, 1) := by decide +kernel
theorem dX3_admit_91 : decode cX3_admit 91 = .ok (.getfield 25, 3) := by decide +kernel
theorem dX3_admit_94 : decode cX3_admit 94 = .ok (.iload 5, 2) := by decide +kernel
theorem dX3_admit_96 : decode cX3_admit 96 = .ok (.iload 4, 2) := by decide +kernel
theorem dX3_admit_98 : decode cX3_admit 98 = .ok (.iastore, 1) := by decide +kernel
theorem dX3_admit_99 : decode cX3_admit 99 = .ok (.aload_n 0, 1) := by decide +kernel
theorem dX3_admit_100 : decode cX3_admit 100 = .ok (.getfield 28, 3) := by decide +kernel
theorem dX3_admit_103 : decode cX3_admit 103 = .ok (.iload 5, 2) := by decide +kernel
theorem dX3_admit_105 : decode cX3_admit 105 = .ok (.iload 5, 2) := by decide +kernel
theorem dX3_admit_107 : decode cX3_admit 107 = .ok (.iastore, 1) := by decide +kernel
theorem dX3_admit_108 : decode cX3_admit 108 = .ok (.aload_n 0, 1) := by decide +kernel
theorem dX3_admit_109 : decode cX3_admit 109 = .ok (.invokevirtual 66, 3) := by decide +kernel
theorem dX3_admit_112 : decode cX3_admit 112 = .ok (.iload 5, 2) := by decide +kernel
theorem dX3_admit_114 : decode cX3_admit 114 = .ok (.ireturn, 1) := by decide +kernel
theorem dX3_changeOdds_0 : decode cX3_changeOdds 0 = .ok (.aload_n 0, 1) := by decide +kernel
theorem dX3_changeOdds_1 : decode cX3_changeOdds 1 = .ok (.iload_n 1, 1) := by decide +kernel
theorem dX3_changeOdds_2 : decode cX3_changeOdds 2 = .ok (.invokevirtual 40, 3) := by decide +kernel
theorem dX3_changeOdds_5 : decode cX3_changeOdds 5 = .ok (.ifCond .eq 10, 3) := by decide +kernel
theorem dX3_changeOdds_8 : decode cX3_changeOdds 8 = .ok (.iload_n 2, 1) := by decide +kernel
theorem dX3_changeOdds_9 : decode cX3_changeOdds 9 = .ok (.invokestatic 69, 3) := by decide +kernel
theorem dX3_changeOdds_12 : decode cX3_changeOdds 12 = .ok (.ifCond .ne 5, 3) := by decide +kernel
theorem dX3_changeOdds_15 : decode cX3_changeOdds 15 = .ok (.iconst (-1), 1) := by decide +kernel
theorem dX3_changeOdds_16 : decode cX3_changeOdds 16 = .ok (.ireturn, 1) := by decide +kernel
theorem dX3_changeOdds_17 : decode cX3_changeOdds 17 = .ok (.iload_n 2, 1) := by decide +kernel
theorem dX3_changeOdds_18 : decode cX3_changeOdds 18 = .ok (.iload_n 3, 1) := by decide +kernel
theorem dX3_changeOdds_19 : decode cX3_changeOdds 19 = .ok (.iload 4, 2) := by decide +kernel
theorem dX3_changeOdds_21 : decode cX3_changeOdds 21 = .ok (.invokestatic 52, 3) := by decide +kernel
theorem dX3_changeOdds_24 : decode cX3_changeOdds 24 = .ok (.ifCond .ne 6, 3) := by decide +kernel
theorem dX3_changeOdds_27 : decode cX3_changeOdds 27 = .ok (.bipush (-2), 2) := by decide +kernel
theorem dX3_changeOdds_29 : decode cX3_changeOdds 29 = .ok (.ireturn, 1) := by decide +kernel
theorem dX3_changeOdds_30 : decode cX3_changeOdds 30 = .ok (.bipush 100, 2) := by decide +kernel
theorem dX3_changeOdds_32 : decode cX3_changeOdds 32 = .ok (.aload_n 0, 1) := by decide +kernel
theorem dX3_changeOdds_33 : decode cX3_changeOdds 33 = .ok (.iload_n 1, 1) := by decide +kernel
theorem dX3_changeOdds_34 : decode cX3_changeOdds 34 = .ok (.iload_n 2, 1) := by decide +kernel
theorem dX3_changeOdds_35 : decode cX3_changeOdds 35 = .ok (.invokevirtual 72, 3) := by decide +kernel
theorem dX3_changeOdds_38 : decode cX3_changeOdds 38 = .ok (.imul, 1) := by decide +kernel
theorem dX3_changeOdds_39 : decode cX3_changeOdds 39 = .ok (.aload_n 0, 1) := by decide +kernel
theorem dX3_changeOdds_40 : decode cX3_changeOdds 40 = .ok (.iload_n 1, 1) := by decide +kernel
theorem dX3_changeOdds_41 : decode cX3_changeOdds 41 = .ok (.iload_n 2, 1) := by decide +kernel
theorem dX3_changeOdds_42 : decode cX3_changeOdds 42 = .ok (.invokevirtual 76, 3) := by decide +kernel
theorem dX3_changeOdds_45 : decode cX3_changeOdds 45 = .ok (.iadd, 1) := by decide +kernel
theorem dX3_changeOdds_46 : decode cX3_changeOdds 46 = .ok (.istore 5, 2) := by decide +kernel
theorem dX3_changeOdds_48 : decode cX3_changeOdds 48 = .ok (.aload_n 0, 1) := by decide +kernel
theorem dX3_changeOdds_49 : decode cX3_changeOdds 49 = .ok (.iload_n 1, 1) := by decide +kernel
theorem dX3_changeOdds_50 : decode cX3_changeOdds 50 = .ok (.iload_n 2, 1) := by decide +kernel
theorem dX3_changeOdds_51 : decode cX3_changeOdds 51 = .ok (.iload_n 3, 1) := by decide +kernel
theorem dX3_changeOdds_52 : decode cX3_changeOdds 52 = .ok (.iload 4, 2) := by decide +kernel
theorem dX3_changeOdds_54 : decode cX3_changeOdds 54 = .ok (.invokevirtual 62, 3) := by decide +kernel
theorem dX3_changeOdds_57 : decode cX3_changeOdds 57 = .ok (.aload_n 0, 1) := by decide +kernel
theorem dX3_changeOdds_58 : decode cX3_changeOdds 58 = .ok (.invokevirtual 66, 3) := by decide +kernel
theorem dX3_changeOdds_61 : decode cX3_changeOdds 61 = .ok (.iload 5, 2) := by decide +kernel
theorem dX3_changeOdds_63 : decode cX3_changeOdds 63 = .ok (.ireturn, 1) := by decide +kernel
theorem dX3_changeStratum_0 : decode cX3_changeStratum 0 = .ok (.aload_n 0, 1) := by decide +kernel
theorem dX3_changeStratum_1 : decode cX3_changeStratum 1 = .ok (.iload_n 1, 1) := by decide +kernel
theorem dX3_changeStratum_2 : decode cX3_changeStratum 2 = .ok (.invokevirtual 40, 3) := by decide +kernel
theorem dX3_changeStratum_5 : decode cX3_changeStratum 5 = .ok (.ifCond .ne 5, 3) := by decide +kernel
theorem dX3_changeStratum_8 : decode cX3_changeStratum 8 = .ok (.iconst (-1), 1) := by decide +kernel
theorem dX3_changeStratum_9 : decode cX3_changeStratum 9 = .ok (.ireturn, 1) := by decide +kernel
theorem dX3_changeStratum_10 : decode cX3_changeStratum 10 = .ok (.iload_n 2, 1) := by decide +kernel
theorem dX3_changeStratum_11 : decode cX3_changeStratum 11 = .ok (.invokestatic 56, 3) := by decide +kernel
theorem dX3_changeStratum_14 : decode cX3_changeStratum 14 = .ok (.ifCond .ne 6, 3) := by decide +kernel
theorem dX3_changeStratum_17 : decode cX3_changeStratum 17 = .ok (.bipush (-2), 2) := by decide +kernel
theorem dX3_changeStratum_19 : decode cX3_changeStratum 19 = .ok (.ireturn, 1) := by decide +kernel
theorem dX3_changeStratum_20 : decode cX3_changeStratum 20 = .ok (.aload_n 0, 1) := by decide +kernel
theorem dX3_changeStratum_21 : decode cX3_changeStratum 21 = .ok (.getfield 21, 3) := by decide +kernel
theorem dX3_changeStratum_24 : decode cX3_changeStratum 24 = .ok (.iload_n 1, 1) := by decide +kernel
theorem dX3_changeStratum_25 : decode cX3_changeStratum 25 = .ok (.iaload, 1) := by decide +kernel
theorem dX3_changeStratum_26 : decode cX3_changeStratum 26 = .ok (.istore_n 3, 1) := by decide +kernel
theorem dX3_changeStratum_27 : decode cX3_changeStratum 27 = .ok (.aload_n 0, 1) := by decide +kernel
theorem dX3_changeStratum_28 : decode cX3_changeStratum 28 = .ok (.getfield 21, 3) := by decide +kernel
theorem dX3_changeStratum_31 : decode cX3_changeStratum 31 = .ok (.iload_n 1, 1) := by decide +kernel
theorem dX3_changeStratum_32 : decode cX3_changeStratum 32 = .ok (.iload_n 2, 1) := by decide +kernel
theorem dX3_changeStratum_33 : decode cX3_changeStratum 33 = .ok (.iastore, 1) := by decide +kernel
theorem dX3_changeStratum_34 : decode cX3_changeStratum 34 = .ok (.aload_n 0, 1) := by decide +kernel
theorem dX3_changeStratum_35 : decode cX3_changeStratum 35 = .ok (.invokevirtual 66, 3) := by decide +kernel
theorem dX3_changeStratum_38 : decode cX3_changeStratum 38 = .ok (.iload_n 3, 1) := by decide +kernel
theorem dX3_changeStratum_39 : decode cX3_changeStratum 39 = .ok (.ireturn, 1) := by decide +kernel
theorem dX3_changeRefusing_0 : decode cX3_changeRefusing 0 = .ok (.aload_n 0, 1) := by decide +kernel
theorem dX3_changeRefusing_1 : decode cX3_changeRefusing 1 = .ok (.iload_n 1, 1) := by decide +kernel
theorem dX3_changeRefusing_2 : decode cX3_changeRefusing 2 = .ok (.invokevirtual 40, 3) := by decide +kernel
theorem dX3_changeRefusing_5 : decode cX3_changeRefusing 5 = .ok (.ifCond .ne 5, 3) := by decide +kernel
theorem dX3_changeRefusing_8 : decode cX3_changeRefusing 8 = .ok (.iconst (-1), 1) := by decide +kernel
theorem dX3_changeRefusing_9 : decode cX3_changeRefusing 9 = .ok (.ireturn, 1) := by decide +kernel
theorem dX3_changeRefusing_10 : decode cX3_changeRefusing 10 = .ok (.iload_n 2, 1) := by decide +kernel
theorem dX3_changeRefusing_11 : decode cX3_changeRefusing 11 = .ok (.ifCond .lt 8, 3) := by decide +kernel
theorem dX3_changeRefusing_14 : decode cX3_changeRefusing 14 = .ok (.iload_n 2, 1) := by decide +kernel
theorem dX3_changeRefusing_15 : decode cX3_changeRefusing 15 = .ok (.iconst 1, 1) := by decide +kernel
theorem dX3_changeRefusing_16 : decode cX3_changeRefusing 16 = .ok (.if_icmp .le 6, 3) := by decide +kernel
theorem dX3_changeRefusing_19 : decode cX3_changeRefusing 19 = .ok (.bipush (-2), 2) := by decide +kernel
theorem dX3_changeRefusing_21 : decode cX3_changeRefusing 21 = .ok (.ireturn, 1) := by decide +kernel
theorem dX3_changeRefusing_22 : decode cX3_changeRefusing 22 = .ok (.aload_n 0, 1) := by decide +kernel
theorem dX3_changeRefusing_23 : decode cX3_changeRefusing 23 = .ok (.iload_n 1, 1) := by decide +kernel
theorem dX3_changeRefusing_24 : decode cX3_changeRefusing 24 = .ok (.invokevirtual 79, 3) := by decide +kernel
theorem dX3_changeRefusing_27 : decode cX3_changeRefusing 27 = .ok (.ifCond .eq 7, 3) := by decide +kernel
theorem dX3_changeRefusing_30 : decode cX3_changeRefusing 30 = .ok (.iconst 1, 1) := by decide +kernel
theorem dX3_changeRefusing_31 : decode cX3_changeRefusing 31 = .ok (.goto 4, 3) := by decide +kernel
theorem dX3_changeRefusing_34 : decode cX3_changeRefusing 34 = .ok (.iconst 0, 1) := by decide +kernel
theorem dX3_changeRefusing_35 : decode cX3_changeRefusing 35 = .ok (.istore_n 3, 1) := by decide +kernel
theorem dX3_changeRefusing_36 : decode cX3_changeRefusing 36 = .ok (.aload_n 0, 1) := by decide +kernel
theorem dX3_changeRefusing_37 : decode cX3_changeRefusing 37 = .ok (.aload_n 0, 1) := by decide +kernel
theorem dX3_changeRefusing_38 : decode cX3_changeRefusing 38 = .ok (.getfield 15, 3) := by decide +kernel
theorem dX3_changeRefusing_41 : decode cX3_changeRefusing 41 = .ok (.iconst 1, 1) := by decide +kernel
theorem dX3_changeRefusing_42 : decode cX3_changeRefusing 42 = .ok (.iload_n 1, 1) := by decide +kernel
theorem dX3_changeRefusing_43 : decode cX3_changeRefusing 43 = .ok (.ishl, 1) := by decide +kernel
theorem dX3_changeRefusing_44 : decode cX3_changeRefusing 44 = .ok (.iconst (-1), 1) := by decide +kernel
theorem dX3_changeRefusing_45 : decode cX3_changeRefusing 45 = .ok (.ixor, 1) := by decide +kernel
theorem dX3_changeRefusing_46 : decode cX3_changeRefusing 46 = .ok (.iand, 1) := by decide +kernel
theorem dX3_changeRefusing_47 : decode cX3_changeRefusing 47 = .ok (.iload_n 2, 1) := by decide +kernel
theorem dX3_changeRefusing_48 : decode cX3_changeRefusing 48 = .ok (.iload_n 1, 1) := by decide +kernel
theorem dX3_changeRefusing_49 : decode cX3_changeRefusing 49 = .ok (.ishl, 1) := by decide +kernel
theorem dX3_changeRefusing_50 : decode cX3_changeRefusing 50 = .ok (.ior, 1) := by decide +kernel
theorem dX3_changeRefusing_51 : decode cX3_changeRefusing 51 = .ok (.putfield 15, 3) := by decide +kernel
theorem dX3_changeRefusing_54 : decode cX3_changeRefusing 54 = .ok (.iload_n 3, 1) := by decide +kernel
theorem dX3_changeRefusing_55 : decode cX3_changeRefusing 55 = .ok (.ireturn, 1) := by decide +kernel
theorem dX3_changeMark_0 : decode cX3_changeMark 0 = .ok (.aload_n 0, 1) := by decide +kernel
theorem dX3_changeMark_1 : decode cX3_changeMark 1 = .ok (.iload_n 1, 1) := by decide +kernel
theorem dX3_changeMark_2 : decode cX3_changeMark 2 = .ok (.invokevirtual 40, 3) := by decide +kernel
theorem dX3_changeMark_5 : decode cX3_changeMark 5 = .ok (.ifCond .ne 5, 3) := by decide +kernel
theorem dX3_changeMark_8 : decode cX3_changeMark 8 = .ok (.iconst (-1), 1) := by decide +kernel
theorem dX3_changeMark_9 : decode cX3_changeMark 9 = .ok (.ireturn, 1) := by decide +kernel
theorem dX3_changeMark_10 : decode cX3_changeMark 10 = .ok (.iload_n 2, 1) := by decide +kernel
theorem dX3_changeMark_11 : decode cX3_changeMark 11 = .ok (.invokestatic 59, 3) := by decide +kernel
theorem dX3_changeMark_14 : decode cX3_changeMark 14 = .ok (.ifCond .ne 6, 3) := by decide +kernel
theorem dX3_changeMark_17 : decode cX3_changeMark 17 = .ok (.bipush (-2), 2) := by decide +kernel
theorem dX3_changeMark_19 : decode cX3_changeMark 19 = .ok (.ireturn, 1) := by decide +kernel
theorem dX3_changeMark_20 : decode cX3_changeMark 20 = .ok (.aload_n 0, 1) := by decide +kernel
theorem dX3_changeMark_21 : decode cX3_changeMark 21 = .ok (.getfield 25, 3) := by decide +kernel
theorem dX3_changeMark_24 : decode cX3_changeMark 24 = .ok (.iload_n 1, 1) := by decide +kernel
theorem dX3_changeMark_25 : decode cX3_changeMark 25 = .ok (.iload_n 2, 1) := by decide +kernel
theorem dX3_changeMark_26 : decode cX3_changeMark 26 = .ok (.iastore, 1) := by decide +kernel
theorem dX3_changeMark_27 : decode cX3_changeMark 27 = .ok (.aload_n 0, 1) := by decide +kernel
theorem dX3_changeMark_28 : decode cX3_changeMark 28 = .ok (.invokevirtual 66, 3) := by decide +kernel
theorem dX3_changeMark_31 : decode cX3_changeMark 31 = .ok (.iconst 1, 1) := by decide +kernel
theorem dX3_changeMark_32 : decode cX3_changeMark 32 = .ok (.ireturn, 1) := by decide +kernel
theorem dX3_changeOrder_0 : decode cX3_changeOrder 0 = .ok (.iload_n 1, 1) := by decide +kernel
theorem dX3_changeOrder_1 : decode cX3_changeOrder 1 = .ok (.ifCond .lt 8, 3) := by decide +kernel
theorem dX3_changeOrder_4 : decode cX3_changeOrder 4 = .ok (.iload_n 1, 1) := by decide +kernel
theorem dX3_changeOrder_5 : decode cX3_changeOrder 5 = .ok (.iconst 5, 1) := by decide +kernel
theorem dX3_changeOrder_6 : decode cX3_changeOrder 6 = .ok (.if_icmp .le 6, 3) := by decide +kernel
theorem dX3_changeOrder_9 : decode cX3_changeOrder 9 = .ok (.bipush (-2), 2) := by decide +kernel
theorem dX3_changeOrder_11 : decode cX3_changeOrder 11 = .ok (.ireturn, 1) := by decide +kernel
theorem dX3_changeOrder_12 : decode cX3_changeOrder 12 = .ok (.aload_n 0, 1) := by decide +kernel
theorem dX3_changeOrder_13 : decode cX3_changeOrder 13 = .ok (.getfield 18, 3) := by decide +kernel
theorem dX3_changeOrder_16 : decode cX3_changeOrder 16 = .ok (.istore_n 2, 1) := by decide +kernel
theorem dX3_changeOrder_17 : decode cX3_changeOrder 17 = .ok (.aload_n 0, 1) := by decide +kernel
theorem dX3_changeOrder_18 : decode cX3_changeOrder 18 = .ok (.iload_n 1, 1) := by decide +kernel
theorem dX3_changeOrder_19 : decode cX3_changeOrder 19 = .ok (.putfield 18, 3) := by decide +kernel
theorem dX3_changeOrder_22 : decode cX3_changeOrder 22 = .ok (.aload_n 0, 1) := by decide +kernel
theorem dX3_changeOrder_23 : decode cX3_changeOrder 23 = .ok (.invokevirtual 66, 3) := by decide +kernel
theorem dX3_changeOrder_26 : decode cX3_changeOrder 26 = .ok (.iload_n 2, 1) := by decide +kernel
theorem dX3_changeOrder_27 : decode cX3_changeOrder 27 = .ok (.ireturn, 1) := by decide +kernel
theorem dX3_exchange_0 : decode cX3_exchange 0 = .ok (.aload_n 0, 1) := by decide +kernel
theorem dX3_exchange_1 : decode cX3_exchange 1 = .ok (.iload_n 1, 1) := by decide +kernel
theorem dX3_exchange_2 : decode cX3_exchange 2 = .ok (.invokevirtual 40, 3) := by decide +kernel
theorem dX3_exchange_5 : decode cX3_exchange 5 = .ok (.ifCond .eq 11, 3) := by decide +kernel
theorem dX3_exchange_8 : decode cX3_exchange 8 = .ok (.aload_n 0, 1) := by decide +kernel
theorem dX3_exchange_9 : decode cX3_exchange 9 = .ok (.iload_n 2, 1) := by decide +kernel
theorem dX3_exchange_10 : decode cX3_exchange 10 = .ok (.invokevirtual 40, 3) := by decide +kernel
theorem dX3_exchange_13 : decode cX3_exchange 13 = .ok (.ifCond .ne 5, 3) := by decide +kernel
theorem dX3_exchange_16 : decode cX3_exchange 16 = .ok (.iconst (-1), 1) := by decide +kernel
theorem dX3_exchange_17 : decode cX3_exchange 17 = .ok (.ireturn, 1) := by decide +kernel
theorem dX3_exchange_18 : decode cX3_exchange 18 = .ok (.iload_n 1, 1) := by decide +kernel
theorem dX3_exchange_19 : decode cX3_exchange 19 = .ok (.iload_n 2, 1) := by decide +kernel
theorem dX3_exchange_20 : decode cX3_exchange 20 = .ok (.if_icmp .ne 6, 3) := by decide +kernel
theorem dX3_exchange_23 : decode cX3_exchange 23 = .ok (.bipush (-5), 2) := by decide +kernel
theorem dX3_exchange_25 : decode cX3_exchange 25 = .ok (.ireturn, 1) := by decide +kernel
theorem dX3_exchange_26 : decode cX3_exchange 26 = .ok (.aload_n 0, 1) := by decide +kernel
theorem dX3_exchange_27 : decode cX3_exchange 27 = .ok (.getfield 28, 3) := by decide +kernel
theorem dX3_exchange_30 : decode cX3_exchange 30 = .ok (.iload_n 1, 1) := by decide +kernel
theorem dX3_exchange_31 : decode cX3_exchange 31 = .ok (.iaload, 1) := by decide +kernel
theorem dX3_exchange_32 : decode cX3_exchange 32 = .ok (.istore_n 3, 1) := by decide +kernel
theorem dX3_exchange_33 : decode cX3_exchange 33 = .ok (.aload_n 0, 1) := by decide +kernel
theorem dX3_exchange_34 : decode cX3_exchange 34 = .ok (.getfield 28, 3) := by decide +kernel
theorem dX3_exchange_37 : decode cX3_exchange 37 = .ok (.iload_n 1, 1) := by decide +kernel
theorem dX3_exchange_38 : decode cX3_exchange 38 = .ok (.aload_n 0, 1) := by decide +kernel
theorem dX3_exchange_39 : decode cX3_exchange 39 = .ok (.getfield 28, 3) := by decide +kernel
theorem dX3_exchange_42 : decode cX3_exchange 42 = .ok (.iload_n 2, 1) := by decide +kernel
theorem dX3_exchange_43 : decode cX3_exchange 43 = .ok (.iaload, 1) := by decide +kernel
theorem dX3_exchange_44 : decode cX3_exchange 44 = .ok (.iastore, 1) := by decide +kernel
theorem dX3_exchange_45 : decode cX3_exchange 45 = .ok (.aload_n 0, 1) := by decide +kernel
theorem dX3_exchange_46 : decode cX3_exchange 46 = .ok (.getfield 28, 3) := by decide +kernel
theorem dX3_exchange_49 : decode cX3_exchange 49 = .ok (.iload_n 2, 1) := by decide +kernel
theorem dX3_exchange_50 : decode cX3_exchange 50 = .ok (.iload_n 3, 1) := by decide +kernel
theorem dX3_exchange_51 : decode cX3_exchange 51 = .ok (.iastore, 1) := by decide +kernel
theorem dX3_exchange_52 : decode cX3_exchange 52 = .ok (.aload_n 0, 1) := by decide +kernel
theorem dX3_exchange_53 : decode cX3_exchange 53 = .ok (.invokevirtual 66, 3) := by decide +kernel
theorem dX3_exchange_56 : decode cX3_exchange 56 = .ok (.aload_n 0, 1) := by decide +kernel
theorem dX3_exchange_57 : decode cX3_exchange 57 = .ok (.getfield 28, 3) := by decide +kernel
theorem dX3_exchange_60 : decode cX3_exchange 60 = .ok (.iload_n 1, 1) := by decide +kernel
theorem dX3_exchange_61 : decode cX3_exchange 61 = .ok (.iaload, 1) := by decide +kernel
theorem dX3_exchange_62 : decode cX3_exchange 62 = .ok (.ireturn, 1) := by decide +kernel
theorem dX3_copyOf_0 : decode cX3_copyOf 0 = .ok (.aload_n 0, 1) := by decide +kernel
theorem dX3_copyOf_1 : decode cX3_copyOf 1 = .ok (.aload_n 1, 1) := by decide +kernel
theorem dX3_copyOf_2 : decode cX3_copyOf 2 = .ok (.getfield 9, 3) := by decide +kernel
theorem dX3_copyOf_5 : decode cX3_copyOf 5 = .ok (.putfield 9, 3) := by decide +kernel
theorem dX3_copyOf_8 : decode cX3_copyOf 8 = .ok (.aload_n 0, 1) := by decide +kernel
theorem dX3_copyOf_9 : decode cX3_copyOf 9 = .ok (.aload_n 1, 1) := by decide +kernel
theorem dX3_copyOf_10 : decode cX3_copyOf 10 = .ok (.getfield 15, 3) := by decide +kernel
theorem dX3_copyOf_13 : decode cX3_copyOf 13 = .ok (.putfield 15, 3) := by decide +kernel
theorem dX3_copyOf_16 : decode cX3_copyOf 16 = .ok (.aload_n 0, 1) := by decide +kernel
theorem dX3_copyOf_17 : decode cX3_copyOf 17 = .ok (.aload_n 1, 1) := by decide +kernel
theorem dX3_copyOf_18 : decode cX3_copyOf 18 = .ok (.getfield 18, 3) := by decide +kernel
theorem dX3_copyOf_21 : decode cX3_copyOf 21 = .ok (.putfield 18, 3) := by decide +kernel
theorem dX3_copyOf_24 : decode cX3_copyOf 24 = .ok (.aload_n 1, 1) := by decide +kernel
theorem dX3_copyOf_25 : decode cX3_copyOf 25 = .ok (.getfield 21, 3) := by decide +kernel
theorem dX3_copyOf_28 : decode cX3_copyOf 28 = .ok (.iconst 0, 1) := by decide +kernel
theorem dX3_copyOf_29 : decode cX3_copyOf 29 = .ok (.aload_n 0, 1) := by decide +kernel
theorem dX3_copyOf_30 : decode cX3_copyOf 30 = .ok (.getfield 21, 3) := by decide +kernel
theorem dX3_copyOf_33 : decode cX3_copyOf 33 = .ok (.iconst 0, 1) := by decide +kernel
theorem dX3_copyOf_34 : decode cX3_copyOf 34 = .ok (.bipush 12, 2) := by decide +kernel
theorem dX3_copyOf_36 : decode cX3_copyOf 36 = .ok (.invokestatic 82, 3) := by decide +kernel
theorem dX3_copyOf_39 : decode cX3_copyOf 39 = .ok (.aload_n 1, 1) := by decide +kernel
theorem dX3_copyOf_40 : decode cX3_copyOf 40 = .ok (.getfield 25, 3) := by decide +kernel
theorem dX3_copyOf_43 : decode cX3_copyOf 43 = .ok (.iconst 0, 1) := by decide +kernel
theorem dX3_copyOf_44 : decode cX3_copyOf 44 = .ok (.aload_n 0, 1) := by decide +kernel
theorem dX3_copyOf_45 : decode cX3_copyOf 45 = .ok (.getfield 25, 3) := by decide +kernel
theorem dX3_copyOf_48 : decode cX3_copyOf 48 = .ok (.iconst 0, 1) := by decide +kernel
theorem dX3_copyOf_49 : decode cX3_copyOf 49 = .ok (.bipush 12, 2) := by decide +kernel
theorem dX3_copyOf_51 : decode cX3_copyOf 51 = .ok (.invokestatic 82, 3) := by decide +kernel
theorem dX3_copyOf_54 : decode cX3_copyOf 54 = .ok (.aload_n 1, 1) := by decide +kernel
theorem dX3_copyOf_55 : decode cX3_copyOf 55 = .ok (.getfield 28, 3) := by decide +kernel
theorem dX3_copyOf_58 : decode cX3_copyOf 58 = .ok (.iconst 0, 1) := by decide +kernel
theorem dX3_copyOf_59 : decode cX3_copyOf 59 = .ok (.aload_n 0, 1) := by decide +kernel
theorem dX3_copyOf_60 : decode cX3_copyOf 60 = .ok (.getfield 28, 3) := by decide +kernel
theorem dX3_copyOf_63 : decode cX3_copyOf 63 = .ok (.iconst 0, 1) := by decide +kernel
theorem dX3_copyOf_64 : decode cX3_copyOf 64 = .ok (.bipush 12, 2) := by decide +kernel
theorem dX3_copyOf_66 : decode cX3_copyOf 66 = .ok (.invokestatic 82, 3) := by decide +kernel
theorem dX3_copyOf_69 : decode cX3_copyOf 69 = .ok (.aload_n 1, 1) := by decide +kernel
theorem dX3_copyOf_70 : decode cX3_copyOf 70 = .ok (.getfield 31, 3) := by decide +kernel
theorem dX3_copyOf_73 : decode cX3_copyOf 73 = .ok (.iconst 0, 1) := by decide +kernel
theorem dX3_copyOf_74 : decode cX3_copyOf 74 = .ok (.aload_n 0, 1) := by decide +kernel
theorem dX3_copyOf_75 : decode cX3_copyOf 75 = .ok (.getfield 31, 3) := by decide +kernel
theorem dX3_copyOf_78 : decode cX3_copyOf 78 = .ok (.iconst 0, 1) := by decide +kernel
theorem dX3_copyOf_79 : decode cX3_copyOf 79 = .ok (.bipush 12, 2) := by decide +kernel
theorem dX3_copyOf_81 : decode cX3_copyOf 81 = .ok (.invokestatic 82, 3) := by decide +kernel
theorem dX3_copyOf_84 : decode cX3_copyOf 84 = .ok (.aload_n 1, 1) := by decide +kernel
theorem dX3_copyOf_85 : decode cX3_copyOf 85 = .ok (.getfield 34, 3) := by decide +kernel
theorem dX3_copyOf_88 : decode cX3_copyOf 88 = .ok (.iconst 0, 1) := by decide +kernel
theorem dX3_copyOf_89 : decode cX3_copyOf 89 = .ok (.aload_n 0, 1) := by decide +kernel
theorem dX3_copyOf_90 : decode cX3_copyOf 90 = .ok (.getfield 34, 3) := by decide +kernel
theorem dX3_copyOf_93 : decode cX3_copyOf 93 = .ok (.iconst 0, 1) := by decide +kernel
theorem dX3_copyOf_94 : decode cX3_copyOf 94 = .ok (.bipush 36, 2) := by decide +kernel
theorem dX3_copyOf_96 : decode cX3_copyOf 96 = .ok (.invokestatic 82, 3) := by decide +kernel
theorem dX3_copyOf_99 : decode cX3_copyOf 99 = .ok (.aload_n 1, 1) := by decide +kernel
theorem dX3_copyOf_100 : decode cX3_copyOf 100 = .ok (.getfield 37, 3) := by decide +kernel
theorem dX3_copyOf_103 : decode cX3_copyOf 103 = .ok (.iconst 0, 1) := by decide +kernel
theorem dX3_copyOf_104 : decode cX3_copyOf 104 = .ok (.aload_n 0, 1) := by decide +kernel
theorem dX3_copyOf_105 : decode cX3_copyOf 105 = .ok (.getfield 37, 3) := by decide +kernel
theorem dX3_copyOf_108 : decode cX3_copyOf 108 = .ok (.iconst 0, 1) := by decide +kernel
theorem dX3_copyOf_109 : decode cX3_copyOf 109 = .ok (.bipush 36, 2) := by decide +kernel
theorem dX3_copyOf_111 : decode cX3_copyOf 111 = .ok (.invokestatic 82, 3) := by decide +kernel
theorem dX3_copyOf_114 : decode cX3_copyOf 114 = .ok (.return_, 1) := by decide +kernel
theorem dX3_places_0 : decode cX3_places 0 = .ok (.lconst 1, 1) := by decide +kernel
theorem dX3_places_1 : decode cX3_places 1 = .ok (.lstore_n 2, 1) := by decide +kernel
theorem dX3_places_2 : decode cX3_places 2 = .ok (.iconst 0, 1) := by decide +kernel
theorem dX3_places_3 : decode cX3_places 3 = .ok (.istore 4, 2) := by decide +kernel
theorem dX3_places_5 : decode cX3_places 5 = .ok (.iload 4, 2) := by decide +kernel
theorem dX3_places_7 : decode cX3_places 7 = .ok (.aload_n 0, 1) := by decide +kernel
theorem dX3_places_8 : decode cX3_places 8 = .ok (.getfield 9, 3) := by decide +kernel
theorem dX3_places_11 : decode cX3_places 11 = .ok (.if_icmp .ge 63, 3) := by decide +kernel
theorem dX3_places_14 : decode cX3_places 14 = .ok (.lload_n 2, 1) := by decide +kernel
theorem dX3_places_15 : decode cX3_places 15 = .ok (.aload_n 0, 1) := by decide +kernel
theorem dX3_places_16 : decode cX3_places 16 = .ok (.iload 4, 2) := by decide +kernel
theorem dX3_places_18 : decode cX3_places 18 = .ok (.iload_n 1, 1) := by decide +kernel
theorem dX3_places_19 : decode cX3_places 19 = .ok (.iconst 1, 1) := by decide +kernel
theorem dX3_places_20 : decode cX3_places 20 = .ok (.if_icmp .ne 7, 3) := by decide +kernel
theorem dX3_places_23 : decode cX3_places 23 = .ok (.iconst 1, 1) := by decide +kernel
theorem dX3_places_24 : decode cX3_places 24 = .ok (.goto 4, 3) := by decide +kernel
theorem dX3_places_27 : decode cX3_places 27 = .ok (.iconst 0, 1) := by decide +kernel
theorem dX3_places_28 : decode cX3_places 28 = .ok (.invokevirtual 76, 3) := by decide +kernel
theorem dX3_places_31 : decode cX3_places 31 = .ok (.i2l, 1) := by decide +kernel
theorem dX3_places_32 : decode cX3_places 32 = .ok (.invokestatic 88, 3) := by decide +kernel
theorem dX3_places_35 : decode cX3_places 35 = .ok (.lstore_n 2, 1) := by decide +kernel
theorem dX3_places_36 : decode cX3_places 36 = .ok (.iload_n 1, 1) := by decide +kernel
theorem dX3_places_37 : decode cX3_places 37 = .ok (.iconst 2, 1) := by decide +kernel
theorem dX3_places_38 : decode cX3_places 38 = .ok (.if_icmp .ne 18, 3) := by decide +kernel
theorem dX3_places_41 : decode cX3_places 41 = .ok (.lload_n 2, 1) := by decide +kernel
theorem dX3_places_42 : decode cX3_places 42 = .ok (.aload_n 0, 1) := by decide +kernel
theorem dX3_places_43 : decode cX3_places 43 = .ok (.iload 4, 2) := by decide +kernel
theorem dX3_places_45 : decode cX3_places 45 = .ok (.iconst 2, 1) := by decide +kernel
theorem dX3_places_46 : decode cX3_places 46 = .ok (.invokevirtual 76, 3) := by decide +kernel
theorem dX3_places_49 : decode cX3_places 49 = .ok (.i2l, 1) := by decide +kernel
theorem dX3_places_50 : decode cX3_places 50 = .ok (.invokestatic 88, 3) := by decide +kernel
theorem dX3_places_53 : decode cX3_places 53 = .ok (.goto 4, 3) := by decide +kernel
theorem dX3_places_56 : decode cX3_places 56 = .ok (.lload_n 2, 1) := by decide +kernel
theorem dX3_places_57 : decode cX3_places 57 = .ok (.lstore_n 2, 1) := by decide +kernel
theorem dX3_places_58 : decode cX3_places 58 = .ok (.lload_n 2, 1) := by decide +kernel
theorem dX3_places_59 : decode cX3_places 59 = .ok (.ldc2_w 92, 3) := by decide +kernel
theorem dX3_places_62 : decode cX3_places 62 = .ok (.lcmp, 1) := by decide +kernel
theorem dX3_places_63 : decode cX3_places 63 = .ok (.ifCond .le 5, 3) := by decide +kernel
theorem dX3_places_66 : decode cX3_places 66 = .ok (.lconst 0, 1) := by decide +kernel
theorem dX3_places_67 : decode cX3_places 67 = .ok (.lreturn, 1) := by decide +kernel
theorem dX3_places_68 : decode cX3_places 68 = .ok (.iinc 4 1, 3) := by decide +kernel
theorem dX3_places_71 : decode cX3_places 71 = .ok (.goto (-66), 3) := by decide +kernel
theorem dX3_places_74 : decode cX3_places 74 = .ok (.aload_n 0, 1) := by decide +kernel
theorem dX3_places_75 : decode cX3_places 75 = .ok (.iload_n 1, 1) := by decide +kernel
theorem dX3_places_76 : decode cX3_places 76 = .ok (.lload_n 2, 1) := by decide +kernel
theorem dX3_places_77 : decode cX3_places 77 = .ok (.invokevirtual 94, 3) := by decide +kernel
theorem dX3_places_80 : decode cX3_places 80 = .ok (.ldc2_w 92, 3) := by decide +kernel
theorem dX3_places_83 : decode cX3_places 83 = .ok (.lcmp, 1) := by decide +kernel
theorem dX3_places_84 : decode cX3_places 84 = .ok (.ifCond .gt 21, 3) := by decide +kernel
theorem dX3_places_87 : decode cX3_places 87 = .ok (.iload_n 1, 1) := by decide +kernel
theorem dX3_places_88 : decode cX3_places 88 = .ok (.iconst 2, 1) := by decide +kernel
theorem dX3_places_89 : decode cX3_places 89 = .ok (.if_icmp .ne 20, 3) := by decide +kernel
theorem dX3_places_92 : decode cX3_places 92 = .ok (.aload_n 0, 1) := by decide +kernel
theorem dX3_places_93 : decode cX3_places 93 = .ok (.iconst 0, 1) := by decide +kernel
theorem dX3_places_94 : decode cX3_places 94 = .ok (.lload_n 2, 1) := by decide +kernel
theorem dX3_places_95 : decode cX3_places 95 = .ok (.invokevirtual 94, 3) := by decide +kernel
theorem dX3_places_98 : decode cX3_places 98 = .ok (.ldc2_w 92, 3) := by decide +kernel
theorem dX3_places_101 : decode cX3_places 101 = .ok (.lcmp, 1) := by decide +kernel
theorem dX3_places_102 : decode cX3_places 102 = .ok (.ifCond .le 7, 3) := by decide +kernel
theorem dX3_places_105 : decode cX3_places 105 = .ok (.iconst 1, 1) := by decide +kernel
theorem dX3_places_106 : decode cX3_places 106 = .ok (.goto 4, 3) := by decide +kernel
theorem dX3_places_109 : decode cX3_places 109 = .ok (.iconst 0, 1) := by decide +kernel
theorem dX3_places_110 : decode cX3_places 110 = .ok (.istore 4, 2) := by decide +kernel
theorem dX3_places_112 : decode cX3_places 112 = .ok (.iload 4, 2) := by decide +kernel
theorem dX3_places_114 : decode cX3_places 114 = .ok (.ifCond .eq 7, 3) := by decide +kernel
theorem dX3_places_117 : decode cX3_places 117 = .ok (.lconst 0, 1) := by decide +kernel
theorem dX3_places_118 : decode cX3_places 118 = .ok (.goto 4, 3) := by decide +kernel
theorem dX3_places_121 : decode cX3_places 121 = .ok (.lload_n 2, 1) := by decide +kernel
theorem dX3_places_122 : decode cX3_places 122 = .ok (.lreturn, 1) := by decide +kernel
theorem dX3_partsOf_0 : decode cX3_partsOf 0 = .ok (.aload_n 0, 1) := by decide +kernel
theorem dX3_partsOf_1 : decode cX3_partsOf 1 = .ok (.iload_n 1, 1) := by decide +kernel
theorem dX3_partsOf_2 : decode cX3_partsOf 2 = .ok (.iload_n 2, 1) := by decide +kernel
theorem dX3_partsOf_3 : decode cX3_partsOf 3 = .ok (.invokevirtual 76, 3) := by decide +kernel
theorem dX3_partsOf_6 : decode cX3_partsOf 6 = .ok (.istore 5, 2) := by decide +kernel
theorem dX3_partsOf_8 : decode cX3_partsOf 8 = .ok (.iload 5, 2) := by decide +kernel
theorem dX3_partsOf_10 : decode cX3_partsOf 10 = .ok (.iconst 1, 1) := by decide +kernel
theorem dX3_partsOf_11 : decode cX3_partsOf 11 = .ok (.if_icmp .ge 7, 3) := by decide +kernel
theorem dX3_partsOf_14 : decode cX3_partsOf 14 = .ok (.lconst 0, 1) := by decide +kernel
theorem dX3_partsOf_15 : decode cX3_partsOf 15 = .ok (.goto 16, 3) := by decide +kernel
theorem dX3_partsOf_18 : decode cX3_partsOf 18 = .ok (.aload_n 0, 1) := by decide +kernel
theorem dX3_partsOf_19 : decode cX3_partsOf 19 = .ok (.iload_n 1, 1) := by decide +kernel
theorem dX3_partsOf_20 : decode cX3_partsOf 20 = .ok (.iload_n 2, 1) := by decide +kernel
theorem dX3_partsOf_21 : decode cX3_partsOf 21 = .ok (.invokevirtual 72, 3) := by decide +kernel
theorem dX3_partsOf_24 : decode cX3_partsOf 24 = .ok (.i2l, 1) := by decide +kernel
theorem dX3_partsOf_25 : decode cX3_partsOf 25 = .ok (.lload_n 3, 1) := by decide +kernel
theorem dX3_partsOf_26 : decode cX3_partsOf 26 = .ok (.iload 5, 2) := by decide +kernel
theorem dX3_partsOf_28 : decode cX3_partsOf 28 = .ok (.i2l, 1) := by decide +kernel
theorem dX3_partsOf_29 : decode cX3_partsOf 29 = .ok (.ldiv, 1) := by decide +kernel
theorem dX3_partsOf_30 : decode cX3_partsOf 30 = .ok (.lmul, 1) := by decide +kernel
theorem dX3_partsOf_31 : decode cX3_partsOf 31 = .ok (.lreturn, 1) := by decide +kernel
theorem dX3_partsOfAll_0 : decode cX3_partsOfAll 0 = .ok (.lconst 0, 1) := by decide +kernel
theorem dX3_partsOfAll_1 : decode cX3_partsOfAll 1 = .ok (.lstore 4, 2) := by decide +kernel
theorem dX3_partsOfAll_3 : decode cX3_partsOfAll 3 = .ok (.iconst 0, 1) := by decide +kernel
theorem dX3_partsOfAll_4 : decode cX3_partsOfAll 4 = .ok (.istore 6, 2) := by decide +kernel
theorem dX3_partsOfAll_6 : decode cX3_partsOfAll 6 = .ok (.iload 6, 2) := by decide +kernel
theorem dX3_partsOfAll_8 : decode cX3_partsOfAll 8 = .ok (.aload_n 0, 1) := by decide +kernel
theorem dX3_partsOfAll_9 : decode cX3_partsOfAll 9 = .ok (.getfield 9, 3) := by decide +kernel
theorem dX3_partsOfAll_12 : decode cX3_partsOfAll 12 = .ok (.if_icmp .ge 22, 3) := by decide +kernel
theorem dX3_partsOfAll_15 : decode cX3_partsOfAll 15 = .ok (.lload 4, 2) := by decide +kernel
theorem dX3_partsOfAll_17 : decode cX3_partsOfAll 17 = .ok (.aload_n 0, 1) := by decide +kernel
theorem dX3_partsOfAll_18 : decode cX3_partsOfAll 18 = .ok (.iload 6, 2) := by decide +kernel
theorem dX3_partsOfAll_20 : decode cX3_partsOfAll 20 = .ok (.iload_n 1, 1) := by decide +kernel
theorem dX3_partsOfAll_21 : decode cX3_partsOfAll 21 = .ok (.lload_n 2, 1) := by decide +kernel
theorem dX3_partsOfAll_22 : decode cX3_partsOfAll 22 = .ok (.invokevirtual 98, 3) := by decide +kernel
theorem dX3_partsOfAll_25 : decode cX3_partsOfAll 25 = .ok (.ladd, 1) := by decide +kernel
theorem dX3_partsOfAll_26 : decode cX3_partsOfAll 26 = .ok (.lstore 4, 2) := by decide +kernel
theorem dX3_partsOfAll_28 : decode cX3_partsOfAll 28 = .ok (.iinc 6 1, 3) := by decide +kernel
theorem dX3_partsOfAll_31 : decode cX3_partsOfAll 31 = .ok (.goto (-25), 3) := by decide +kernel
theorem dX3_partsOfAll_34 : decode cX3_partsOfAll 34 = .ok (.lload 4, 2) := by decide +kernel
theorem dX3_partsOfAll_36 : decode cX3_partsOfAll 36 = .ok (.lreturn, 1) := by decide +kernel
theorem dX3_putOdds_0 : decode cX3_putOdds 0 = .ok (.aload_n 0, 1) := by decide +kernel
theorem dX3_putOdds_1 : decode cX3_putOdds 1 = .ok (.iload_n 1, 1) := by decide +kernel
theorem dX3_putOdds_2 : decode cX3_putOdds 2 = .ok (.invokevirtual 40, 3) := by decide +kernel
theorem dX3_putOdds_5 : decode cX3_putOdds 5 = .ok (.ifCond .eq 35, 3) := by decide +kernel
theorem dX3_putOdds_8 : decode cX3_putOdds 8 = .ok (.iload_n 2, 1) := by decide +kernel
theorem dX3_putOdds_9 : decode cX3_putOdds 9 = .ok (.invokestatic 69, 3) := by decide +kernel
theorem dX3_putOdds_12 : decode cX3_putOdds 12 = .ok (.ifCond .eq 28, 3) := by decide +kernel
theorem dX3_putOdds_15 : decode cX3_putOdds 15 = .ok (.aload_n 0, 1) := by decide +kernel
theorem dX3_putOdds_16 : decode cX3_putOdds 16 = .ok (.getfield 34, 3) := by decide +kernel
theorem dX3_putOdds_19 : decode cX3_putOdds 19 = .ok (.iload_n 2, 1) := by decide +kernel
theorem dX3_putOdds_20 : decode cX3_putOdds 20 = .ok (.bipush 12, 2) := by decide +kernel
theorem dX3_putOdds_22 : decode cX3_putOdds 22 = .ok (.imul, 1) := by decide +kernel
theorem dX3_putOdds_23 : decode cX3_putOdds 23 = .ok (.iload_n 1, 1) := by decide +kernel
theorem dX3_putOdds_24 : decode cX3_putOdds 24 = .ok (.iadd, 1) := by decide +kernel
theorem dX3_putOdds_25 : decode cX3_putOdds 25 = .ok (.iload_n 3, 1) := by decide +kernel
theorem dX3_putOdds_26 : decode cX3_putOdds 26 = .ok (.iastore, 1) := by decide +kernel
theorem dX3_putOdds_27 : decode cX3_putOdds 27 = .ok (.aload_n 0, 1) := by decide +kernel
theorem dX3_putOdds_28 : decode cX3_putOdds 28 = .ok (.getfield 37, 3) := by decide +kernel
theorem dX3_putOdds_31 : decode cX3_putOdds 31 = .ok (.iload_n 2, 1) := by decide +kernel
theorem dX3_putOdds_32 : decode cX3_putOdds 32 = .ok (.bipush 12, 2) := by decide +kernel
theorem dX3_putOdds_34 : decode cX3_putOdds 34 = .ok (.imul, 1) := by decide +kernel
theorem dX3_putOdds_35 : decode cX3_putOdds 35 = .ok (.iload_n 1, 1) := by decide +kernel
theorem dX3_putOdds_36 : decode cX3_putOdds 36 = .ok (.iadd, 1) := by decide +kernel
theorem dX3_putOdds_37 : decode cX3_putOdds 37 = .ok (.iload 4, 2) := by decide +kernel
theorem dX3_putOdds_39 : decode cX3_putOdds 39 = .ok (.iastore, 1) := by decide +kernel
theorem dX3_putOdds_40 : decode cX3_putOdds 40 = .ok (.return_, 1) := by decide +kernel
theorem dX3_arrange_0 : decode cX3_arrange 0 = .ok (.iconst 0, 1) := by decide +kernel
theorem dX3_arrange_1 : decode cX3_arrange 1 = .ok (.istore_n 1, 1) := by decide +kernel
theorem dX3_arrange_2 : decode cX3_arrange 2 = .ok (.iload_n 1, 1) := by decide +kernel
theorem dX3_arrange_3 : decode cX3_arrange 3 = .ok (.aload_n 0, 1) := by decide +kernel
theorem dX3_arrange_4 : decode cX3_arrange 4 = .ok (.getfield 9, 3) := by decide +kernel
theorem dX3_arrange_7 : decode cX3_arrange 7 = .ok (.if_icmp .ge 77, 3) := by decide +kernel
theorem dX3_arrange_10 : decode cX3_arrange 10 = .ok (.aload_n 0, 1) := by decide +kernel
theorem dX3_arrange_11 : decode cX3_arrange 11 = .ok (.getfield 18, 3) := by decide +kernel
theorem dX3_arrange_14 : decode cX3_arrange 14 = .ok (.iconst 5, 1) := by decide +kernel
theorem dX3_arrange_15 : decode cX3_arrange 15 = .ok (.if_icmp .ne 12, 3) := by decide +kernel
theorem dX3_arrange_18 : decode cX3_arrange 18 = .ok (.aload_n 0, 1) := by decide +kernel
theorem dX3_arrange_19 : decode cX3_arrange 19 = .ok (.getfield 28, 3) := by decide +kernel
theorem dX3_arrange_22 : decode cX3_arrange 22 = .ok (.iload_n 1, 1) := by decide +kernel
theorem dX3_arrange_23 : decode cX3_arrange 23 = .ok (.iaload, 1) := by decide +kernel
theorem dX3_arrange_24 : decode cX3_arrange 24 = .ok (.goto 4, 3) := by decide +kernel
theorem dX3_arrange_27 : decode cX3_arrange 27 = .ok (.iload_n 1, 1) := by decide +kernel
theorem dX3_arrange_28 : decode cX3_arrange 28 = .ok (.istore_n 2, 1) := by decide +kernel
theorem dX3_arrange_29 : decode cX3_arrange 29 = .ok (.iload_n 1, 1) := by decide +kernel
theorem dX3_arrange_30 : decode cX3_arrange 30 = .ok (.istore_n 3, 1) := by decide +kernel
theorem dX3_arrange_31 : decode cX3_arrange 31 = .ok (.iload_n 3, 1) := by decide +kernel
theorem dX3_arrange_32 : decode cX3_arrange 32 = .ok (.ifCond .le 39, 3) := by decide +kernel
theorem dX3_arrange_35 : decode cX3_arrange 35 = .ok (.aload_n 0, 1) := by decide +kernel
theorem dX3_arrange_36 : decode cX3_arrange 36 = .ok (.iload_n 2, 1) := by decide +kernel
theorem dX3_arrange_37 : decode cX3_arrange 37 = .ok (.aload_n 0, 1) := by decide +kernel
theorem dX3_arrange_38 : decode cX3_arrange 38 = .ok (.getfield 31, 3) := by decide +kernel
theorem dX3_arrange_41 : decode cX3_arrange 41 = .ok (.iload_n 3, 1) := by decide +kernel
theorem dX3_arrange_42 : decode cX3_arrange 42 = .ok (.iconst 1, 1) := by decide +kernel
theorem dX3_arrange_43 : decode cX3_arrange 43 = .ok (.isub, 1) := by decide +kernel
theorem dX3_arrange_44 : decode cX3_arrange 44 = .ok (.iaload, 1) := by decide +kernel
theorem dX3_arrange_45 : decode cX3_arrange 45 = .ok (.invokevirtual 102, 3) := by decide +kernel
theorem dX3_arrange_48 : decode cX3_arrange 48 = .ok (.ifCond .eq 23, 3) := by decide +kernel
theorem dX3_arrange_51 : decode cX3_arrange 51 = .ok (.aload_n 0, 1) := by decide +kernel
theorem dX3_arrange_52 : decode cX3_arrange 52 = .ok (.getfield 31, 3) := by decide +kernel
theorem dX3_arrange_55 : decode cX3_arrange 55 = .ok (.iload_n 3, 1) := by decide +kernel
theorem dX3_arrange_56 : decode cX3_arrange 56 = .ok (.aload_n 0, 1) := by decide +kernel
theorem dX3_arrange_57 : decode cX3_arrange 57 = .ok (.getfield 31, 3) := by decide +kernel
theorem dX3_arrange_60 : decode cX3_arrange 60 = .ok (.iload_n 3, 1) := by decide +kernel
theorem dX3_arrange_61 : decode cX3_arrange 61 = .ok (.iconst 1, 1) := by decide +kernel
theorem dX3_arrange_62 : decode cX3_arrange 62 = .ok (.isub, 1) := by decide +kernel
theorem dX3_arrange_63 : decode cX3_arrange 63 = .ok (.iaload, 1) := by decide +kernel
theorem dX3_arrange_64 : decode cX3_arrange 64 = .ok (.iastore, 1) := by decide +kernel
theorem dX3_arrange_65 : decode cX3_arrange 65 = .ok (.iinc 3 (-1), 3) := by decide +kernel
theorem dX3_arrange_68 : decode cX3_arrange 68 = .ok (.goto (-37), 3) := by decide +kernel
theorem dX3_arrange_71 : decode cX3_arrange 71 = .ok (.aload_n 0, 1) := by decide +kernel
theorem dX3_arrange_72 : decode cX3_arrange 72 = .ok (.getfield 31, 3) := by decide +kernel
theorem dX3_arrange_75 : decode cX3_arrange 75 = .ok (.iload_n 3, 1) := by decide +kernel
theorem dX3_arrange_76 : decode cX3_arrange 76 = .ok (.iload_n 2, 1) := by decide +kernel
theorem dX3_arrange_77 : decode cX3_arrange 77 = .ok (.iastore, 1) := by decide +kernel
theorem dX3_arrange_78 : decode cX3_arrange 78 = .ok (.iinc 1 1, 3) := by decide +kernel
theorem dX3_arrange_81 : decode cX3_arrange 81 = .ok (.goto (-79), 3) := by decide +kernel
theorem dX3_arrange_84 : decode cX3_arrange 84 = .ok (.return_, 1) := by decide +kernel
theorem dX3_standsAhead_0 : decode cX3_standsAhead 0 = .ok (.aload_n 0, 1) := by decide +kernel
theorem dX3_standsAhead_1 : decode cX3_standsAhead 1 = .ok (.iload_n 1, 1) := by decide +kernel
theorem dX3_standsAhead_2 : decode cX3_standsAhead 2 = .ok (.invokevirtual 40, 3) := by decide +kernel
theorem dX3_standsAhead_5 : decode cX3_standsAhead 5 = .ok (.ifCond .eq 11, 3) := by decide +kernel
theorem dX3_standsAhead_8 : decode cX3_standsAhead 8 = .ok (.aload_n 0, 1) := by decide +kernel
theorem dX3_standsAhead_9 : decode cX3_standsAhead 9 = .ok (.iload_n 2, 1) := by decide +kernel
theorem dX3_standsAhead_10 : decode cX3_standsAhead 10 = .ok (.invokevirtual 40, 3) := by decide +kernel
theorem dX3_standsAhead_13 : decode cX3_standsAhead 13 = .ok (.ifCond .ne 5, 3) := by decide +kernel
theorem dX3_standsAhead_16 : decode cX3_standsAhead 16 = .ok (.iconst 0, 1) := by decide +kernel
theorem dX3_standsAhead_17 : decode cX3_standsAhead 17 = .ok (.ireturn, 1) := by decide +kernel
theorem dX3_standsAhead_18 : decode cX3_standsAhead 18 = .ok (.aload_n 0, 1) := by decide +kernel
theorem dX3_standsAhead_19 : decode cX3_standsAhead 19 = .ok (.getfield 21, 3) := by decide +kernel
theorem dX3_standsAhead_22 : decode cX3_standsAhead 22 = .ok (.iload_n 1, 1) := by decide +kernel
theorem dX3_standsAhead_23 : decode cX3_standsAhead 23 = .ok (.iaload, 1) := by decide +kernel
theorem dX3_standsAhead_24 : decode cX3_standsAhead 24 = .ok (.aload_n 0, 1) := by decide +kernel
theorem dX3_standsAhead_25 : decode cX3_standsAhead 25 = .ok (.getfield 21, 3) := by decide +kernel
theorem dX3_standsAhead_28 : decode cX3_standsAhead 28 = .ok (.iload_n 2, 1) := by decide +kernel
theorem dX3_standsAhead_29 : decode cX3_standsAhead 29 = .ok (.iaload, 1) := by decide +kernel
theorem dX3_standsAhead_30 : decode cX3_standsAhead 30 = .ok (.isub, 1) := by decide +kernel
theorem dX3_standsAhead_31 : decode cX3_standsAhead 31 = .ok (.istore_n 3, 1) := by decide +kernel
theorem dX3_standsAhead_32 : decode cX3_standsAhead 32 = .ok (.aload_n 0, 1) := by decide +kernel
theorem dX3_standsAhead_33 : decode cX3_standsAhead 33 = .ok (.getfield 25, 3) := by decide +kernel
theorem dX3_standsAhead_36 : decode cX3_standsAhead 36 = .ok (.iload_n 1, 1) := by decide +kernel
theorem dX3_standsAhead_37 : decode cX3_standsAhead 37 = .ok (.iaload, 1) := by decide +kernel
theorem dX3_standsAhead_38 : decode cX3_standsAhead 38 = .ok (.aload_n 0, 1) := by decide +kernel
theorem dX3_standsAhead_39 : decode cX3_standsAhead 39 = .ok (.getfield 25, 3) := by decide +kernel
theorem dX3_standsAhead_42 : decode cX3_standsAhead 42 = .ok (.iload_n 2, 1) := by decide +kernel
theorem dX3_standsAhead_43 : decode cX3_standsAhead 43 = .ok (.iaload, 1) := by decide +kernel
theorem dX3_standsAhead_44 : decode cX3_standsAhead 44 = .ok (.isub, 1) := by decide +kernel
theorem dX3_standsAhead_45 : decode cX3_standsAhead 45 = .ok (.istore 4, 2) := by decide +kernel
theorem dX3_standsAhead_47 : decode cX3_standsAhead 47 = .ok (.aload_n 0, 1) := by decide +kernel
theorem dX3_standsAhead_48 : decode cX3_standsAhead 48 = .ok (.getfield 18, 3) := by decide +kernel
theorem dX3_standsAhead_51 : decode cX3_standsAhead 51 = .ok (.tableswitch 123 1 4 #[29, 64, 74, 85], 29) := by decide +kernel
theorem dX3_standsAhead_80 : decode cX3_standsAhead 80 = .ok (.aload_n 0, 1) := by decide +kernel
theorem dX3_standsAhead_81 : decode cX3_standsAhead 81 = .ok (.iload_n 1, 1) := by decide +kernel
theorem dX3_standsAhead_82 : decode cX3_standsAhead 82 = .ok (.iconst 0, 1) := by decide +kernel
theorem dX3_standsAhead_83 : decode cX3_standsAhead 83 = .ok (.invokevirtual 72, 3) := by decide +kernel
theorem dX3_standsAhead_86 : decode cX3_standsAhead 86 = .ok (.aload_n 0, 1) := by decide +kernel
theorem dX3_standsAhead_87 : decode cX3_standsAhead 87 = .ok (.iload_n 2, 1) := by decide +kernel
theorem dX3_standsAhead_88 : decode cX3_standsAhead 88 = .ok (.iconst 0, 1) := by decide +kernel
theorem dX3_standsAhead_89 : decode cX3_standsAhead 89 = .ok (.invokevirtual 76, 3) := by decide +kernel
theorem dX3_standsAhead_92 : decode cX3_standsAhead 92 = .ok (.imul, 1) := by decide +kernel
theorem dX3_standsAhead_93 : decode cX3_standsAhead 93 = .ok (.aload_n 0, 1) := by decide +kernel
theorem dX3_standsAhead_94 : decode cX3_standsAhead 94 = .ok (.iload_n 2, 1) := by decide +kernel
theorem dX3_standsAhead_95 : decode cX3_standsAhead 95 = .ok (.iconst 0, 1) := by decide +kernel
theorem dX3_standsAhead_96 : decode cX3_standsAhead 96 = .ok (.invokevirtual 72, 3) := by decide +kernel
theorem dX3_standsAhead_99 : decode cX3_standsAhead 99 = .ok (.aload_n 0, 1) := by decide +kernel
theorem dX3_standsAhead_100 : decode cX3_standsAhead 100 = .ok (.iload_n 1, 1) := by decide +kernel
theorem dX3_standsAhead_101 : decode cX3_standsAhead 101 = .ok (.iconst 0, 1) := by decide +kernel
theorem dX3_standsAhead_102 : decode cX3_standsAhead 102 = .ok (.invokevirtual 76, 3) := by decide +kernel
theorem dX3_standsAhead_105 : decode cX3_standsAhead 105 = .ok (.imul, 1) := by decide +kernel
theorem dX3_standsAhead_106 : decode cX3_standsAhead 106 = .ok (.if_icmp .le 7, 3) := by decide +kernel
theorem dX3_standsAhead_109 : decode cX3_standsAhead 109 = .ok (.iconst 1, 1) := by decide +kernel
theorem dX3_standsAhead_110 : decode cX3_standsAhead 110 = .ok (.goto 4, 3) := by decide +kernel
theorem dX3_standsAhead_113 : decode cX3_standsAhead 113 = .ok (.iconst 0, 1) := by decide +kernel
theorem dX3_standsAhead_114 : decode cX3_standsAhead 114 = .ok (.ireturn, 1) := by decide +kernel
theorem dX3_standsAhead_115 : decode cX3_standsAhead 115 = .ok (.iload_n 3, 1) := by decide +kernel
theorem dX3_standsAhead_116 : decode cX3_standsAhead 116 = .ok (.ifCond .ge 7, 3) := by decide +kernel
theorem dX3_standsAhead_119 : decode cX3_standsAhead 119 = .ok (.iconst 1, 1) := by decide +kernel
theorem dX3_standsAhead_120 : decode cX3_standsAhead 120 = .ok (.goto 4, 3) := by decide +kernel
theorem dX3_standsAhead_123 : decode cX3_standsAhead 123 = .ok (.iconst 0, 1) := by decide +kernel
theorem dX3_standsAhead_124 : decode cX3_standsAhead 124 = .ok (.ireturn, 1) := by decide +kernel
theorem dX3_standsAhead_125 : decode cX3_standsAhead 125 = .ok (.iload 4, 2) := by decide +kernel
theorem dX3_standsAhead_127 : decode cX3_standsAhead 127 = .ok (.ifCond .ge 7, 3) := by decide +kernel
theorem dX3_standsAhead_130 : decode cX3_standsAhead 130 = .ok (.iconst 1, 1) := by decide +kernel
theorem dX3_standsAhead_131 : decode cX3_standsAhead 131 = .ok (.goto 4, 3) := by decide +kernel
theorem dX3_standsAhead_134 : decode cX3_standsAhead 134 = .ok (.iconst 0, 1) := by decide +kernel
theorem dX3_standsAhead_135 : decode cX3_standsAhead 135 = .ok (.ireturn, 1) := by decide +kernel
theorem dX3_standsAhead_136 : decode cX3_standsAhead 136 = .ok (.iload_n 3, 1) := by decide +kernel
theorem dX3_standsAhead_137 : decode cX3_standsAhead 137 = .ok (.ifCond .lt 31, 3) := by decide +kernel
theorem dX3_standsAhead_140 : decode cX3_standsAhead 140 = .ok (.iload_n 3, 1) := by decide +kernel
theorem dX3_standsAhead_141 : decode cX3_standsAhead 141 = .ok (.ifCond .ne 31, 3) := by decide +kernel
theorem dX3_standsAhead_144 : decode cX3_standsAhead 144 = .ok (.aload_n 0, 1) := by decide +kernel
theorem dX3_standsAhead_145 : decode cX3_standsAhead 145 = .ok (.getfield 21, 3) := by decide +kernel
theorem dX3_standsAhead_148 : decode cX3_standsAhead 148 = .ok (.iload_n 1, 1) := by decide +kernel
theorem dX3_standsAhead_149 : decode cX3_standsAhead 149 = .ok (.iaload, 1) := by decide +kernel
theorem dX3_standsAhead_150 : decode cX3_standsAhead 150 = .ok (.iconst 2, 1) := by decide +kernel
theorem dX3_standsAhead_151 : decode cX3_standsAhead 151 = .ok (.irem, 1) := by decide +kernel
theorem dX3_standsAhead_152 : decode cX3_standsAhead 152 = .ok (.ifCond .ne 11, 3) := by decide +kernel
theorem dX3_standsAhead_155 : decode cX3_standsAhead 155 = .ok (.iload 4, 2) := by decide +kernel
theorem dX3_standsAhead_157 : decode cX3_standsAhead 157 = .ok (.ifCond .ge 15, 3) := by decide +kernel
theorem dX3_standsAhead_160 : decode cX3_standsAhead 160 = .ok (.goto 8, 3) := by decide +kernel
theorem dX3_standsAhead_163 : decode cX3_standsAhead 163 = .ok (.iload 4, 2) := by decide +kernel
theorem dX3_standsAhead_165 : decode cX3_standsAhead 165 = .ok (.ifCond .le 7, 3) := by decide +kernel
theorem dX3_standsAhead_168 : decode cX3_standsAhead 168 = .ok (.iconst 1, 1) := by decide +kernel
theorem dX3_standsAhead_169 : decode cX3_standsAhead 169 = .ok (.goto 4, 3) := by decide +kernel
theorem dX3_standsAhead_172 : decode cX3_standsAhead 172 = .ok (.iconst 0, 1) := by decide +kernel
theorem dX3_standsAhead_173 : decode cX3_standsAhead 173 = .ok (.ireturn, 1) := by decide +kernel
theorem dX3_standsAhead_174 : decode cX3_standsAhead 174 = .ok (.iconst 0, 1) := by decide +kernel
theorem dX3_standsAhead_175 : decode cX3_standsAhead 175 = .ok (.ireturn, 1) := by decide +kernel
theorem dX3_commonMultiple_0 : decode cX3_commonMultiple 0 = .ok (.lload_n 0, 1) := by decide +kernel
theorem dX3_commonMultiple_1 : decode cX3_commonMultiple 1 = .ok (.lload_n 2, 1) := by decide +kernel
theorem dX3_commonMultiple_2 : decode cX3_commonMultiple 2 = .ok (.invokestatic 105, 3) := by decide +kernel
theorem dX3_commonMultiple_5 : decode cX3_commonMultiple 5 = .ok (.lstore 4, 2) := by decide +kernel
theorem dX3_commonMultiple_7 : decode cX3_commonMultiple 7 = .ok (.lload 4, 2) := by decide +kernel
theorem dX3_commonMultiple_9 : decode cX3_commonMultiple 9 = .ok (.lconst 1, 1) := by decide +kernel
theorem dX3_commonMultiple_10 : decode cX3_commonMultiple 10 = .ok (.lcmp, 1) := by decide +kernel
theorem dX3_commonMultiple_11 : decode cX3_commonMultiple 11 = .ok (.ifCond .ge 7, 3) := by decide +kernel
theorem dX3_commonMultiple_14 : decode cX3_commonMultiple 14 = .ok (.lconst 0, 1) := by decide +kernel
theorem dX3_commonMultiple_15 : decode cX3_commonMultiple 15 = .ok (.goto 9, 3) := by decide +kernel
theorem dX3_commonMultiple_18 : decode cX3_commonMultiple 18 = .ok (.lload_n 0, 1) := by decide +kernel
theorem dX3_commonMultiple_19 : decode cX3_commonMultiple 19 = .ok (.lload 4, 2) := by decide +kernel
theorem dX3_commonMultiple_21 : decode cX3_commonMultiple 21 = .ok (.ldiv, 1) := by decide +kernel
theorem dX3_commonMultiple_22 : decode cX3_commonMultiple 22 = .ok (.lload_n 2, 1) := by decide +kernel
theorem dX3_commonMultiple_23 : decode cX3_commonMultiple 23 = .ok (.lmul, 1) := by decide +kernel
theorem dX3_commonMultiple_24 : decode cX3_commonMultiple 24 = .ok (.lreturn, 1) := by decide +kernel
theorem dX3_oddsFit_0 : decode cX3_oddsFit 0 = .ok (.iload_n 2, 1) := by decide +kernel
theorem dX3_oddsFit_1 : decode cX3_oddsFit 1 = .ok (.iconst 1, 1) := by decide +kernel
theorem dX3_oddsFit_2 : decode cX3_oddsFit 2 = .ok (.if_icmp .lt 31, 3) := by decide +kernel
theorem dX3_oddsFit_5 : decode cX3_oddsFit 5 = .ok (.iload_n 2, 1) := by decide +kernel
theorem dX3_oddsFit_6 : decode cX3_oddsFit 6 = .ok (.bipush 60, 2) := by decide +kernel
theorem dX3_oddsFit_8 : decode cX3_oddsFit 8 = .ok (.if_icmp .gt 25, 3) := by decide +kernel
theorem dX3_oddsFit_11 : decode cX3_oddsFit 11 = .ok (.iload_n 1, 1) := by decide +kernel
theorem dX3_oddsFit_12 : decode cX3_oddsFit 12 = .ok (.iload_n 0, 1) := by decide +kernel
theorem dX3_oddsFit_13 : decode cX3_oddsFit 13 = .ok (.ifCond .ne 7, 3) := by decide +kernel
theorem dX3_oddsFit_16 : decode cX3_oddsFit 16 = .ok (.iconst 1, 1) := by decide +kernel
theorem dX3_oddsFit_17 : decode cX3_oddsFit 17 = .ok (.goto 4, 3) := by decide +kernel
theorem dX3_oddsFit_20 : decode cX3_oddsFit 20 = .ok (.iconst 0, 1) := by decide +kernel
theorem dX3_oddsFit_21 : decode cX3_oddsFit 21 = .ok (.if_icmp .lt 12, 3) := by decide +kernel
theorem dX3_oddsFit_24 : decode cX3_oddsFit 24 = .ok (.iload_n 1, 1) := by decide +kernel
theorem dX3_oddsFit_25 : decode cX3_oddsFit 25 = .ok (.iload_n 2, 1) := by decide +kernel
theorem dX3_oddsFit_26 : decode cX3_oddsFit 26 = .ok (.if_icmp .gt 7, 3) := by decide +kernel
theorem dX3_oddsFit_29 : decode cX3_oddsFit 29 = .ok (.iconst 1, 1) := by decide +kernel
theorem dX3_oddsFit_30 : decode cX3_oddsFit 30 = .ok (.goto 4, 3) := by decide +kernel
theorem dX3_oddsFit_33 : decode cX3_oddsFit 33 = .ok (.iconst 0, 1) := by decide +kernel
theorem dX3_oddsFit_34 : decode cX3_oddsFit 34 = .ok (.ireturn, 1) := by decide +kernel
theorem dX3_stratumFits_0 : decode cX3_stratumFits 0 = .ok (.iload_n 0, 1) := by decide +kernel
theorem dX3_stratumFits_1 : decode cX3_stratumFits 1 = .ok (.ifCond .lt 12, 3) := by decide +kernel
theorem dX3_stratumFits_4 : decode cX3_stratumFits 4 = .ok (.iload_n 0, 1) := by decide +kernel
theorem dX3_stratumFits_5 : decode cX3_stratumFits 5 = .ok (.iconst 3, 1) := by decide +kernel
theorem dX3_stratumFits_6 : decode cX3_stratumFits 6 = .ok (.if_icmp .gt 7, 3) := by decide +kernel
theorem dX3_stratumFits_9 : decode cX3_stratumFits 9 = .ok (.iconst 1, 1) := by decide +kernel
theorem dX3_stratumFits_10 : decode cX3_stratumFits 10 = .ok (.goto 4, 3) := by decide +kernel
theorem dX3_stratumFits_13 : decode cX3_stratumFits 13 = .ok (.iconst 0, 1) := by decide +kernel
theorem dX3_stratumFits_14 : decode cX3_stratumFits 14 = .ok (.ireturn, 1) := by decide +kernel
theorem dX3_markFits_0 : decode cX3_markFits 0 = .ok (.iload_n 0, 1) := by decide +kernel
theorem dX3_markFits_1 : decode cX3_markFits 1 = .ok (.bipush (-99), 2) := by decide +kernel
theorem dX3_markFits_3 : decode cX3_markFits 3 = .ok (.if_icmp .lt 13, 3) := by decide +kernel
theorem dX3_markFits_6 : decode cX3_markFits 6 = .ok (.iload_n 0, 1) := by decide +kernel
theorem dX3_markFits_7 : decode cX3_markFits 7 = .ok (.bipush 99, 2) := by decide +kernel
theorem dX3_markFits_9 : decode cX3_markFits 9 = .ok (.if_icmp .gt 7, 3) := by decide +kernel
theorem dX3_markFits_12 : decode cX3_markFits 12 = .ok (.iconst 1, 1) := by decide +kernel
theorem dX3_markFits_13 : decode cX3_markFits 13 = .ok (.goto 4, 3) := by decide +kernel
theorem dX3_markFits_16 : decode cX3_markFits 16 = .ok (.iconst 0, 1) := by decide +kernel
theorem dX3_markFits_17 : decode cX3_markFits 17 = .ok (.ireturn, 1) := by decide +kernel
theorem dX4_init_0 : decode cX4_init 0 = .ok (.aload_n 0, 1) := by decide +kernel
theorem dX4_init_1 : decode cX4_init 1 = .ok (.invokespecial 3, 3) := by decide +kernel
theorem dX4_init_4 : decode cX4_init 4 = .ok (.aload_n 0, 1) := by decide +kernel
theorem dX4_init_5 : decode cX4_init 5 = .ok (.iconst (-1), 1) := by decide +kernel
theorem dX4_init_6 : decode cX4_init 6 = .ok (.putfield 9, 3) := by decide +kernel
theorem dX4_init_9 : decode cX4_init 9 = .ok (.aload_n 0, 1) := by decide +kernel
theorem dX4_init_10 : decode cX4_init 10 = .ok (.bipush 15, 2) := by decide +kernel
theorem dX4_init_12 : decode cX4_init 12 = .ok (.newarray .long, 2) := by decide +kernel
theorem dX4_init_14 : decode cX4_init 14 = .ok (.putfield 15, 3) := by decide +kernel
theorem dX4_init_17 : decode cX4_init 17 = .ok (.return_, 1) := by decide +kernel
theorem dX4_become_0 : decode cX4_become 0 = .ok (.iload_n 1, 1) := by decide +kernel
theorem dX4_become_1 : decode cX4_become 1 = .ok (.bipush 15, 2) := by decide +kernel
theorem dX4_become_3 : decode cX4_become 3 = .ok (.if_icmp .le 6, 3) := by decide +kernel
theorem dX4_become_6 : decode cX4_become 6 = .ok (.bipush (-2), 2) := by decide +kernel
theorem dX4_become_8 : decode cX4_become 8 = .ok (.ireturn, 1) := by decide +kernel
theorem dX4_become_9 : decode cX4_become 9 = .ok (.iload_n 1, 1) := by decide +kernel
theorem dX4_become_10 : decode cX4_become 10 = .ok (.ifCond .ge 6, 3) := by decide +kernel
theorem dX4_become_13 : decode cX4_become 13 = .ok (.bipush (-14), 2) := by decide +kernel
theorem dX4_become_15 : decode cX4_become 15 = .ok (.ireturn, 1) := by decide +kernel
theorem dX4_become_16 : decode cX4_become 16 = .ok (.aload_n 0, 1) := by decide +kernel
theorem dX4_become_17 : decode cX4_become 17 = .ok (.iload_n 1, 1) := by decide +kernel
theorem dX4_become_18 : decode cX4_become 18 = .ok (.putfield 9, 3) := by decide +kernel
theorem dX4_become_21 : decode cX4_become 21 = .ok (.iconst 0, 1) := by decide +kernel
theorem dX4_become_22 : decode cX4_become 22 = .ok (.istore_n 2, 1) := by decide +kernel
theorem dX4_become_23 : decode cX4_become 23 = .ok (.iload_n 2, 1) := by decide +kernel
theorem dX4_become_24 : decode cX4_become 24 = .ok (.bipush 15, 2) := by decide +kernel
theorem dX4_become_26 : decode cX4_become 26 = .ok (.if_icmp .ge 16, 3) := by decide +kernel
theorem dX4_become_29 : decode cX4_become 29 = .ok (.aload_n 0, 1) := by decide +kernel
theorem dX4_become_30 : decode cX4_become 30 = .ok (.getfield 15, 3) := by decide +kernel
theorem dX4_become_33 : decode cX4_become 33 = .ok (.iload_n 2, 1) := by decide +kernel
theorem dX4_become_34 : decode cX4_become 34 = .ok (.lconst 0, 1) := by decide +kernel
theorem dX4_become_35 : decode cX4_become 35 = .ok (.lastore, 1) := by decide +kernel
theorem dX4_become_36 : decode cX4_become 36 = .ok (.iinc 2 1, 3) := by decide +kernel
theorem dX4_become_39 : decode cX4_become 39 = .ok (.goto (-16), 3) := by decide +kernel
theorem dX4_become_42 : decode cX4_become 42 = .ok (.iconst 1, 1) := by decide +kernel
theorem dX4_become_43 : decode cX4_become 43 = .ok (.ireturn, 1) := by decide +kernel
theorem dX5_init_0 : decode cX5_init 0 = .ok (.aload_n 0, 1) := by decide +kernel
theorem dX5_init_1 : decode cX5_init 1 = .ok (.invokespecial 3, 3) := by decide +kernel
theorem dX5_init_4 : decode cX5_init 4 = .ok (.aload_n 0, 1) := by decide +kernel
theorem dX5_init_5 : decode cX5_init 5 = .ok (.iconst 0, 1) := by decide +kernel
theorem dX5_init_6 : decode cX5_init 6 = .ok (.putfield 9, 3) := by decide +kernel
theorem dX5_init_9 : decode cX5_init 9 = .ok (.aload_n 0, 1) := by decide +kernel
theorem dX5_init_10 : decode cX5_init 10 = .ok (.bipush 13, 2) := by decide +kernel
theorem dX5_init_12 : decode cX5_init 12 = .ok (.newarray .long, 2) := by decide +kernel
theorem dX5_init_14 : decode cX5_init 14 = .ok (.putfield 15, 3) := by decide +kernel
theorem dX5_init_17 : decode cX5_init 17 = .ok (.aload_n 0, 1) := by decide +kernel
theorem dX5_init_18 : decode cX5_init 18 = .ok (.bipush 13, 2) := by decide +kernel
theorem dX5_init_20 : decode cX5_init 20 = .ok (.newarray .long, 2) := by decide +kernel
theorem dX5_init_22 : decode cX5_init 22 = .ok (.putfield 19, 3) := by decide +kernel
theorem dX5_init_25 : decode cX5_init 25 = .ok (.aload_n 0, 1) := by decide +kernel
theorem dX5_init_26 : decode cX5_init 26 = .ok (.bipush 13, 2) := by decide +kernel
theorem dX5_init_28 : decode cX5_init 28 = .ok (.newarray .int, 2) := by decide +kernel
theorem dX5_init_30 : decode cX5_init 30 = .ok (.putfield 22, 3) := by decide +kernel
theorem dX5_init_33 : decode cX5_init 33 = .ok (.return_, 1) := by decide +kernel
theorem dX5_trace_0 : decode cX5_trace 0 = .ok (.aload_n 0, 1) := by decide +kernel
theorem dX5_trace_1 : decode cX5_trace 1 = .ok (.iconst 0, 1) := by decide +kernel
theorem dX5_trace_2 : decode cX5_trace 2 = .ok (.putfield 9, 3) := by decide +kernel
theorem dX5_trace_5 : decode cX5_trace 5 = .ok (.lconst 0, 1) := by decide +kernel
theorem dX5_trace_6 : decode cX5_trace 6 = .ok (.lstore_n 2, 1) := by decide +kernel
theorem dX5_trace_7 : decode cX5_trace 7 = .ok (.aload_n 0, 1) := by decide +kernel
theorem dX5_trace_8 : decode cX5_trace 8 = .ok (.getfield 9, 3) := by decide +kernel
theorem dX5_trace_11 : decode cX5_trace 11 = .ok (.bipush 13, 2) := by decide +kernel
theorem dX5_trace_13 : decode cX5_trace 13 = .ok (.if_icmp .ge 72, 3) := by decide +kernel
theorem dX5_trace_16 : decode cX5_trace 16 = .ok (.lload_n 2, 1) := by decide +kernel
theorem dX5_trace_17 : decode cX5_trace 17 = .ok (.aload_n 1, 1) := by decide +kernel
theorem dX5_trace_18 : decode cX5_trace 18 = .ok (.getfield 26, 3) := by decide +kernel
theorem dX5_trace_21 : decode cX5_trace 21 = .ok (.lcmp, 1) := by decide +kernel
theorem dX5_trace_22 : decode cX5_trace 22 = .ok (.ifCond .ge 63, 3) := by decide +kernel
theorem dX5_trace_25 : decode cX5_trace 25 = .ok (.aload_n 1, 1) := by decide +kernel
theorem dX5_trace_26 : decode cX5_trace 26 = .ok (.lload_n 2, 1) := by decide +kernel
theorem dX5_trace_27 : decode cX5_trace 27 = .ok (.invokevirtual 32, 3) := by decide +kernel
theorem dX5_trace_30 : decode cX5_trace 30 = .ok (.lstore 4, 2) := by decide +kernel
theorem dX5_trace_32 : decode cX5_trace 32 = .ok (.aload_n 0, 1) := by decide +kernel
theorem dX5_trace_33 : decode cX5_trace 33 = .ok (.getfield 15, 3) := by decide +kernel
theorem dX5_trace_36 : decode cX5_trace 36 = .ok (.aload_n 0, 1) := by decide +kernel
theorem dX5_trace_37 : decode cX5_trace 37 = .ok (.getfield 9, 3) := by decide +kernel
theorem dX5_trace_40 : decode cX5_trace 40 = .ok (.lload_n 2, 1) := by decide +kernel
theorem dX5_trace_41 : decode cX5_trace 41 = .ok (.lastore, 1) := by decide +kernel
theorem dX5_trace_42 : decode cX5_trace 42 = .ok (.aload_n 0, 1) := by decide +kernel
theorem dX5_trace_43 : decode cX5_trace 43 = .ok (.getfield 19, 3) := by decide +kernel
theorem dX5_trace_46 : decode cX5_trace 46 = .ok (.aload_n 0, 1) := by decide +kernel
theorem dX5_trace_47 : decode cX5_trace 47 = .ok (.getfield 9, 3) := by decide +kernel
theorem dX5_trace_50 : decode cX5_trace 50 = .ok (.lload 4, 2) := by decide +kernel
theorem dX5_trace_52 : decode cX5_trace 52 = .ok (.lload_n 2, 1) := by decide +kernel
theorem dX5_trace_53 : decode cX5_trace 53 = .ok (.lsub, 1) := by decide +kernel
theorem dX5_trace_54 : decode cX5_trace 54 = .ok (.lastore, 1) := by decide +kernel
theorem dX5_trace_55 : decode cX5_trace 55 = .ok (.aload_n 0, 1) := by decide +kernel
theorem dX5_trace_56 : decode cX5_trace 56 = .ok (.getfield 22, 3) := by decide +kernel
theorem dX5_trace_59 : decode cX5_trace 59 = .ok (.aload_n 0, 1) := by decide +kernel
theorem dX5_trace_60 : decode cX5_trace 60 = .ok (.getfield 9, 3) := by decide +kernel
theorem dX5_trace_63 : decode cX5_trace 63 = .ok (.aload_n 1, 1) := by decide +kernel
theorem dX5_trace_64 : decode cX5_trace 64 = .ok (.lload_n 2, 1) := by decide +kernel
theorem dX5_trace_65 : decode cX5_trace 65 = .ok (.invokevirtual 36, 3) := by decide +kernel
theorem dX5_trace_68 : decode cX5_trace 68 = .ok (.iastore, 1) := by decide +kernel
theorem dX5_trace_69 : decode cX5_trace 69 = .ok (.lload 4, 2) := by decide +kernel
theorem dX5_trace_71 : decode cX5_trace 71 = .ok (.lstore_n 2, 1) := by decide +kernel
theorem dX5_trace_72 : decode cX5_trace 72 = .ok (.aload_n 0, 1) := by decide +kernel
theorem dX5_trace_73 : decode cX5_trace 73 = .ok (.dup, 1) := by decide +kernel
theorem dX5_trace_74 : decode cX5_trace 74 = .ok (.getfield 9, 3) := by decide +kernel
theorem dX5_trace_77 : decode cX5_trace 77 = .ok (.iconst 1, 1) := by decide +kernel
theorem dX5_trace_78 : decode cX5_trace 78 = .ok (.iadd, 1) := by decide +kernel
theorem dX5_trace_79 : decode cX5_trace 79 = .ok (.putfield 9, 3) := by decide +kernel
theorem dX5_trace_82 : decode cX5_trace 82 = .ok (.goto (-75), 3) := by decide +kernel
theorem dX5_trace_85 : decode cX5_trace 85 = .ok (.return_, 1) := by decide +kernel
theorem dX6_init_0 : decode cX6_init 0 = .ok (.aload_n 0, 1) := by decide +kernel
theorem dX6_init_1 : decode cX6_init 1 = .ok (.invokespecial 3, 3) := by decide +kernel
theorem dX6_init_4 : decode cX6_init 4 = .ok (.aload_n 0, 1) := by decide +kernel
theorem dX6_init_5 : decode cX6_init 5 = .ok (.iconst 0, 1) := by decide +kernel
theorem dX6_init_6 : decode cX6_init 6 = .ok (.putfield 9, 3) := by decide +kernel
theorem dX6_init_9 : decode cX6_init 9 = .ok (.aload_n 0, 1) := by decide +kernel
theorem dX6_init_10 : decode cX6_init 10 = .ok (.iconst 0, 1) := by decide +kernel
theorem dX6_init_11 : decode cX6_init 11 = .ok (.putfield 15, 3) := by decide +kernel
theorem dX6_init_14 : decode cX6_init 14 = .ok (.aload_n 0, 1) := by decide +kernel
theorem dX6_init_15 : decode cX6_init 15 = .ok (.iconst 0, 1) := by decide +kernel
theorem dX6_init_16 : decode cX6_init 16 = .ok (.putfield 18, 3) := by decide +kernel
theorem dX6_init_19 : decode cX6_init 19 = .ok (.aload_n 0, 1) := by decide +kernel
theorem dX6_init_20 : decode cX6_init 20 = .ok (.iconst 4, 1) := by decide +kernel
theorem dX6_init_21 : decode cX6_init 21 = .ok (.newarray .int, 2) := by decide +kernel
theorem dX6_init_23 : decode cX6_init 23 = .ok (.putfield 21, 3) := by decide +kernel
theorem dX6_init_26 : decode cX6_init 26 = .ok (.aload_n 0, 1) := by decide +kernel
theorem dX6_init_27 : decode cX6_init 27 = .ok (.iconst 0, 1) := by decide +kernel
theorem dX6_init_28 : decode cX6_init 28 = .ok (.putfield 25, 3) := by decide +kernel
theorem dX6_init_31 : decode cX6_init 31 = .ok (.aload_n 0, 1) := by decide +kernel
theorem dX6_init_32 : decode cX6_init 32 = .ok (.bipush 120, 2) := by decide +kernel
theorem dX6_init_34 : decode cX6_init 34 = .ok (.newarray .int, 2) := by decide +kernel
theorem dX6_init_36 : decode cX6_init 36 = .ok (.putfield 28, 3) := by decide +kernel
theorem dX6_init_39 : decode cX6_init 39 = .ok (.return_, 1) := by decide +kernel
theorem dX6_take_0 : decode cX6_take 0 = .ok (.iload_n 1, 1) := by decide +kernel
theorem dX6_take_1 : decode cX6_take 1 = .ok (.iconst 1, 1) := by decide +kernel
theorem dX6_take_2 : decode cX6_take 2 = .ok (.if_icmp .lt 9, 3) := by decide +kernel
theorem dX6_take_5 : decode cX6_take 5 = .ok (.iload_n 1, 1) := by decide +kernel
theorem dX6_take_6 : decode cX6_take 6 = .ok (.bipush 127, 2) := by decide +kernel
theorem dX6_take_8 : decode cX6_take 8 = .ok (.if_icmp .le 6, 3) := by decide +kernel
theorem dX6_take_11 : decode cX6_take 11 = .ok (.bipush (-2), 2) := by decide +kernel
theorem dX6_take_13 : decode cX6_take 13 = .ok (.ireturn, 1) := by decide +kernel
theorem dX6_take_14 : decode cX6_take 14 = .ok (.aload_n 0, 1) := by decide +kernel
theorem dX6_take_15 : decode cX6_take 15 = .ok (.getfield 9, 3) := by decide +kernel
theorem dX6_take_18 : decode cX6_take 18 = .ok (.bipush 120, 2) := by decide +kernel
theorem dX6_take_20 : decode cX6_take 20 = .ok (.if_icmp .lt 6, 3) := by decide +kernel
theorem dX6_take_23 : decode cX6_take 23 = .ok (.bipush (-4), 2) := by decide +kernel
theorem dX6_take_25 : decode cX6_take 25 = .ok (.ireturn, 1) := by decide +kernel
theorem dX6_take_26 : decode cX6_take 26 = .ok (.aload_n 0, 1) := by decide +kernel
theorem dX6_take_27 : decode cX6_take 27 = .ok (.getfield 28, 3) := by decide +kernel
theorem dX6_take_30 : decode cX6_take 30 = .ok (.aload_n 0, 1) := by decide +kernel
theorem dX6_take_31 : decode cX6_take 31 = .ok (.getfield 9, 3) := by decide +kernel
theorem dX6_take_34 : decode cX6_take 34 = .ok (.iload_n 1, 1) := by decide +kernel
theorem dX6_take_35 : decode cX6_take 35 = .ok (.iastore, 1) := by decide +kernel
theorem dX6_take_36 : decode cX6_take 36 = .ok (.aload_n 0, 1) := by decide +kernel
theorem dX6_take_37 : decode cX6_take 37 = .ok (.dup, 1) := by decide +kernel
theorem dX6_take_38 : decode cX6_take 38 = .ok (.getfield 9, 3) := by decide +kernel
theorem dX6_take_41 : decode cX6_take 41 = .ok (.iconst 1, 1) := by decide +kernel
theorem dX6_take_42 : decode cX6_take 42 = .ok (.iadd, 1) := by decide +kernel
theorem dX6_take_43 : decode cX6_take 43 = .ok (.putfield 9, 3) := by decide +kernel
theorem dX6_take_46 : decode cX6_take 46 = .ok (.aload_n 0, 1) := by decide +kernel
theorem dX6_take_47 : decode cX6_take 47 = .ok (.getfield 9, 3) := by decide +kernel
theorem dX6_take_50 : decode cX6_take 50 = .ok (.ireturn, 1) := by decide +kernel
theorem dX6_fault_0 : decode cX6_fault 0 = .ok (.iconst 0, 1) := by decide +kernel
theorem dX6_fault_1 : decode cX6_fault 1 = .ok (.istore_n 1, 1) := by decide +kernel
theorem dX6_fault_2 : decode cX6_fault 2 = .ok (.iconst 0, 1) := by decide +kernel
theorem dX6_fault_3 : decode cX6_fault 3 = .ok (.istore_n 2, 1) := by decide +kernel
theorem dX6_fault_4 : decode cX6_fault 4 = .ok (.iload_n 2, 1) := by decide +kernel
theorem dX6_fault_5 : decode cX6_fault 5 = .ok (.bipush 120, 2) := by decide +kernel
theorem dX6_fault_7 : decode cX6_fault 7 = .ok (.if_icmp .gt 60, 3) := by decide +kernel
theorem dX6_fault_10 : decode cX6_fault 10 = .ok (.aload_n 0, 1) := by decide +kernel
theorem dX6_fault_11 : decode cX6_fault 11 = .ok (.iload_n 1, 1) := by decide +kernel
theorem dX6_fault_12 : decode cX6_fault 12 = .ok (.invokevirtual 31, 3) := by decide +kernel
theorem dX6_fault_15 : decode cX6_fault 15 = .ok (.ifCond .ne 8, 3) := by decide +kernel
theorem dX6_fault_18 : decode cX6_fault 18 = .ok (.aload_n 0, 1) := by decide +kernel
theorem dX6_fault_19 : decode cX6_fault 19 = .ok (.getfield 18, 3) := by decide +kernel
theorem dX6_fault_22 : decode cX6_fault 22 = .ok (.ireturn, 1) := by decide +kernel
theorem dX6_fault_23 : decode cX6_fault 23 = .ok (.aload_n 0, 1) := by decide +kernel
theorem dX6_fault_24 : decode cX6_fault 24 = .ok (.getfield 18, 3) := by decide +kernel
theorem dX6_fault_27 : decode cX6_fault 27 = .ok (.aload_n 0, 1) := by decide +kernel
theorem dX6_fault_28 : decode cX6_fault 28 = .ok (.getfield 9, 3) := by decide +kernel
theorem dX6_fault_31 : decode cX6_fault 31 = .ok (.if_icmp .lt 5, 3) := by decide +kernel
theorem dX6_fault_34 : decode cX6_fault 34 = .ok (.iconst (-1), 1) := by decide +kernel
theorem dX6_fault_35 : decode cX6_fault 35 = .ok (.ireturn, 1) := by decide +kernel
theorem dX6_fault_36 : decode cX6_fault 36 = .ok (.aload_n 0, 1) := by decide +kernel
theorem dX6_fault_37 : decode cX6_fault 37 = .ok (.aload_n 0, 1) := by decide +kernel
theorem dX6_fault_38 : decode cX6_fault 38 = .ok (.getfield 18, 3) := by decide +kernel
theorem dX6_fault_41 : decode cX6_fault 41 = .ok (.invokevirtual 35, 3) := by decide +kernel
theorem dX6_fault_44 : decode cX6_fault 44 = .ok (.bipush 59, 2) := by decide +kernel
theorem dX6_fault_46 : decode cX6_fault 46 = .ok (.if_icmp .eq 8, 3) := by decide +kernel
theorem dX6_fault_49 : decode cX6_fault 49 = .ok (.aload_n 0, 1) := by decide +kernel
theorem dX6_fault_50 : decode cX6_fault 50 = .ok (.getfield 18, 3) := by decide +kernel
theorem dX6_fault_53 : decode cX6_fault 53 = .ok (.ireturn, 1) := by decide +kernel
theorem dX6_fault_54 : decode cX6_fault 54 = .ok (.aload_n 0, 1) := by decide +kernel
theorem dX6_fault_55 : decode cX6_fault 55 = .ok (.getfield 18, 3) := by decide +kernel
theorem dX6_fault_58 : decode cX6_fault 58 = .ok (.iconst 1, 1) := by decide +kernel
theorem dX6_fault_59 : decode cX6_fault 59 = .ok (.iadd, 1) := by decide +kernel
theorem dX6_fault_60 : decode cX6_fault 60 = .ok (.istore_n 1, 1) := by decide +kernel
theorem dX6_fault_61 : decode cX6_fault 61 = .ok (.iinc 2 1, 3) := by decide +kernel
theorem dX6_fault_64 : decode cX6_fault 64 = .ok (.goto (-60), 3) := by decide +kernel
theorem dX6_fault_67 : decode cX6_fault 67 = .ok (.aload_n 0, 1) := by decide +kernel
theorem dX6_fault_68 : decode cX6_fault 68 = .ok (.getfield 18, 3) := by decide +kernel
theorem dX6_fault_71 : decode cX6_fault 71 = .ok (.ireturn, 1) := by decide +kernel
theorem dX6_readClause_0 : decode cX6_readClause 0 = .ok (.aload_n 0, 1) := by decide +kernel
theorem dX6_readClause_1 : decode cX6_readClause 1 = .ok (.aload_n 0, 1) := by decide +kernel
theorem dX6_readClause_2 : decode cX6_readClause 2 = .ok (.iload_n 1, 1) := by decide +kernel
theorem dX6_readClause_3 : decode cX6_readClause 3 = .ok (.invokevirtual 35, 3) := by decide +kernel
theorem dX6_readClause_6 : decode cX6_readClause 6 = .ok (.putfield 15, 3) := by decide +kernel
theorem dX6_readClause_9 : decode cX6_readClause 9 = .ok (.aload_n 0, 1) := by decide +kernel
theorem dX6_readClause_10 : decode cX6_readClause 10 = .ok (.iload_n 1, 1) := by decide +kernel
theorem dX6_readClause_11 : decode cX6_readClause 11 = .ok (.putfield 18, 3) := by decide +kernel
theorem dX6_readClause_14 : decode cX6_readClause 14 = .ok (.aload_n 0, 1) := by decide +kernel
theorem dX6_readClause_15 : decode cX6_readClause 15 = .ok (.iconst 0, 1) := by decide +kernel
theorem dX6_readClause_16 : decode cX6_readClause 16 = .ok (.putfield 25, 3) := by decide +kernel
theorem dX6_readClause_19 : decode cX6_readClause 19 = .ok (.aload_n 0, 1) := by decide +kernel
theorem dX6_readClause_20 : decode cX6_readClause 20 = .ok (.getfield 15, 3) := by decide +kernel
theorem dX6_readClause_23 : decode cX6_readClause 23 = .ok (.invokestatic 39, 3) := by decide +kernel
theorem dX6_readClause_26 : decode cX6_readClause 26 = .ok (.astore_n 2, 1) := by decide +kernel
theorem dX6_readClause_27 : decode cX6_readClause 27 = .ok (.aload_n 2, 1) := by decide +kernel
theorem dX6_readClause_28 : decode cX6_readClause 28 = .ok (.invokevirtual 43, 3) := by decide +kernel
theorem dX6_readClause_31 : decode cX6_readClause 31 = .ok (.ifCond .eq 5, 3) := by decide +kernel
theorem dX6_readClause_34 : decode cX6_readClause 34 = .ok (.iconst 0, 1) := by decide +kernel
theorem dX6_readClause_35 : decode cX6_readClause 35 = .ok (.ireturn, 1) := by decide +kernel
theorem dX6_readClause_36 : decode cX6_readClause 36 = .ok (.aload_n 0, 1) := by decide +kernel
theorem dX6_readClause_37 : decode cX6_readClause 37 = .ok (.dup, 1) := by decide +kernel
theorem dX6_readClause_38 : decode cX6_readClause 38 = .ok (.getfield 18, 3) := by decide +kernel
theorem dX6_readClause_41 : decode cX6_readClause 41 = .ok (.iconst 1, 1) := by decide +kernel
theorem dX6_readClause_42 : decode cX6_readClause 42 = .ok (.iadd, 1) := by decide +kernel
theorem dX6_readClause_43 : decode cX6_readClause 43 = .ok (.putfield 18, 3) := by decide +kernel
theorem dX6_readClause_46 : decode cX6_readClause 46 = .ok (.iconst 0, 1) := by decide +kernel
theorem dX6_readClause_47 : decode cX6_readClause 47 = .ok (.istore_n 3, 1) := by decide +kernel
theorem dX6_readClause_48 : decode cX6_readClause 48 = .ok (.iload_n 3, 1) := by decide +kernel
theorem dX6_readClause_49 : decode cX6_readClause 49 = .ok (.aload_n 2, 1) := by decide +kernel
theorem dX6_readClause_50 : decode cX6_readClause 50 = .ok (.invokevirtual 49, 3) := by decide +kernel
theorem dX6_readClause_53 : decode cX6_readClause 53 = .ok (.if_icmp .ge 23, 3) := by decide +kernel
theorem dX6_readClause_56 : decode cX6_readClause 56 = .ok (.aload_n 0, 1) := by decide +kernel
theorem dX6_readClause_57 : decode cX6_readClause 57 = .ok (.aload_n 2, 1) := by decide +kernel
theorem dX6_readClause_58 : decode cX6_readClause 58 = .ok (.iload_n 3, 1) := by decide +kernel
theorem dX6_readClause_59 : decode cX6_readClause 59 = .ok (.invokevirtual 52, 3) := by decide +kernel
theorem dX6_readClause_62 : decode cX6_readClause 62 = .ok (.invokevirtual 56, 3) := by decide +kernel
theorem dX6_readClause_65 : decode cX6_readClause 65 = .ok (.ifCond .ne 5, 3) := by decide +kernel
theorem dX6_readClause_68 : decode cX6_readClause 68 = .ok (.iconst 0, 1) := by decide +kernel
theorem dX6_readClause_69 : decode cX6_readClause 69 = .ok (.ireturn, 1) := by decide +kernel
theorem dX6_readClause_70 : decode cX6_readClause 70 = .ok (.iinc 3 1, 3) := by decide +kernel
theorem dX6_readClause_73 : decode cX6_readClause 73 = .ok (.goto (-25), 3) := by decide +kernel
theorem dX6_readClause_76 : decode cX6_readClause 76 = .ok (.iconst 1, 1) := by decide +kernel
theorem dX6_readClause_77 : decode cX6_readClause 77 = .ok (.ireturn, 1) := by decide +kernel
theorem dX6_shapeOf_0 : decode cX6_shapeOf 0 = .ok (.iload_n 0, 1) := by decide +kernel
theorem dX6_shapeOf_1 : decode cX6_shapeOf 1 = .ok (.tableswitch 74 110 120 #[62, 65, 74, 74, 68, 62, 74, 59, 74, 74, 71], 59) := by decide +kernel
theorem dX6_shapeOf_60 : decode cX6_shapeOf 60 = .ok (.ldc 60, 2) := by decide +kernel
theorem dX6_shapeOf_62 : decode cX6_shapeOf 62 = .ok (.areturn, 1) := by decide +kernel
theorem dX6_shapeOf_63 : decode cX6_shapeOf 63 = .ok (.ldc 62, 2) := by decide +kernel
theorem dX6_shapeOf_65 : decode cX6_shapeOf 65 = .ok (.areturn, 1) := by decide +kernel
theorem dX6_shapeOf_66 : decode cX6_shapeOf 66 = .ok (.ldc 64, 2) := by decide +kernel
theorem dX6_shapeOf_68 : decode cX6_shapeOf 68 = .ok (.areturn, 1) := by decide +kernel
theorem dX6_shapeOf_69 : decode cX6_shapeOf 69 = .ok (.ldc 66, 2) := by decide +kernel
theorem dX6_shapeOf_71 : decode cX6_shapeOf 71 = .ok (.areturn, 1) := by decide +kernel
theorem dX6_shapeOf_72 : decode cX6_shapeOf 72 = .ok (.ldc 68, 2) := by decide +kernel
theorem dX6_shapeOf_74 : decode cX6_shapeOf 74 = .ok (.areturn, 1) := by decide +kernel
theorem dX6_shapeOf_75 : decode cX6_shapeOf 75 = .ok (.ldc 70, 2) := by decide +kernel
theorem dX6_shapeOf_77 : decode cX6_shapeOf 77 = .ok (.areturn, 1) := by decide +kernel
theorem dX6_readSign_0 : decode cX6_readSign 0 = .ok (.iload_n 1, 1) := by decide +kernel
theorem dX6_readSign_1 : decode cX6_readSign 1 = .ok (.lookupswitch 69 #[(68, 35), (77, 49), (78, 42)], 35) := by decide +kernel
theorem dX6_readSign_36 : decode cX6_readSign 36 = .ok (.aload_n 0, 1) := by decide +kernel
theorem dX6_readSign_37 : decode cX6_readSign 37 = .ok (.iconst 1, 1) := by decide +kernel
theorem dX6_readSign_38 : decode cX6_readSign 38 = .ok (.iconst 1, 1) := by decide +kernel
theorem dX6_readSign_39 : decode cX6_readSign 39 = .ok (.invokevirtual 72, 3) := by decide +kernel
theorem dX6_readSign_42 : decode cX6_readSign 42 = .ok (.ireturn, 1) := by decide +kernel
theorem dX6_readSign_43 : decode cX6_readSign 43 = .ok (.aload_n 0, 1) := by decide +kernel
theorem dX6_readSign_44 : decode cX6_readSign 44 = .ok (.iconst 2, 1) := by decide +kernel
theorem dX6_readSign_45 : decode cX6_readSign 45 = .ok (.iconst 1, 1) := by decide +kernel
theorem dX6_readSign_46 : decode cX6_readSign 46 = .ok (.invokevirtual 72, 3) := by decide +kernel
theorem dX6_readSign_49 : decode cX6_readSign 49 = .ok (.ireturn, 1) := by decide +kernel
theorem dX6_readSign_50 : decode cX6_readSign 50 = .ok (.aload_n 0, 1) := by decide +kernel
theorem dX6_readSign_51 : decode cX6_readSign 51 = .ok (.iconst 2, 1) := by decide +kernel
theorem dX6_readSign_52 : decode cX6_readSign 52 = .ok (.aload_n 0, 1) := by decide +kernel
theorem dX6_readSign_53 : decode cX6_readSign 53 = .ok (.bipush 45, 2) := by decide +kernel
theorem dX6_readSign_55 : decode cX6_readSign 55 = .ok (.invokevirtual 76, 3) := by decide +kernel
theorem dX6_readSign_58 : decode cX6_readSign 58 = .ok (.ifCond .eq 7, 3) := by decide +kernel
theorem dX6_readSign_61 : decode cX6_readSign 61 = .ok (.iconst (-1), 1) := by decide +kernel
theorem dX6_readSign_62 : decode cX6_readSign 62 = .ok (.goto 4, 3) := by decide +kernel
theorem dX6_readSign_65 : decode cX6_readSign 65 = .ok (.iconst 1, 1) := by decide +kernel
theorem dX6_readSign_66 : decode cX6_readSign 66 = .ok (.invokevirtual 72, 3) := by decide +kernel
theorem dX6_readSign_69 : decode cX6_readSign 69 = .ok (.ireturn, 1) := by decide +kernel
theorem dX6_readSign_70 : decode cX6_readSign 70 = .ok (.aload_n 0, 1) := by decide +kernel
theorem dX6_readSign_71 : decode cX6_readSign 71 = .ok (.iload_n 1, 1) := by decide +kernel
theorem dX6_readSign_72 : decode cX6_readSign 72 = .ok (.invokevirtual 76, 3) := by decide +kernel
theorem dX6_readSign_75 : decode cX6_readSign 75 = .ok (.ireturn, 1) := by decide +kernel
theorem dX6_readsByte_0 : decode cX6_readsByte 0 = .ok (.aload_n 0, 1) := by decide +kernel
theorem dX6_readsByte_1 : decode cX6_readsByte 1 = .ok (.aload_n 0, 1) := by decide +kernel
theorem dX6_readsByte_2 : decode cX6_readsByte 2 = .ok (.getfield 18, 3) := by decide +kernel
theorem dX6_readsByte_5 : decode cX6_readsByte 5 = .ok (.invokevirtual 35, 3) := by decide +kernel
theorem dX6_readsByte_8 : decode cX6_readsByte 8 = .ok (.iload_n 1, 1) := by decide +kernel
theorem dX6_readsByte_9 : decode cX6_readsByte 9 = .ok (.if_icmp .ne 7, 3) := by decide +kernel
theorem dX6_readsByte_12 : decode cX6_readsByte 12 = .ok (.iconst 1, 1) := by decide +kernel
theorem dX6_readsByte_13 : decode cX6_readsByte 13 = .ok (.goto 4, 3) := by decide +kernel
theorem dX6_readsByte_16 : decode cX6_readsByte 16 = .ok (.iconst 0, 1) := by decide +kernel
theorem dX6_readsByte_17 : decode cX6_readsByte 17 = .ok (.istore_n 2, 1) := by decide +kernel
theorem dX6_readsByte_18 : decode cX6_readsByte 18 = .ok (.aload_n 0, 1) := by decide +kernel
theorem dX6_readsByte_19 : decode cX6_readsByte 19 = .ok (.dup, 1) := by decide +kernel
theorem dX6_readsByte_20 : decode cX6_readsByte 20 = .ok (.getfield 18, 3) := by decide +kernel
theorem dX6_readsByte_23 : decode cX6_readsByte 23 = .ok (.iload_n 2, 1) := by decide +kernel
theorem dX6_readsByte_24 : decode cX6_readsByte 24 = .ok (.ifCond .eq 7, 3) := by decide +kernel
theorem dX6_readsByte_27 : decode cX6_readsByte 27 = .ok (.iconst 1, 1) := by decide +kernel
theorem dX6_readsByte_28 : decode cX6_readsByte 28 = .ok (.goto 4, 3) := by decide +kernel
theorem dX6_readsByte_31 : decode cX6_readsByte 31 = .ok (.iconst 0, 1) := by decide +kernel
theorem dX6_readsByte_32 : decode cX6_readsByte 32 = .ok (.iadd, 1) := by decide +kernel
theorem dX6_readsByte_33 : decode cX6_readsByte 33 = .ok (.putfield 18, 3) := by decide +kernel
theorem dX6_readsByte_36 : decode cX6_readsByte 36 = .ok (.iload_n 2, 1) := by decide +kernel
theorem dX6_readsByte_37 : decode cX6_readsByte 37 = .ok (.ireturn, 1) := by decide +kernel
theorem dX6_readNumber_0 : decode cX6_readNumber 0 = .ok (.iconst 0, 1) := by decide +kernel
theorem dX6_readNumber_1 : decode cX6_readNumber 1 = .ok (.istore_n 3, 1) := by decide +kernel
theorem dX6_readNumber_2 : decode cX6_readNumber 2 = .ok (.iconst 0, 1) := by decide +kernel
theorem dX6_readNumber_3 : decode cX6_readNumber 3 = .ok (.istore 4, 2) := by decide +kernel
theorem dX6_readNumber_5 : decode cX6_readNumber 5 = .ok (.iload_n 3, 1) := by decide +kernel
theorem dX6_readNumber_6 : decode cX6_readNumber 6 = .ok (.iload_n 1, 1) := by decide +kernel
theorem dX6_readNumber_7 : decode cX6_readNumber 7 = .ok (.if_icmp .ge 52, 3) := by decide +kernel
theorem dX6_readNumber_10 : decode cX6_readNumber 10 = .ok (.aload_n 0, 1) := by decide +kernel
theorem dX6_readNumber_11 : decode cX6_readNumber 11 = .ok (.aload_n 0, 1) := by decide +kernel
theorem dX6_readNumber_12 : decode cX6_readNumber 12 = .ok (.getfield 18, 3) := by decide +kernel
theorem dX6_readNumber_15 : decode cX6_readNumber 15 = .ok (.invokevirtual 35, 3) := by decide +kernel
theorem dX6_readNumber_18 : decode cX6_readNumber 18 = .ok (.invokestatic 79, 3) := by decide +kernel
theorem dX6_readNumber_21 : decode cX6_readNumber 21 = .ok (.ifCond .eq 38, 3) := by decide +kernel
theorem dX6_readNumber_24 : decode cX6_readNumber 24 = .ok (.bipush 10, 2) := by decide +kernel
theorem dX6_readNumber_26 : decode cX6_readNumber 26 = .ok (.iload 4, 2) := by decide +kernel
theorem dX6_readNumber_28 : decode cX6_readNumber 28 = .ok (.imul, 1) := by decide +kernel
theorem dX6_readNumber_29 : decode cX6_readNumber 29 = .ok (.aload_n 0, 1) := by decide +kernel
theorem dX6_readNumber_30 : decode cX6_readNumber 30 = .ok (.aload_n 0, 1) := by decide +kernel
theorem dX6_readNumber_31 : decode cX6_readNumber 31 = .ok (.getfield 18, 3) := by decide +kernel
theorem dX6_readNumber_34 : decode cX6_readNumber 34 = .ok (.invokevirtual 35, 3) := by decide +kernel
theorem dX6_readNumber_37 : decode cX6_readNumber 37 = .ok (.iadd, 1) := by decide +kernel
theorem dX6_readNumber_38 : decode cX6_readNumber 38 = .ok (.bipush 48, 2) := by decide +kernel
theorem dX6_readNumber_40 : decode cX6_readNumber 40 = .ok (.isub, 1) := by decide +kernel
theorem dX6_readNumber_41 : decode cX6_readNumber 41 = .ok (.istore 4, 2) := by decide +kernel
theorem dX6_readNumber_43 : decode cX6_readNumber 43 = .ok (.aload_n 0, 1) := by decide +kernel
theorem dX6_readNumber_44 : decode cX6_readNumber 44 = .ok (.dup, 1) := by decide +kernel
theorem dX6_readNumber_45 : decode cX6_readNumber 45 = .ok (.getfield 18, 3) := by decide +kernel
theorem dX6_readNumber_48 : decode cX6_readNumber 48 = .ok (.iconst 1, 1) := by decide +kernel
theorem dX6_readNumber_49 : decode cX6_readNumber 49 = .ok (.iadd, 1) := by decide +kernel
theorem dX6_readNumber_50 : decode cX6_readNumber 50 = .ok (.putfield 18, 3) := by decide +kernel
theorem dX6_readNumber_53 : decode cX6_readNumber 53 = .ok (.iinc 3 1, 3) := by decide +kernel
theorem dX6_readNumber_56 : decode cX6_readNumber 56 = .ok (.goto (-51), 3) := by decide +kernel
theorem dX6_readNumber_59 : decode cX6_readNumber 59 = .ok (.iload_n 3, 1) := by decide +kernel
theorem dX6_readNumber_60 : decode cX6_readNumber 60 = .ok (.ifCond .le 34, 3) := by decide +kernel
theorem dX6_readNumber_63 : decode cX6_readNumber 63 = .ok (.aload_n 0, 1) := by decide +kernel
theorem dX6_readNumber_64 : decode cX6_readNumber 64 = .ok (.getfield 25, 3) := by decide +kernel
theorem dX6_readNumber_67 : decode cX6_readNumber 67 = .ok (.iconst 4, 1) := by decide +kernel
theorem dX6_readNumber_68 : decode cX6_readNumber 68 = .ok (.if_icmp .ge 26, 3) := by decide +kernel
theorem dX6_readNumber_71 : decode cX6_readNumber 71 = .ok (.aload_n 0, 1) := by decide +kernel
theorem dX6_readNumber_72 : decode cX6_readNumber 72 = .ok (.getfield 21, 3) := by decide +kernel
theorem dX6_readNumber_75 : decode cX6_readNumber 75 = .ok (.aload_n 0, 1) := by decide +kernel
theorem dX6_readNumber_76 : decode cX6_readNumber 76 = .ok (.getfield 25, 3) := by decide +kernel
theorem dX6_readNumber_79 : decode cX6_readNumber 79 = .ok (.iload_n 2, 1) := by decide +kernel
theorem dX6_readNumber_80 : decode cX6_readNumber 80 = .ok (.iload 4, 2) := by decide +kernel
theorem dX6_readNumber_82 : decode cX6_readNumber 82 = .ok (.imul, 1) := by decide +kernel
theorem dX6_readNumber_83 : decode cX6_readNumber 83 = .ok (.iastore, 1) := by decide +kernel
theorem dX6_readNumber_84 : decode cX6_readNumber 84 = .ok (.aload_n 0, 1) := by decide +kernel
theorem dX6_readNumber_85 : decode cX6_readNumber 85 = .ok (.dup, 1) := by decide +kernel
theorem dX6_readNumber_86 : decode cX6_readNumber 86 = .ok (.getfield 25, 3) := by decide +kernel
theorem dX6_readNumber_89 : decode cX6_readNumber 89 = .ok (.iconst 1, 1) := by decide +kernel
theorem dX6_readNumber_90 : decode cX6_readNumber 90 = .ok (.iadd, 1) := by decide +kernel
theorem dX6_readNumber_91 : decode cX6_readNumber 91 = .ok (.putfield 25, 3) := by decide +kernel
theorem dX6_readNumber_94 : decode cX6_readNumber 94 = .ok (.iload_n 3, 1) := by decide +kernel
theorem dX6_readNumber_95 : decode cX6_readNumber 95 = .ok (.ifCond .le 7, 3) := by decide +kernel
theorem dX6_readNumber_98 : decode cX6_readNumber 98 = .ok (.iconst 1, 1) := by decide +kernel
theorem dX6_readNumber_99 : decode cX6_readNumber 99 = .ok (.goto 4, 3) := by decide +kernel
theorem dX6_readNumber_102 : decode cX6_readNumber 102 = .ok (.iconst 0, 1) := by decide +kernel
theorem dX6_readNumber_103 : decode cX6_readNumber 103 = .ok (.ireturn, 1) := by decide +kernel
theorem dX6_byteAt_0 : decode cX6_byteAt 0 = .ok (.iload_n 1, 1) := by decide +kernel
theorem dX6_byteAt_1 : decode cX6_byteAt 1 = .ok (.ifCond .lt 20, 3) := by decide +kernel
theorem dX6_byteAt_4 : decode cX6_byteAt 4 = .ok (.iload_n 1, 1) := by decide +kernel
theorem dX6_byteAt_5 : decode cX6_byteAt 5 = .ok (.aload_n 0, 1) := by decide +kernel
theorem dX6_byteAt_6 : decode cX6_byteAt 6 = .ok (.getfield 9, 3) := by decide +kernel
theorem dX6_byteAt_9 : decode cX6_byteAt 9 = .ok (.if_icmp .ge 12, 3) := by decide +kernel
theorem dX6_byteAt_12 : decode cX6_byteAt 12 = .ok (.aload_n 0, 1) := by decide +kernel
theorem dX6_byteAt_13 : decode cX6_byteAt 13 = .ok (.getfield 28, 3) := by decide +kernel
theorem dX6_byteAt_16 : decode cX6_byteAt 16 = .ok (.iload_n 1, 1) := by decide +kernel
theorem dX6_byteAt_17 : decode cX6_byteAt 17 = .ok (.iaload, 1) := by decide +kernel
theorem dX6_byteAt_18 : decode cX6_byteAt 18 = .ok (.goto 4, 3) := by decide +kernel
theorem dX6_byteAt_21 : decode cX6_byteAt 21 = .ok (.iconst 0, 1) := by decide +kernel
theorem dX6_byteAt_22 : decode cX6_byteAt 22 = .ok (.ireturn, 1) := by decide +kernel
theorem dX6_isDigit_0 : decode cX6_isDigit 0 = .ok (.iload_n 0, 1) := by decide +kernel
theorem dX6_isDigit_1 : decode cX6_isDigit 1 = .ok (.bipush 48, 2) := by decide +kernel
theorem dX6_isDigit_3 : decode cX6_isDigit 3 = .ok (.if_icmp .lt 13, 3) := by decide +kernel
theorem dX6_isDigit_6 : decode cX6_isDigit 6 = .ok (.iload_n 0, 1) := by decide +kernel
theorem dX6_isDigit_7 : decode cX6_isDigit 7 = .ok (.bipush 57, 2) := by decide +kernel
theorem dX6_isDigit_9 : decode cX6_isDigit 9 = .ok (.if_icmp .gt 7, 3) := by decide +kernel
theorem dX6_isDigit_12 : decode cX6_isDigit 12 = .ok (.iconst 1, 1) := by decide +kernel
theorem dX6_isDigit_13 : decode cX6_isDigit 13 = .ok (.goto 4, 3) := by decide +kernel
theorem dX6_isDigit_16 : decode cX6_isDigit 16 = .ok (.iconst 0, 1) := by decide +kernel
theorem dX6_isDigit_17 : decode cX6_isDigit 17 = .ok (.ireturn, 1) := by decide +kernel
theorem dX7_init_0 : decode cX7_init 0 = .ok (.aload_n 0, 1) := by decide +kernel
theorem dX7_init_1 : decode cX7_init 1 = .ok (.invokespecial 3, 3) := by decide +kernel
theorem dX7_init_4 : decode cX7_init 4 = .ok (.aload_n 0, 1) := by decide +kernel
theorem dX7_init_5 : decode cX7_init 5 = .ok (.lconst 1, 1) := by decide +kernel
theorem dX7_init_6 : decode cX7_init 6 = .ok (.putfield 9, 3) := by decide +kernel
theorem dX7_init_9 : decode cX7_init 9 = .ok (.aload_n 0, 1) := by decide +kernel
theorem dX7_init_10 : decode cX7_init 10 = .ok (.bipush 12, 2) := by decide +kernel
theorem dX7_init_12 : decode cX7_init 12 = .ok (.newarray .long, 2) := by decide +kernel
theorem dX7_init_14 : decode cX7_init 14 = .ok (.putfield 15, 3) := by decide +kernel
theorem dX7_init_17 : decode cX7_init 17 = .ok (.aload_n 0, 1) := by decide +kernel
theorem dX7_init_18 : decode cX7_init 18 = .ok (.bipush 12, 2) := by decide +kernel
theorem dX7_init_20 : decode cX7_init 20 = .ok (.newarray .long, 2) := by decide +kernel
theorem dX7_init_22 : decode cX7_init 22 = .ok (.putfield 19, 3) := by decide +kernel
theorem dX7_init_25 : decode cX7_init 25 = .ok (.return_, 1) := by decide +kernel
theorem dX7_lay_0 : decode cX7_lay 0 = .ok (.aload_n 0, 1) := by decide +kernel
theorem dX7_lay_1 : decode cX7_lay 1 = .ok (.lload_n 3, 1) := by decide +kernel
theorem dX7_lay_2 : decode cX7_lay 2 = .ok (.putfield 9, 3) := by decide +kernel
theorem dX7_lay_5 : decode cX7_lay 5 = .ok (.iconst 0, 1) := by decide +kernel
theorem dX7_lay_6 : decode cX7_lay 6 = .ok (.istore 6, 2) := by decide +kernel
theorem dX7_lay_8 : decode cX7_lay 8 = .ok (.iload 6, 2) := by decide +kernel
theorem dX7_lay_10 : decode cX7_lay 10 = .ok (.bipush 12, 2) := by decide +kernel
theorem dX7_lay_12 : decode cX7_lay 12 = .ok (.if_icmp .ge 25, 3) := by decide +kernel
theorem dX7_lay_15 : decode cX7_lay 15 = .ok (.aload_n 0, 1) := by decide +kernel
theorem dX7_lay_16 : decode cX7_lay 16 = .ok (.getfield 15, 3) := by decide +kernel
theorem dX7_lay_19 : decode cX7_lay 19 = .ok (.iload 6, 2) := by decide +kernel
theorem dX7_lay_21 : decode cX7_lay 21 = .ok (.lconst 0, 1) := by decide +kernel
theorem dX7_lay_22 : decode cX7_lay 22 = .ok (.lastore, 1) := by decide +kernel
theorem dX7_lay_23 : decode cX7_lay 23 = .ok (.aload_n 0, 1) := by decide +kernel
theorem dX7_lay_24 : decode cX7_lay 24 = .ok (.getfield 19, 3) := by decide +kernel
theorem dX7_lay_27 : decode cX7_lay 27 = .ok (.iload 6, 2) := by decide +kernel
theorem dX7_lay_29 : decode cX7_lay 29 = .ok (.lconst 0, 1) := by decide +kernel
theorem dX7_lay_30 : decode cX7_lay 30 = .ok (.lastore, 1) := by decide +kernel
theorem dX7_lay_31 : decode cX7_lay 31 = .ok (.iinc 6 1, 3) := by decide +kernel
theorem dX7_lay_34 : decode cX7_lay 34 = .ok (.goto (-26), 3) := by decide +kernel
theorem dX7_lay_37 : decode cX7_lay 37 = .ok (.lconst 0, 1) := by decide +kernel
theorem dX7_lay_38 : decode cX7_lay 38 = .ok (.lstore 6, 2) := by decide +kernel
theorem dX7_lay_40 : decode cX7_lay 40 = .ok (.iconst 0, 1) := by decide +kernel
theorem dX7_lay_41 : decode cX7_lay 41 = .ok (.istore 8, 2) := by decide +kernel
theorem dX7_lay_43 : decode cX7_lay 43 = .ok (.iload 8, 2) := by decide +kernel
theorem dX7_lay_45 : decode cX7_lay 45 = .ok (.aload_n 1, 1) := by decide +kernel
theorem dX7_lay_46 : decode cX7_lay 46 = .ok (.getfield 22, 3) := by decide +kernel
theorem dX7_lay_49 : decode cX7_lay 49 = .ok (.if_icmp .ge 80, 3) := by decide +kernel
theorem dX7_lay_52 : decode cX7_lay 52 = .ok (.lload_n 3, 1) := by decide +kernel
theorem dX7_lay_53 : decode cX7_lay 53 = .ok (.lconst 0, 1) := by decide +kernel
theorem dX7_lay_54 : decode cX7_lay 54 = .ok (.lcmp, 1) := by decide +kernel
theorem dX7_lay_55 : decode cX7_lay 55 = .ok (.ifCond .le 74, 3) := by decide +kernel
theorem dX7_lay_58 : decode cX7_lay 58 = .ok (.aload_n 1, 1) := by decide +kernel
theorem dX7_lay_59 : decode cX7_lay 59 = .ok (.iload 8, 2) := by decide +kernel
theorem dX7_lay_61 : decode cX7_lay 61 = .ok (.invokevirtual 28, 3) := by decide +kernel
theorem dX7_lay_64 : decode cX7_lay 64 = .ok (.istore 9, 2) := by decide +kernel
theorem dX7_lay_66 : decode cX7_lay 66 = .ok (.aload_n 1, 1) := by decide +kernel
theorem dX7_lay_67 : decode cX7_lay 67 = .ok (.iload 9, 2) := by decide +kernel
theorem dX7_lay_69 : decode cX7_lay 69 = .ok (.invokevirtual 32, 3) := by decide +kernel
theorem dX7_lay_72 : decode cX7_lay 72 = .ok (.ifCond .eq 51, 3) := by decide +kernel
theorem dX7_lay_75 : decode cX7_lay 75 = .ok (.iload 5, 2) := by decide +kernel
theorem dX7_lay_77 : decode cX7_lay 77 = .ok (.iload 9, 2) := by decide +kernel
theorem dX7_lay_79 : decode cX7_lay 79 = .ok (.invokestatic 36, 3) := by decide +kernel
theorem dX7_lay_82 : decode cX7_lay 82 = .ok (.ifCond .eq 41, 3) := by decide +kernel
theorem dX7_lay_85 : decode cX7_lay 85 = .ok (.aload_n 0, 1) := by decide +kernel
theorem dX7_lay_86 : decode cX7_lay 86 = .ok (.getfield 15, 3) := by decide +kernel
theorem dX7_lay_89 : decode cX7_lay 89 = .ok (.iload 9, 2) := by decide +kernel
theorem dX7_lay_91 : decode cX7_lay 91 = .ok (.lload 6, 2) := by decide +kernel
theorem dX7_lay_93 : decode cX7_lay 93 = .ok (.lastore, 1) := by decide +kernel
theorem dX7_lay_94 : decode cX7_lay 94 = .ok (.aload_n 0, 1) := by decide +kernel
theorem dX7_lay_95 : decode cX7_lay 95 = .ok (.getfield 19, 3) := by decide +kernel
theorem dX7_lay_98 : decode cX7_lay 98 = .ok (.iload 9, 2) := by decide +kernel
theorem dX7_lay_100 : decode cX7_lay 100 = .ok (.aload_n 1, 1) := by decide +kernel
theorem dX7_lay_101 : decode cX7_lay 101 = .ok (.iload 9, 2) := by decide +kernel
theorem dX7_lay_103 : decode cX7_lay 103 = .ok (.iload_n 2, 1) := by decide +kernel
theorem dX7_lay_104 : decode cX7_lay 104 = .ok (.lload_n 3, 1) := by decide +kernel
theorem dX7_lay_105 : decode cX7_lay 105 = .ok (.invokevirtual 40, 3) := by decide +kernel
theorem dX7_lay_108 : decode cX7_lay 108 = .ok (.lastore, 1) := by decide +kernel
theorem dX7_lay_109 : decode cX7_lay 109 = .ok (.lload 6, 2) := by decide +kernel
theorem dX7_lay_111 : decode cX7_lay 111 = .ok (.aload_n 0, 1) := by decide +kernel
theorem dX7_lay_112 : decode cX7_lay 112 = .ok (.getfield 19, 3) := by decide +kernel
theorem dX7_lay_115 : decode cX7_lay 115 = .ok (.iload 9, 2) := by decide +kernel
theorem dX7_lay_117 : decode cX7_lay 117 = .ok (.laload, 1) := by decide +kernel
theorem dX7_lay_118 : decode cX7_lay 118 = .ok (.ladd, 1) := by decide +kernel
theorem dX7_lay_119 : decode cX7_lay 119 = .ok (.lload_n 3, 1) := by decide +kernel
theorem dX7_lay_120 : decode cX7_lay 120 = .ok (.lrem, 1) := by decide +kernel
theorem dX7_lay_121 : decode cX7_lay 121 = .ok (.lstore 6, 2) := by decide +kernel
theorem dX7_lay_123 : decode cX7_lay 123 = .ok (.iinc 8 1, 3) := by decide +kernel
theorem dX7_lay_126 : decode cX7_lay 126 = .ok (.goto (-83), 3) := by decide +kernel
theorem dX7_lay_129 : decode cX7_lay 129 = .ok (.return_, 1) := by decide +kernel
theorem dX7_hasPlace_0 : decode cX7_hasPlace 0 = .ok (.iload_n 1, 1) := by decide +kernel
theorem dX7_hasPlace_1 : decode cX7_hasPlace 1 = .ok (.ifCond .lt 17, 3) := by decide +kernel
theorem dX7_hasPlace_4 : decode cX7_hasPlace 4 = .ok (.iload_n 1, 1) := by decide +kernel
theorem dX7_hasPlace_5 : decode cX7_hasPlace 5 = .ok (.i2l, 1) := by decide +kernel
theorem dX7_hasPlace_6 : decode cX7_hasPlace 6 = .ok (.aload_n 0, 1) := by decide +kernel
theorem dX7_hasPlace_7 : decode cX7_hasPlace 7 = .ok (.getfield 9, 3) := by decide +kernel
theorem dX7_hasPlace_10 : decode cX7_hasPlace 10 = .ok (.lcmp, 1) := by decide +kernel
theorem dX7_hasPlace_11 : decode cX7_hasPlace 11 = .ok (.ifCond .ge 7, 3) := by decide +kernel
theorem dX7_hasPlace_14 : decode cX7_hasPlace 14 = .ok (.iconst 1, 1) := by decide +kernel
theorem dX7_hasPlace_15 : decode cX7_hasPlace 15 = .ok (.goto 4, 3) := by decide +kernel
theorem dX7_hasPlace_18 : decode cX7_hasPlace 18 = .ok (.iconst 0, 1) := by decide +kernel
theorem dX7_hasPlace_19 : decode cX7_hasPlace 19 = .ok (.ireturn, 1) := by decide +kernel
theorem dX7_chooses_0 : decode cX7_chooses 0 = .ok (.iload_n 1, 1) := by decide +kernel
theorem dX7_chooses_1 : decode cX7_chooses 1 = .ok (.ifCond .lt 18, 3) := by decide +kernel
theorem dX7_chooses_4 : decode cX7_chooses 4 = .ok (.iload_n 1, 1) := by decide +kernel
theorem dX7_chooses_5 : decode cX7_chooses 5 = .ok (.bipush 12, 2) := by decide +kernel
theorem dX7_chooses_7 : decode cX7_chooses 7 = .ok (.if_icmp .ge 12, 3) := by decide +kernel
theorem dX7_chooses_10 : decode cX7_chooses 10 = .ok (.aload_n 0, 1) := by decide +kernel
theorem dX7_chooses_11 : decode cX7_chooses 11 = .ok (.getfield 9, 3) := by decide +kernel
theorem dX7_chooses_14 : decode cX7_chooses 14 = .ok (.lconst 1, 1) := by decide +kernel
theorem dX7_chooses_15 : decode cX7_chooses 15 = .ok (.lcmp, 1) := by decide +kernel
theorem dX7_chooses_16 : decode cX7_chooses 16 = .ok (.ifCond .ge 5, 3) := by decide +kernel
theorem dX7_chooses_19 : decode cX7_chooses 19 = .ok (.iconst 0, 1) := by decide +kernel
theorem dX7_chooses_20 : decode cX7_chooses 20 = .ok (.ireturn, 1) := by decide +kernel
theorem dX7_chooses_21 : decode cX7_chooses 21 = .ok (.lload_n 2, 1) := by decide +kernel
theorem dX7_chooses_22 : decode cX7_chooses 22 = .ok (.aload_n 0, 1) := by decide +kernel
theorem dX7_chooses_23 : decode cX7_chooses 23 = .ok (.getfield 15, 3) := by decide +kernel
theorem dX7_chooses_26 : decode cX7_chooses 26 = .ok (.iload_n 1, 1) := by decide +kernel
theorem dX7_chooses_27 : decode cX7_chooses 27 = .ok (.laload, 1) := by decide +kernel
theorem dX7_chooses_28 : decode cX7_chooses 28 = .ok (.lsub, 1) := by decide +kernel
theorem dX7_chooses_29 : decode cX7_chooses 29 = .ok (.aload_n 0, 1) := by decide +kernel
theorem dX7_chooses_30 : decode cX7_chooses 30 = .ok (.getfield 9, 3) := by decide +kernel
theorem dX7_chooses_33 : decode cX7_chooses 33 = .ok (.invokestatic 44, 3) := by decide +kernel
theorem dX7_chooses_36 : decode cX7_chooses 36 = .ok (.aload_n 0, 1) := by decide +kernel
theorem dX7_chooses_37 : decode cX7_chooses 37 = .ok (.getfield 19, 3) := by decide +kernel
theorem dX7_chooses_40 : decode cX7_chooses 40 = .ok (.iload_n 1, 1) := by decide +kernel
theorem dX7_chooses_41 : decode cX7_chooses 41 = .ok (.laload, 1) := by decide +kernel
theorem dX7_chooses_42 : decode cX7_chooses 42 = .ok (.lcmp, 1) := by decide +kernel
theorem dX7_chooses_43 : decode cX7_chooses 43 = .ok (.ifCond .ge 7, 3) := by decide +kernel
theorem dX7_chooses_46 : decode cX7_chooses 46 = .ok (.iconst 1, 1) := by decide +kernel
theorem dX7_chooses_47 : decode cX7_chooses 47 = .ok (.goto 4, 3) := by decide +kernel
theorem dX7_chooses_50 : decode cX7_chooses 50 = .ok (.iconst 0, 1) := by decide +kernel
theorem dX7_chooses_51 : decode cX7_chooses 51 = .ok (.ireturn, 1) := by decide +kernel
theorem dX7_chosenBy_0 : decode cX7_chosenBy 0 = .ok (.iconst 0, 1) := by decide +kernel
theorem dX7_chosenBy_1 : decode cX7_chosenBy 1 = .ok (.istore_n 3, 1) := by decide +kernel
theorem dX7_chosenBy_2 : decode cX7_chosenBy 2 = .ok (.iconst 0, 1) := by decide +kernel
theorem dX7_chosenBy_3 : decode cX7_chosenBy 3 = .ok (.istore 4, 2) := by decide +kernel
theorem dX7_chosenBy_5 : decode cX7_chosenBy 5 = .ok (.iload 4, 2) := by decide +kernel
theorem dX7_chosenBy_7 : decode cX7_chosenBy 7 = .ok (.bipush 12, 2) := by decide +kernel
theorem dX7_chosenBy_9 : decode cX7_chosenBy 9 = .ok (.if_icmp .ge 30, 3) := by decide +kernel
theorem dX7_chosenBy_12 : decode cX7_chosenBy 12 = .ok (.iload_n 3, 1) := by decide +kernel
theorem dX7_chosenBy_13 : decode cX7_chosenBy 13 = .ok (.aload_n 0, 1) := by decide +kernel
theorem dX7_chosenBy_14 : decode cX7_chosenBy 14 = .ok (.iload 4, 2) := by decide +kernel
theorem dX7_chosenBy_16 : decode cX7_chosenBy 16 = .ok (.lload_n 1, 1) := by decide +kernel
theorem dX7_chosenBy_17 : decode cX7_chosenBy 17 = .ok (.invokevirtual 50, 3) := by decide +kernel
theorem dX7_chosenBy_20 : decode cX7_chosenBy 20 = .ok (.ifCond .eq 10, 3) := by decide +kernel
theorem dX7_chosenBy_23 : decode cX7_chosenBy 23 = .ok (.iconst 1, 1) := by decide +kernel
theorem dX7_chosenBy_24 : decode cX7_chosenBy 24 = .ok (.iload 4, 2) := by decide +kernel
theorem dX7_chosenBy_26 : decode cX7_chosenBy 26 = .ok (.ishl, 1) := by decide +kernel
theorem dX7_chosenBy_27 : decode cX7_chosenBy 27 = .ok (.goto 4, 3) := by decide +kernel
theorem dX7_chosenBy_30 : decode cX7_chosenBy 30 = .ok (.iconst 0, 1) := by decide +kernel
theorem dX7_chosenBy_31 : decode cX7_chosenBy 31 = .ok (.ior, 1) := by decide +kernel
theorem dX7_chosenBy_32 : decode cX7_chosenBy 32 = .ok (.istore_n 3, 1) := by decide +kernel
theorem dX7_chosenBy_33 : decode cX7_chosenBy 33 = .ok (.iinc 4 1, 3) := by decide +kernel
theorem dX7_chosenBy_36 : decode cX7_chosenBy 36 = .ok (.goto (-31), 3) := by decide +kernel
theorem dX7_chosenBy_39 : decode cX7_chosenBy 39 = .ok (.iload_n 3, 1) := by decide +kernel
theorem dX7_chosenBy_40 : decode cX7_chosenBy 40 = .ok (.ireturn, 1) := by decide +kernel
theorem dX7_together_0 : decode cX7_together 0 = .ok (.aload_n 0, 1) := by decide +kernel
theorem dX7_together_1 : decode cX7_together 1 = .ok (.getfield 15, 3) := by decide +kernel
theorem dX7_together_4 : decode cX7_together 4 = .ok (.iload_n 1, 1) := by decide +kernel
theorem dX7_together_5 : decode cX7_together 5 = .ok (.laload, 1) := by decide +kernel
theorem dX7_together_6 : decode cX7_together 6 = .ok (.aload_n 0, 1) := by decide +kernel
theorem dX7_together_7 : decode cX7_together 7 = .ok (.getfield 19, 3) := by decide +kernel
theorem dX7_together_10 : decode cX7_together 10 = .ok (.iload_n 1, 1) := by decide +kernel
theorem dX7_together_11 : decode cX7_together 11 = .ok (.laload, 1) := by decide +kernel
theorem dX7_together_12 : decode cX7_together 12 = .ok (.aload_n 0, 1) := by decide +kernel
theorem dX7_together_13 : decode cX7_together 13 = .ok (.getfield 15, 3) := by decide +kernel
theorem dX7_together_16 : decode cX7_together 16 = .ok (.iload_n 2, 1) := by decide +kernel
theorem dX7_together_17 : decode cX7_together 17 = .ok (.laload, 1) := by decide +kernel
theorem dX7_together_18 : decode cX7_together 18 = .ok (.aload_n 0, 1) := by decide +kernel
theorem dX7_together_19 : decode cX7_together 19 = .ok (.getfield 19, 3) := by decide +kernel
theorem dX7_together_22 : decode cX7_together 22 = .ok (.iload_n 2, 1) := by decide +kernel
theorem dX7_together_23 : decode cX7_together 23 = .ok (.laload, 1) := by decide +kernel
theorem dX7_together_24 : decode cX7_together 24 = .ok (.aload_n 0, 1) := by decide +kernel
theorem dX7_together_25 : decode cX7_together 25 = .ok (.getfield 9, 3) := by decide +kernel
theorem dX7_together_28 : decode cX7_together 28 = .ok (.invokestatic 54, 3) := by decide +kernel
theorem dX7_together_31 : decode cX7_together 31 = .ok (.lreturn, 1) := by decide +kernel
theorem dX7_nextEnd_0 : decode cX7_nextEnd 0 = .ok (.aload_n 0, 1) := by decide +kernel
theorem dX7_nextEnd_1 : decode cX7_nextEnd 1 = .ok (.getfield 9, 3) := by decide +kernel
theorem dX7_nextEnd_4 : decode cX7_nextEnd 4 = .ok (.lstore_n 3, 1) := by decide +kernel
theorem dX7_nextEnd_5 : decode cX7_nextEnd 5 = .ok (.iconst 0, 1) := by decide +kernel
theorem dX7_nextEnd_6 : decode cX7_nextEnd 6 = .ok (.istore 5, 2) := by decide +kernel
theorem dX7_nextEnd_8 : decode cX7_nextEnd 8 = .ok (.iload 5, 2) := by decide +kernel
theorem dX7_nextEnd_10 : decode cX7_nextEnd 10 = .ok (.bipush 12, 2) := by decide +kernel
theorem dX7_nextEnd_12 : decode cX7_nextEnd 12 = .ok (.if_icmp .ge 58, 3) := by decide +kernel
theorem dX7_nextEnd_15 : decode cX7_nextEnd 15 = .ok (.aload_n 0, 1) := by decide +kernel
theorem dX7_nextEnd_16 : decode cX7_nextEnd 16 = .ok (.getfield 9, 3) := by decide +kernel
theorem dX7_nextEnd_19 : decode cX7_nextEnd 19 = .ok (.lconst 0, 1) := by decide +kernel
theorem dX7_nextEnd_20 : decode cX7_nextEnd 20 = .ok (.lcmp, 1) := by decide +kernel
theorem dX7_nextEnd_21 : decode cX7_nextEnd 21 = .ok (.ifCond .le 49, 3) := by decide +kernel
theorem dX7_nextEnd_24 : decode cX7_nextEnd 24 = .ok (.aload_n 0, 1) := by decide +kernel
theorem dX7_nextEnd_25 : decode cX7_nextEnd 25 = .ok (.getfield 15, 3) := by decide +kernel
theorem dX7_nextEnd_28 : decode cX7_nextEnd 28 = .ok (.iload 5, 2) := by decide +kernel
theorem dX7_nextEnd_30 : decode cX7_nextEnd 30 = .ok (.laload, 1) := by decide +kernel
theorem dX7_nextEnd_31 : decode cX7_nextEnd 31 = .ok (.aload_n 0, 1) := by decide +kernel
theorem dX7_nextEnd_32 : decode cX7_nextEnd 32 = .ok (.getfield 19, 3) := by decide +kernel
theorem dX7_nextEnd_35 : decode cX7_nextEnd 35 = .ok (.iload 5, 2) := by decide +kernel
theorem dX7_nextEnd_37 : decode cX7_nextEnd 37 = .ok (.laload, 1) := by decide +kernel
theorem dX7_nextEnd_38 : decode cX7_nextEnd 38 = .ok (.ladd, 1) := by decide +kernel
theorem dX7_nextEnd_39 : decode cX7_nextEnd 39 = .ok (.aload_n 0, 1) := by decide +kernel
theorem dX7_nextEnd_40 : decode cX7_nextEnd 40 = .ok (.getfield 9, 3) := by decide +kernel
theorem dX7_nextEnd_43 : decode cX7_nextEnd 43 = .ok (.lrem, 1) := by decide +kernel
theorem dX7_nextEnd_44 : decode cX7_nextEnd 44 = .ok (.lstore 6, 2) := by decide +kernel
theorem dX7_nextEnd_46 : decode cX7_nextEnd 46 = .ok (.lload 6, 2) := by decide +kernel
theorem dX7_nextEnd_48 : decode cX7_nextEnd 48 = .ok (.lload_n 1, 1) := by decide +kernel
theorem dX7_nextEnd_49 : decode cX7_nextEnd 49 = .ok (.lcmp, 1) := by decide +kernel
theorem dX7_nextEnd_50 : decode cX7_nextEnd 50 = .ok (.ifCond .le 12, 3) := by decide +kernel
theorem dX7_nextEnd_53 : decode cX7_nextEnd 53 = .ok (.lload_n 3, 1) := by decide +kernel
theorem dX7_nextEnd_54 : decode cX7_nextEnd 54 = .ok (.lload 6, 2) := by decide +kernel
theorem dX7_nextEnd_56 : decode cX7_nextEnd 56 = .ok (.invokestatic 58, 3) := by decide +kernel
theorem dX7_nextEnd_59 : decode cX7_nextEnd 59 = .ok (.goto 4, 3) := by decide +kernel
theorem dX7_nextEnd_62 : decode cX7_nextEnd 62 = .ok (.lload_n 3, 1) := by decide +kernel
theorem dX7_nextEnd_63 : decode cX7_nextEnd 63 = .ok (.lstore_n 3, 1) := by decide +kernel
theorem dX7_nextEnd_64 : decode cX7_nextEnd 64 = .ok (.iinc 5 1, 3) := by decide +kernel
theorem dX7_nextEnd_67 : decode cX7_nextEnd 67 = .ok (.goto (-59), 3) := by decide +kernel
theorem dX7_nextEnd_70 : decode cX7_nextEnd 70 = .ok (.lload_n 3, 1) := by decide +kernel
theorem dX7_nextEnd_71 : decode cX7_nextEnd 71 = .ok (.lreturn, 1) := by decide +kernel
theorem dX8_init_0 : decode cX8_init 0 = .ok (.aload_n 0, 1) := by decide +kernel
theorem dX8_init_1 : decode cX8_init 1 = .ok (.invokespecial 3, 3) := by decide +kernel
theorem dX8_init_4 : decode cX8_init 4 = .ok (.aload_n 0, 1) := by decide +kernel
theorem dX8_init_5 : decode cX8_init 5 = .ok (.new 9, 3) := by decide +kernel
theorem dX8_init_8 : decode cX8_init 8 = .ok (.dup, 1) := by decide +kernel
theorem dX8_init_9 : decode cX8_init 9 = .ok (.invokespecial 11, 3) := by decide +kernel
theorem dX8_init_12 : decode cX8_init 12 = .ok (.putfield 12, 3) := by decide +kernel
theorem dX8_init_15 : decode cX8_init 15 = .ok (.aload_n 0, 1) := by decide +kernel
theorem dX8_init_16 : decode cX8_init 16 = .ok (.new 9, 3) := by decide +kernel
theorem dX8_init_19 : decode cX8_init 19 = .ok (.dup, 1) := by decide +kernel
theorem dX8_init_20 : decode cX8_init 20 = .ok (.invokespecial 11, 3) := by decide +kernel
theorem dX8_init_23 : decode cX8_init 23 = .ok (.putfield 16, 3) := by decide +kernel
theorem dX8_init_26 : decode cX8_init 26 = .ok (.aload_n 0, 1) := by decide +kernel
theorem dX8_init_27 : decode cX8_init 27 = .ok (.new 9, 3) := by decide +kernel
theorem dX8_init_30 : decode cX8_init 30 = .ok (.dup, 1) := by decide +kernel
theorem dX8_init_31 : decode cX8_init 31 = .ok (.invokespecial 11, 3) := by decide +kernel
theorem dX8_init_34 : decode cX8_init 34 = .ok (.putfield 19, 3) := by decide +kernel
theorem dX8_init_37 : decode cX8_init 37 = .ok (.aload_n 0, 1) := by decide +kernel
theorem dX8_init_38 : decode cX8_init 38 = .ok (.iconst 0, 1) := by decide +kernel
theorem dX8_init_39 : decode cX8_init 39 = .ok (.putfield 22, 3) := by decide +kernel
theorem dX8_init_42 : decode cX8_init 42 = .ok (.aload_n 0, 1) := by decide +kernel
theorem dX8_init_43 : decode cX8_init 43 = .ok (.new 26, 3) := by decide +kernel
theorem dX8_init_46 : decode cX8_init 46 = .ok (.dup, 1) := by decide +kernel
theorem dX8_init_47 : decode cX8_init 47 = .ok (.invokespecial 28, 3) := by decide +kernel
theorem dX8_init_50 : decode cX8_init 50 = .ok (.putfield 29, 3) := by decide +kernel
theorem dX8_init_53 : decode cX8_init 53 = .ok (.aload_n 0, 1) := by decide +kernel
theorem dX8_init_54 : decode cX8_init 54 = .ok (.new 26, 3) := by decide +kernel
theorem dX8_init_57 : decode cX8_init 57 = .ok (.dup, 1) := by decide +kernel
theorem dX8_init_58 : decode cX8_init 58 = .ok (.invokespecial 28, 3) := by decide +kernel
theorem dX8_init_61 : decode cX8_init 61 = .ok (.putfield 33, 3) := by decide +kernel
theorem dX8_init_64 : decode cX8_init 64 = .ok (.aload_n 0, 1) := by decide +kernel
theorem dX8_init_65 : decode cX8_init 65 = .ok (.new 36, 3) := by decide +kernel
theorem dX8_init_68 : decode cX8_init 68 = .ok (.dup, 1) := by decide +kernel
theorem dX8_init_69 : decode cX8_init 69 = .ok (.invokespecial 38, 3) := by decide +kernel
theorem dX8_init_72 : decode cX8_init 72 = .ok (.putfield 39, 3) := by decide +kernel
theorem dX8_init_75 : decode cX8_init 75 = .ok (.aload_n 0, 1) := by decide +kernel
theorem dX8_init_76 : decode cX8_init 76 = .ok (.new 43, 3) := by decide +kernel
theorem dX8_init_79 : decode cX8_init 79 = .ok (.dup, 1) := by decide +kernel
theorem dX8_init_80 : decode cX8_init 80 = .ok (.invokespecial 45, 3) := by decide +kernel
theorem dX8_init_83 : decode cX8_init 83 = .ok (.putfield 46, 3) := by decide +kernel
theorem dX8_init_86 : decode cX8_init 86 = .ok (.aload_n 0, 1) := by decide +kernel
theorem dX8_init_87 : decode cX8_init 87 = .ok (.new 43, 3) := by decide +kernel
theorem dX8_init_90 : decode cX8_init 90 = .ok (.dup, 1) := by decide +kernel
theorem dX8_init_91 : decode cX8_init 91 = .ok (.invokespecial 45, 3) := by decide +kernel
theorem dX8_init_94 : decode cX8_init 94 = .ok (.putfield 50, 3) := by decide +kernel
theorem dX8_init_97 : decode cX8_init 97 = .ok (.aload_n 0, 1) := by decide +kernel
theorem dX8_init_98 : decode cX8_init 98 = .ok (.new 43, 3) := by decide +kernel
theorem dX8_init_101 : decode cX8_init 101 = .ok (.dup, 1) := by decide +kernel
theorem dX8_init_102 : decode cX8_init 102 = .ok (.invokespecial 45, 3) := by decide +kernel
theorem dX8_init_105 : decode cX8_init 105 = .ok (.putfield 53, 3) := by decide +kernel
theorem dX8_init_108 : decode cX8_init 108 = .ok (.aload_n 0, 1) := by decide +kernel
theorem dX8_init_109 : decode cX8_init 109 = .ok (.new 56, 3) := by decide +kernel
theorem dX8_init_112 : decode cX8_init 112 = .ok (.dup, 1) := by decide +kernel
theorem dX8_init_113 : decode cX8_init 113 = .ok (.invokespecial 58, 3) := by decide +kernel
theorem dX8_init_116 : decode cX8_init 116 = .ok (.putfield 59, 3) := by decide +kernel
theorem dX8_init_119 : decode cX8_init 119 = .ok (.aload_n 0, 1) := by decide +kernel
theorem dX8_init_120 : decode cX8_init 120 = .ok (.new 63, 3) := by decide +kernel
theorem dX8_init_123 : decode cX8_init 123 = .ok (.dup, 1) := by decide +kernel
theorem dX8_init_124 : decode cX8_init 124 = .ok (.invokespecial 65, 3) := by decide +kernel
theorem dX8_init_127 : decode cX8_init 127 = .ok (.putfield 66, 3) := by decide +kernel
theorem dX8_init_130 : decode cX8_init 130 = .ok (.aload_n 0, 1) := by decide +kernel
theorem dX8_init_131 : decode cX8_init 131 = .ok (.new 70, 3) := by decide +kernel
theorem dX8_init_134 : decode cX8_init 134 = .ok (.dup, 1) := by decide +kernel
theorem dX8_init_135 : decode cX8_init 135 = .ok (.invokespecial 72, 3) := by decide +kernel
theorem dX8_init_138 : decode cX8_init 138 = .ok (.putfield 73, 3) := by decide +kernel
theorem dX8_init_141 : decode cX8_init 141 = .ok (.aload_n 0, 1) := by decide +kernel
theorem dX8_init_142 : decode cX8_init 142 = .ok (.iconst 3, 1) := by decide +kernel
theorem dX8_init_143 : decode cX8_init 143 = .ok (.anewarray 77, 3) := by decide +kernel
theorem dX8_init_146 : decode cX8_init 146 = .ok (.putfield 79, 3) := by decide +kernel
theorem dX8_init_149 : decode cX8_init 149 = .ok (.iconst 0, 1) := by decide +kernel
theorem dX8_init_150 : decode cX8_init 150 = .ok (.istore_n 1, 1) := by decide +kernel
theorem dX8_init_151 : decode cX8_init 151 = .ok (.iload_n 1, 1) := by decide +kernel
theorem dX8_init_152 : decode cX8_init 152 = .ok (.iconst 3, 1) := by decide +kernel
theorem dX8_init_153 : decode cX8_init 153 = .ok (.if_icmp .ge 22, 3) := by decide +kernel
theorem dX8_init_156 : decode cX8_init 156 = .ok (.aload_n 0, 1) := by decide +kernel
theorem dX8_init_157 : decode cX8_init 157 = .ok (.getfield 79, 3) := by decide +kernel
theorem dX8_init_160 : decode cX8_init 160 = .ok (.iload_n 1, 1) := by decide +kernel
theorem dX8_init_161 : decode cX8_init 161 = .ok (.new 77, 3) := by decide +kernel
theorem dX8_init_164 : decode cX8_init 164 = .ok (.dup, 1) := by decide +kernel
theorem dX8_init_165 : decode cX8_init 165 = .ok (.invokespecial 83, 3) := by decide +kernel
theorem dX8_init_168 : decode cX8_init 168 = .ok (.aastore, 1) := by decide +kernel
theorem dX8_init_169 : decode cX8_init 169 = .ok (.iinc 1 1, 3) := by decide +kernel
theorem dX8_init_172 : decode cX8_init 172 = .ok (.goto (-21), 3) := by decide +kernel
theorem dX8_init_175 : decode cX8_init 175 = .ok (.return_, 1) := by decide +kernel
theorem dX8_unit_0 : decode cX8_unit 0 = .ok (.aload_n 0, 1) := by decide +kernel
theorem dX8_unit_1 : decode cX8_unit 1 = .ok (.aload_n 0, 1) := by decide +kernel
theorem dX8_unit_2 : decode cX8_unit 2 = .ok (.getfield 12, 3) := by decide +kernel
theorem dX8_unit_5 : decode cX8_unit 5 = .ok (.iload_n 1, 1) := by decide +kernel
theorem dX8_unit_6 : decode cX8_unit 6 = .ok (.iload_n 2, 1) := by decide +kernel
theorem dX8_unit_7 : decode cX8_unit 7 = .ok (.iload_n 3, 1) := by decide +kernel
theorem dX8_unit_8 : decode cX8_unit 8 = .ok (.iload 4, 2) := by decide +kernel
theorem dX8_unit_10 : decode cX8_unit 10 = .ok (.invokevirtual 84, 3) := by decide +kernel
theorem dX8_unit_13 : decode cX8_unit 13 = .ok (.invokevirtual 88, 3) := by decide +kernel
theorem dX8_unit_16 : decode cX8_unit 16 = .ok (.ireturn, 1) := by decide +kernel
theorem dX8_odds_0 : decode cX8_odds 0 = .ok (.aload_n 0, 1) := by decide +kernel
theorem dX8_odds_1 : decode cX8_odds 1 = .ok (.aload_n 0, 1) := by decide +kernel
theorem dX8_odds_2 : decode cX8_odds 2 = .ok (.getfield 12, 3) := by decide +kernel
theorem dX8_odds_5 : decode cX8_odds 5 = .ok (.iload_n 1, 1) := by decide +kernel
theorem dX8_odds_6 : decode cX8_odds 6 = .ok (.iload_n 2, 1) := by decide +kernel
theorem dX8_odds_7 : decode cX8_odds 7 = .ok (.iload_n 3, 1) := by decide +kernel
theorem dX8_odds_8 : decode cX8_odds 8 = .ok (.iload 4, 2) := by decide +kernel
theorem dX8_odds_10 : decode cX8_odds 10 = .ok (.invokevirtual 92, 3) := by decide +kernel
theorem dX8_odds_13 : decode cX8_odds 13 = .ok (.invokevirtual 88, 3) := by decide +kernel
theorem dX8_odds_16 : decode cX8_odds 16 = .ok (.ireturn, 1) := by decide +kernel
theorem dX8_set_0 : decode cX8_set 0 = .ok (.aload_n 0, 1) := by decide +kernel
theorem dX8_set_1 : decode cX8_set 1 = .ok (.getfield 12, 3) := by decide +kernel
theorem dX8_set_4 : decode cX8_set 4 = .ok (.iload_n 1, 1) := by decide +kernel
theorem dX8_set_5 : decode cX8_set 5 = .ok (.invokevirtual 95, 3) := by decide +kernel
theorem dX8_set_8 : decode cX8_set 8 = .ok (.ifCond .eq 12, 3) := by decide +kernel
theorem dX8_set_11 : decode cX8_set 11 = .ok (.iload_n 2, 1) := by decide +kernel
theorem dX8_set_12 : decode cX8_set 12 = .ok (.ifCond .lt 8, 3) := by decide +kernel
theorem dX8_set_15 : decode cX8_set 15 = .ok (.iload_n 2, 1) := by decide +kernel
theorem dX8_set_16 : decode cX8_set 16 = .ok (.iconst 1, 1) := by decide +kernel
theorem dX8_set_17 : decode cX8_set 17 = .ok (.if_icmp .le 9, 3) := by decide +kernel
theorem dX8_set_20 : decode cX8_set 20 = .ok (.aload_n 0, 1) := by decide +kernel
theorem dX8_set_21 : decode cX8_set 21 = .ok (.iconst (-1), 1) := by decide +kernel
theorem dX8_set_22 : decode cX8_set 22 = .ok (.invokevirtual 99, 3) := by decide +kernel
theorem dX8_set_25 : decode cX8_set 25 = .ok (.ireturn, 1) := by decide +kernel
theorem dX8_set_26 : decode cX8_set 26 = .ok (.aload_n 0, 1) := by decide +kernel
theorem dX8_set_27 : decode cX8_set 27 = .ok (.iload_n 2, 1) := by decide +kernel
theorem dX8_set_28 : decode cX8_set 28 = .ok (.ifCond .ne 15, 3) := by decide +kernel
theorem dX8_set_31 : decode cX8_set 31 = .ok (.aload_n 0, 1) := by decide +kernel
theorem dX8_set_32 : decode cX8_set 32 = .ok (.getfield 12, 3) := by decide +kernel
theorem dX8_set_35 : decode cX8_set 35 = .ok (.iload_n 1, 1) := by decide +kernel
theorem dX8_set_36 : decode cX8_set 36 = .ok (.iload_n 3, 1) := by decide +kernel
theorem dX8_set_37 : decode cX8_set 37 = .ok (.invokevirtual 102, 3) := by decide +kernel
theorem dX8_set_40 : decode cX8_set 40 = .ok (.goto 12, 3) := by decide +kernel
theorem dX8_set_43 : decode cX8_set 43 = .ok (.aload_n 0, 1) := by decide +kernel
theorem dX8_set_44 : decode cX8_set 44 = .ok (.getfield 12, 3) := by decide +kernel
theorem dX8_set_47 : decode cX8_set 47 = .ok (.iload_n 1, 1) := by decide +kernel
theorem dX8_set_48 : decode cX8_set 48 = .ok (.iload_n 3, 1) := by decide +kernel
theorem dX8_set_49 : decode cX8_set 49 = .ok (.invokevirtual 106, 3) := by decide +kernel
theorem dX8_set_52 : decode cX8_set 52 = .ok (.invokevirtual 88, 3) := by decide +kernel
theorem dX8_set_55 : decode cX8_set 55 = .ok (.ireturn, 1) := by decide +kernel
theorem dX8_mark_0 : decode cX8_mark 0 = .ok (.aload_n 0, 1) := by decide +kernel
theorem dX8_mark_1 : decode cX8_mark 1 = .ok (.aload_n 0, 1) := by decide +kernel
theorem dX8_mark_2 : decode cX8_mark 2 = .ok (.getfield 12, 3) := by decide +kernel
theorem dX8_mark_5 : decode cX8_mark 5 = .ok (.iload_n 1, 1) := by decide +kernel
theorem dX8_mark_6 : decode cX8_mark 6 = .ok (.iload_n 2, 1) := by decide +kernel
theorem dX8_mark_7 : decode cX8_mark 7 = .ok (.invokevirtual 109, 3) := by decide +kernel
theorem dX8_mark_10 : decode cX8_mark 10 = .ok (.invokevirtual 88, 3) := by decide +kernel
theorem dX8_mark_13 : decode cX8_mark 13 = .ok (.ireturn, 1) := by decide +kernel
theorem dX8_of_0 : decode cX8_of 0 = .ok (.aload_n 0, 1) := by decide +kernel
theorem dX8_of_1 : decode cX8_of 1 = .ok (.getfield 12, 3) := by decide +kernel
theorem dX8_of_4 : decode cX8_of 4 = .ok (.iload_n 1, 1) := by decide +kernel
theorem dX8_of_5 : decode cX8_of 5 = .ok (.invokevirtual 95, 3) := by decide +kernel
theorem dX8_of_8 : decode cX8_of 8 = .ok (.ifCond .eq 12, 3) := by decide +kernel
theorem dX8_of_11 : decode cX8_of 11 = .ok (.iload_n 2, 1) := by decide +kernel
theorem dX8_of_12 : decode cX8_of 12 = .ok (.ifCond .lt 8, 3) := by decide +kernel
theorem dX8_of_15 : decode cX8_of 15 = .ok (.iload_n 2, 1) := by decide +kernel
theorem dX8_of_16 : decode cX8_of 16 = .ok (.iconst 3, 1) := by decide +kernel
theorem dX8_of_17 : decode cX8_of 17 = .ok (.if_icmp .le 9, 3) := by decide +kernel
theorem dX8_of_20 : decode cX8_of 20 = .ok (.aload_n 0, 1) := by decide +kernel
theorem dX8_of_21 : decode cX8_of 21 = .ok (.iconst (-1), 1) := by decide +kernel
theorem dX8_of_22 : decode cX8_of 22 = .ok (.invokevirtual 112, 3) := by decide +kernel
theorem dX8_of_25 : decode cX8_of 25 = .ok (.lreturn, 1) := by decide +kernel
theorem dX8_of_26 : decode cX8_of 26 = .ok (.iload_n 2, 1) := by decide +kernel
theorem dX8_of_27 : decode cX8_of 27 = .ok (.tableswitch 64 0 2 #[25, 36, 53], 25) := by decide +kernel
theorem dX8_of_52 : decode cX8_of 52 = .ok (.aload_n 0, 1) := by decide +kernel
theorem dX8_of_53 : decode cX8_of 53 = .ok (.getfield 12, 3) := by decide +kernel
theorem dX8_of_56 : decode cX8_of 56 = .ok (.getfield 116, 3) := by decide +kernel
theorem dX8_of_59 : decode cX8_of 59 = .ok (.iload_n 1, 1) := by decide +kernel
theorem dX8_of_60 : decode cX8_of 60 = .ok (.iaload, 1) := by decide +kernel
theorem dX8_of_61 : decode cX8_of 61 = .ok (.i2l, 1) := by decide +kernel
theorem dX8_of_62 : decode cX8_of 62 = .ok (.lreturn, 1) := by decide +kernel
theorem dX8_of_63 : decode cX8_of 63 = .ok (.aload_n 0, 1) := by decide +kernel
theorem dX8_of_64 : decode cX8_of 64 = .ok (.getfield 12, 3) := by decide +kernel
theorem dX8_of_67 : decode cX8_of 67 = .ok (.iload_n 1, 1) := by decide +kernel
theorem dX8_of_68 : decode cX8_of 68 = .ok (.invokevirtual 120, 3) := by decide +kernel
theorem dX8_of_71 : decode cX8_of 71 = .ok (.ifCond .eq 7, 3) := by decide +kernel
theorem dX8_of_74 : decode cX8_of 74 = .ok (.lconst 1, 1) := by decide +kernel
theorem dX8_of_75 : decode cX8_of 75 = .ok (.goto 4, 3) := by decide +kernel
theorem dX8_of_78 : decode cX8_of 78 = .ok (.lconst 0, 1) := by decide +kernel
theorem dX8_of_79 : decode cX8_of 79 = .ok (.lreturn, 1) := by decide +kernel
theorem dX8_of_80 : decode cX8_of 80 = .ok (.aload_n 0, 1) := by decide +kernel
theorem dX8_of_81 : decode cX8_of 81 = .ok (.getfield 12, 3) := by decide +kernel
theorem dX8_of_84 : decode cX8_of 84 = .ok (.getfield 123, 3) := by decide +kernel
theorem dX8_of_87 : decode cX8_of 87 = .ok (.iload_n 1, 1) := by decide +kernel
theorem dX8_of_88 : decode cX8_of 88 = .ok (.iaload, 1) := by decide +kernel
theorem dX8_of_89 : decode cX8_of 89 = .ok (.i2l, 1) := by decide +kernel
theorem dX8_of_90 : decode cX8_of 90 = .ok (.lreturn, 1) := by decide +kernel
theorem dX8_of_91 : decode cX8_of 91 = .ok (.aload_n 0, 1) := by decide +kernel
theorem dX8_of_92 : decode cX8_of 92 = .ok (.getfield 12, 3) := by decide +kernel
theorem dX8_of_95 : decode cX8_of 95 = .ok (.iload_n 1, 1) := by decide +kernel
theorem dX8_of_96 : decode cX8_of 96 = .ok (.invokevirtual 126, 3) := by decide +kernel
theorem dX8_of_99 : decode cX8_of 99 = .ok (.i2l, 1) := by decide +kernel
theorem dX8_of_100 : decode cX8_of 100 = .ok (.lreturn, 1) := by decide +kernel
theorem dX8_fraction_0 : decode cX8_fraction 0 = .ok (.aload_n 0, 1) := by decide +kernel
theorem dX8_fraction_1 : decode cX8_fraction 1 = .ok (.getfield 12, 3) := by decide +kernel
theorem dX8_fraction_4 : decode cX8_fraction 4 = .ok (.iload_n 1, 1) := by decide +kernel
theorem dX8_fraction_5 : decode cX8_fraction 5 = .ok (.invokevirtual 95, 3) := by decide +kernel
theorem dX8_fraction_8 : decode cX8_fraction 8 = .ok (.ifCond .eq 10, 3) := by decide +kernel
theorem dX8_fraction_11 : decode cX8_fraction 11 = .ok (.iload_n 2, 1) := by decide +kernel
theorem dX8_fraction_12 : decode cX8_fraction 12 = .ok (.invokestatic 129, 3) := by decide +kernel
theorem dX8_fraction_15 : decode cX8_fraction 15 = .ok (.ifCond .ne 9, 3) := by decide +kernel
theorem dX8_fraction_18 : decode cX8_fraction 18 = .ok (.aload_n 0, 1) := by decide +kernel
theorem dX8_fraction_19 : decode cX8_fraction 19 = .ok (.iconst (-1), 1) := by decide +kernel
theorem dX8_fraction_20 : decode cX8_fraction 20 = .ok (.invokevirtual 112, 3) := by decide +kernel
theorem dX8_fraction_23 : decode cX8_fraction 23 = .ok (.lreturn, 1) := by decide +kernel
theorem dX8_fraction_24 : decode cX8_fraction 24 = .ok (.iload_n 3, 1) := by decide +kernel
theorem dX8_fraction_25 : decode cX8_fraction 25 = .ok (.invokestatic 132, 3) := by decide +kernel
theorem dX8_fraction_28 : decode cX8_fraction 28 = .ok (.ifCond .ne 10, 3) := by decide +kernel
theorem dX8_fraction_31 : decode cX8_fraction 31 = .ok (.aload_n 0, 1) := by decide +kernel
theorem dX8_fraction_32 : decode cX8_fraction 32 = .ok (.bipush (-2), 2) := by decide +kernel
theorem dX8_fraction_34 : decode cX8_fraction 34 = .ok (.invokevirtual 112, 3) := by decide +kernel
theorem dX8_fraction_37 : decode cX8_fraction 37 = .ok (.lreturn, 1) := by decide +kernel
theorem dX8_fraction_38 : decode cX8_fraction 38 = .ok (.aload_n 0, 1) := by decide +kernel
theorem dX8_fraction_39 : decode cX8_fraction 39 = .ok (.aload_n 0, 1) := by decide +kernel
theorem dX8_fraction_40 : decode cX8_fraction 40 = .ok (.getfield 12, 3) := by decide +kernel
theorem dX8_fraction_43 : decode cX8_fraction 43 = .ok (.iload_n 1, 1) := by decide +kernel
theorem dX8_fraction_44 : decode cX8_fraction 44 = .ok (.iload_n 2, 1) := by decide +kernel
theorem dX8_fraction_45 : decode cX8_fraction 45 = .ok (.invokevirtual 135, 3) := by decide +kernel
theorem dX8_fraction_48 : decode cX8_fraction 48 = .ok (.i2l, 1) := by decide +kernel
theorem dX8_fraction_49 : decode cX8_fraction 49 = .ok (.aload_n 0, 1) := by decide +kernel
theorem dX8_fraction_50 : decode cX8_fraction 50 = .ok (.getfield 12, 3) := by decide +kernel
theorem dX8_fraction_53 : decode cX8_fraction 53 = .ok (.iload_n 1, 1) := by decide +kernel
theorem dX8_fraction_54 : decode cX8_fraction 54 = .ok (.iload_n 2, 1) := by decide +kernel
theorem dX8_fraction_55 : decode cX8_fraction 55 = .ok (.invokevirtual 138, 3) := by decide +kernel
theorem dX8_fraction_58 : decode cX8_fraction 58 = .ok (.i2l, 1) := by decide +kernel
theorem dX8_fraction_59 : decode cX8_fraction 59 = .ok (.iload_n 3, 1) := by decide +kernel
theorem dX8_fraction_60 : decode cX8_fraction 60 = .ok (.invokevirtual 141, 3) := by decide +kernel
theorem dX8_fraction_63 : decode cX8_fraction 63 = .ok (.lreturn, 1) := by decide +kernel
theorem dX8_order_0 : decode cX8_order 0 = .ok (.aload_n 0, 1) := by decide +kernel
theorem dX8_order_1 : decode cX8_order 1 = .ok (.aload_n 0, 1) := by decide +kernel
theorem dX8_order_2 : decode cX8_order 2 = .ok (.getfield 12, 3) := by decide +kernel
theorem dX8_order_5 : decode cX8_order 5 = .ok (.iload_n 1, 1) := by decide +kernel
theorem dX8_order_6 : decode cX8_order 6 = .ok (.invokevirtual 145, 3) := by decide +kernel
theorem dX8_order_9 : decode cX8_order 9 = .ok (.invokevirtual 88, 3) := by decide +kernel
theorem dX8_order_12 : decode cX8_order 12 = .ok (.ireturn, 1) := by decide +kernel
theorem dX8_at_0 : decode cX8_at 0 = .ok (.aload_n 0, 1) := by decide +kernel
theorem dX8_at_1 : decode cX8_at 1 = .ok (.aload_n 0, 1) := by decide +kernel
theorem dX8_at_2 : decode cX8_at 2 = .ok (.getfield 12, 3) := by decide +kernel
theorem dX8_at_5 : decode cX8_at 5 = .ok (.iload_n 1, 1) := by decide +kernel
theorem dX8_at_6 : decode cX8_at 6 = .ok (.invokevirtual 148, 3) := by decide +kernel
theorem dX8_at_9 : decode cX8_at 9 = .ok (.invokevirtual 88, 3) := by decide +kernel
theorem dX8_at_12 : decode cX8_at 12 = .ok (.ireturn, 1) := by decide +kernel
theorem dX8_swap_0 : decode cX8_swap 0 = .ok (.aload_n 0, 1) := by decide +kernel
theorem dX8_swap_1 : decode cX8_swap 1 = .ok (.aload_n 0, 1) := by decide +kernel
theorem dX8_swap_2 : decode cX8_swap 2 = .ok (.getfield 12, 3) := by decide +kernel
theorem dX8_swap_5 : decode cX8_swap 5 = .ok (.iload_n 1, 1) := by decide +kernel
theorem dX8_swap_6 : decode cX8_swap 6 = .ok (.iload_n 2, 1) := by decide +kernel
theorem dX8_swap_7 : decode cX8_swap 7 = .ok (.invokevirtual 151, 3) := by decide +kernel
theorem dX8_swap_10 : decode cX8_swap 10 = .ok (.invokevirtual 88, 3) := by decide +kernel
theorem dX8_swap_13 : decode cX8_swap 13 = .ok (.ireturn, 1) := by decide +kernel
theorem dX8_common_0 : decode cX8_common 0 = .ok (.iload_n 1, 1) := by decide +kernel
theorem dX8_common_1 : decode cX8_common 1 = .ok (.invokestatic 129, 3) := by decide +kernel
theorem dX8_common_4 : decode cX8_common 4 = .ok (.ifCond .ne 9, 3) := by decide +kernel
theorem dX8_common_7 : decode cX8_common 7 = .ok (.aload_n 0, 1) := by decide +kernel
theorem dX8_common_8 : decode cX8_common 8 = .ok (.iconst (-1), 1) := by decide +kernel
theorem dX8_common_9 : decode cX8_common 9 = .ok (.invokevirtual 99, 3) := by decide +kernel
theorem dX8_common_12 : decode cX8_common 12 = .ok (.ireturn, 1) := by decide +kernel
theorem dX8_common_13 : decode cX8_common 13 = .ok (.aload_n 0, 1) := by decide +kernel
theorem dX8_common_14 : decode cX8_common 14 = .ok (.getfield 12, 3) := by decide +kernel
theorem dX8_common_17 : decode cX8_common 17 = .ok (.iload_n 1, 1) := by decide +kernel
theorem dX8_common_18 : decode cX8_common 18 = .ok (.invokevirtual 154, 3) := by decide +kernel
theorem dX8_common_21 : decode cX8_common 21 = .ok (.lstore_n 2, 1) := by decide +kernel
theorem dX8_common_22 : decode cX8_common 22 = .ok (.lload_n 2, 1) := by decide +kernel
theorem dX8_common_23 : decode cX8_common 23 = .ok (.lconst 0, 1) := by decide +kernel
theorem dX8_common_24 : decode cX8_common 24 = .ok (.lcmp, 1) := by decide +kernel
theorem dX8_common_25 : decode cX8_common 25 = .ok (.ifCond .le 8, 3) := by decide +kernel
theorem dX8_common_28 : decode cX8_common 28 = .ok (.lload_n 2, 1) := by decide +kernel
theorem dX8_common_29 : decode cX8_common 29 = .ok (.l2i, 1) := by decide +kernel
theorem dX8_common_30 : decode cX8_common 30 = .ok (.goto 9, 3) := by decide +kernel
theorem dX8_common_33 : decode cX8_common 33 = .ok (.aload_n 0, 1) := by decide +kernel
theorem dX8_common_34 : decode cX8_common 34 = .ok (.bipush (-7), 2) := by decide +kernel
theorem dX8_common_36 : decode cX8_common 36 = .ok (.invokevirtual 99, 3) := by decide +kernel
theorem dX8_common_39 : decode cX8_common 39 = .ok (.ireturn, 1) := by decide +kernel
theorem dX8_parts_0 : decode cX8_parts 0 = .ok (.aload_n 0, 1) := by decide +kernel
theorem dX8_parts_1 : decode cX8_parts 1 = .ok (.getfield 12, 3) := by decide +kernel
theorem dX8_parts_4 : decode cX8_parts 4 = .ok (.iload_n 1, 1) := by decide +kernel
theorem dX8_parts_5 : decode cX8_parts 5 = .ok (.invokevirtual 95, 3) := by decide +kernel
theorem dX8_parts_8 : decode cX8_parts 8 = .ok (.ifCond .ne 9, 3) := by decide +kernel
theorem dX8_parts_11 : decode cX8_parts 11 = .ok (.aload_n 0, 1) := by decide +kernel
theorem dX8_parts_12 : decode cX8_parts 12 = .ok (.iconst (-1), 1) := by decide +kernel
theorem dX8_parts_13 : decode cX8_parts 13 = .ok (.invokevirtual 99, 3) := by decide +kernel
theorem dX8_parts_16 : decode cX8_parts 16 = .ok (.ireturn, 1) := by decide +kernel
theorem dX8_parts_17 : decode cX8_parts 17 = .ok (.aload_n 0, 1) := by decide +kernel
theorem dX8_parts_18 : decode cX8_parts 18 = .ok (.getfield 12, 3) := by decide +kernel
theorem dX8_parts_21 : decode cX8_parts 21 = .ok (.iconst 0, 1) := by decide +kernel
theorem dX8_parts_22 : decode cX8_parts 22 = .ok (.invokevirtual 154, 3) := by decide +kernel
theorem dX8_parts_25 : decode cX8_parts 25 = .ok (.lstore_n 2, 1) := by decide +kernel
theorem dX8_parts_26 : decode cX8_parts 26 = .ok (.lload_n 2, 1) := by decide +kernel
theorem dX8_parts_27 : decode cX8_parts 27 = .ok (.lconst 0, 1) := by decide +kernel
theorem dX8_parts_28 : decode cX8_parts 28 = .ok (.lcmp, 1) := by decide +kernel
theorem dX8_parts_29 : decode cX8_parts 29 = .ok (.ifCond .le 17, 3) := by decide +kernel
theorem dX8_parts_32 : decode cX8_parts 32 = .ok (.aload_n 0, 1) := by decide +kernel
theorem dX8_parts_33 : decode cX8_parts 33 = .ok (.getfield 12, 3) := by decide +kernel
theorem dX8_parts_36 : decode cX8_parts 36 = .ok (.iload_n 1, 1) := by decide +kernel
theorem dX8_parts_37 : decode cX8_parts 37 = .ok (.iconst 0, 1) := by decide +kernel
theorem dX8_parts_38 : decode cX8_parts 38 = .ok (.lload_n 2, 1) := by decide +kernel
theorem dX8_parts_39 : decode cX8_parts 39 = .ok (.invokevirtual 157, 3) := by decide +kernel
theorem dX8_parts_42 : decode cX8_parts 42 = .ok (.l2i, 1) := by decide +kernel
theorem dX8_parts_43 : decode cX8_parts 43 = .ok (.goto 9, 3) := by decide +kernel
theorem dX8_parts_46 : decode cX8_parts 46 = .ok (.aload_n 0, 1) := by decide +kernel
theorem dX8_parts_47 : decode cX8_parts 47 = .ok (.bipush (-7), 2) := by decide +kernel
theorem dX8_parts_49 : decode cX8_parts 49 = .ok (.invokevirtual 99, 3) := by decide +kernel
theorem dX8_parts_52 : decode cX8_parts 52 = .ok (.ireturn, 1) := by decide +kernel
theorem dX8_size_0 : decode cX8_size 0 = .ok (.iload_n 1, 1) := by decide +kernel
theorem dX8_size_1 : decode cX8_size 1 = .ok (.ifCond .lt 8, 3) := by decide +kernel
theorem dX8_size_4 : decode cX8_size 4 = .ok (.iload_n 1, 1) := by decide +kernel
theorem dX8_size_5 : decode cX8_size 5 = .ok (.iconst 1, 1) := by decide +kernel
theorem dX8_size_6 : decode cX8_size 6 = .ok (.if_icmp .le 9, 3) := by decide +kernel
theorem dX8_size_9 : decode cX8_size 9 = .ok (.aload_n 0, 1) := by decide +kernel
theorem dX8_size_10 : decode cX8_size 10 = .ok (.iconst (-1), 1) := by decide +kernel
theorem dX8_size_11 : decode cX8_size 11 = .ok (.invokevirtual 99, 3) := by decide +kernel
theorem dX8_size_14 : decode cX8_size 14 = .ok (.ireturn, 1) := by decide +kernel
theorem dX8_size_15 : decode cX8_size 15 = .ok (.aload_n 0, 1) := by decide +kernel
theorem dX8_size_16 : decode cX8_size 16 = .ok (.getfield 12, 3) := by decide +kernel
theorem dX8_size_19 : decode cX8_size 19 = .ok (.iconst 0, 1) := by decide +kernel
theorem dX8_size_20 : decode cX8_size 20 = .ok (.invokevirtual 154, 3) := by decide +kernel
theorem dX8_size_23 : decode cX8_size 23 = .ok (.lstore_n 2, 1) := by decide +kernel
theorem dX8_size_24 : decode cX8_size 24 = .ok (.lload_n 2, 1) := by decide +kernel
theorem dX8_size_25 : decode cX8_size 25 = .ok (.lconst 1, 1) := by decide +kernel
theorem dX8_size_26 : decode cX8_size 26 = .ok (.lcmp, 1) := by decide +kernel
theorem dX8_size_27 : decode cX8_size 27 = .ok (.ifCond .ge 10, 3) := by decide +kernel
theorem dX8_size_30 : decode cX8_size 30 = .ok (.aload_n 0, 1) := by decide +kernel
theorem dX8_size_31 : decode cX8_size 31 = .ok (.bipush (-7), 2) := by decide +kernel
theorem dX8_size_33 : decode cX8_size 33 = .ok (.invokevirtual 99, 3) := by decide +kernel
theorem dX8_size_36 : decode cX8_size 36 = .ok (.ireturn, 1) := by decide +kernel
theorem dX8_size_37 : decode cX8_size 37 = .ok (.aload_n 0, 1) := by decide +kernel
theorem dX8_size_38 : decode cX8_size 38 = .ok (.getfield 12, 3) := by decide +kernel
theorem dX8_size_41 : decode cX8_size 41 = .ok (.iconst 0, 1) := by decide +kernel
theorem dX8_size_42 : decode cX8_size 42 = .ok (.lload_n 2, 1) := by decide +kernel
theorem dX8_size_43 : decode cX8_size 43 = .ok (.invokevirtual 161, 3) := by decide +kernel
theorem dX8_size_46 : decode cX8_size 46 = .ok (.lstore 4, 2) := by decide +kernel
theorem dX8_size_48 : decode cX8_size 48 = .ok (.iload_n 1, 1) := by decide +kernel
theorem dX8_size_49 : decode cX8_size 49 = .ok (.ifCond .ne 8, 3) := by decide +kernel
theorem dX8_size_52 : decode cX8_size 52 = .ok (.lload 4, 2) := by decide +kernel
theorem dX8_size_54 : decode cX8_size 54 = .ok (.goto 9, 3) := by decide +kernel
theorem dX8_size_57 : decode cX8_size 57 = .ok (.lload 4, 2) := by decide +kernel
theorem dX8_size_59 : decode cX8_size 59 = .ok (.lload_n 2, 1) := by decide +kernel
theorem dX8_size_60 : decode cX8_size 60 = .ok (.ladd, 1) := by decide +kernel
theorem dX8_size_61 : decode cX8_size 61 = .ok (.lconst 1, 1) := by decide +kernel
theorem dX8_size_62 : decode cX8_size 62 = .ok (.lsub, 1) := by decide +kernel
theorem dX8_size_63 : decode cX8_size 63 = .ok (.lload_n 2, 1) := by decide +kernel
theorem dX8_size_64 : decode cX8_size 64 = .ok (.ldiv, 1) := by decide +kernel
theorem dX8_size_65 : decode cX8_size 65 = .ok (.l2i, 1) := by decide +kernel
theorem dX8_size_66 : decode cX8_size 66 = .ok (.ireturn, 1) := by decide +kernel
theorem dX8_chosen_0 : decode cX8_chosen 0 = .ok (.aload_n 0, 1) := by decide +kernel
theorem dX8_chosen_1 : decode cX8_chosen 1 = .ok (.invokevirtual 165, 3) := by decide +kernel
theorem dX8_chosen_4 : decode cX8_chosen 4 = .ok (.ifCond .ne 10, 3) := by decide +kernel
theorem dX8_chosen_7 : decode cX8_chosen 7 = .ok (.aload_n 0, 1) := by decide +kernel
theorem dX8_chosen_8 : decode cX8_chosen 8 = .ok (.bipush (-7), 2) := by decide +kernel
theorem dX8_chosen_10 : decode cX8_chosen 10 = .ok (.invokevirtual 99, 3) := by decide +kernel
theorem dX8_chosen_13 : decode cX8_chosen 13 = .ok (.ireturn, 1) := by decide +kernel
theorem dX8_chosen_14 : decode cX8_chosen 14 = .ok (.aload_n 0, 1) := by decide +kernel
theorem dX8_chosen_15 : decode cX8_chosen 15 = .ok (.getfield 29, 3) := by decide +kernel
theorem dX8_chosen_18 : decode cX8_chosen 18 = .ok (.iload_n 1, 1) := by decide +kernel
theorem dX8_chosen_19 : decode cX8_chosen 19 = .ok (.invokevirtual 169, 3) := by decide +kernel
theorem dX8_chosen_22 : decode cX8_chosen 22 = .ok (.ifCond .eq 15, 3) := by decide +kernel
theorem dX8_chosen_25 : decode cX8_chosen 25 = .ok (.aload_n 0, 1) := by decide +kernel
theorem dX8_chosen_26 : decode cX8_chosen 26 = .ok (.getfield 29, 3) := by decide +kernel
theorem dX8_chosen_29 : decode cX8_chosen 29 = .ok (.iload_n 1, 1) := by decide +kernel
theorem dX8_chosen_30 : decode cX8_chosen 30 = .ok (.i2l, 1) := by decide +kernel
theorem dX8_chosen_31 : decode cX8_chosen 31 = .ok (.invokevirtual 172, 3) := by decide +kernel
theorem dX8_chosen_34 : decode cX8_chosen 34 = .ok (.goto 9, 3) := by decide +kernel
theorem dX8_chosen_37 : decode cX8_chosen 37 = .ok (.aload_n 0, 1) := by decide +kernel
theorem dX8_chosen_38 : decode cX8_chosen 38 = .ok (.bipush (-2), 2) := by decide +kernel
theorem dX8_chosen_40 : decode cX8_chosen 40 = .ok (.invokevirtual 99, 3) := by decide +kernel
theorem dX8_chosen_43 : decode cX8_chosen 43 = .ok (.ireturn, 1) := by decide +kernel
theorem dX8_run_0 : decode cX8_run 0 = .ok (.iload_n 1, 1) := by decide +kernel
theorem dX8_run_1 : decode cX8_run 1 = .ok (.iconst (-1), 1) := by decide +kernel
theorem dX8_run_2 : decode cX8_run 2 = .ok (.if_icmp .lt 12, 3) := by decide +kernel
theorem dX8_run_5 : decode cX8_run 5 = .ok (.iload_n 2, 1) := by decide +kernel
theorem dX8_run_6 : decode cX8_run 6 = .ok (.ifCond .lt 8, 3) := by decide +kernel
theorem dX8_run_9 : decode cX8_run 9 = .ok (.iload_n 2, 1) := by decide +kernel
theorem dX8_run_10 : decode cX8_run 10 = .ok (.iconst 2, 1) := by decide +kernel
theorem dX8_run_11 : decode cX8_run 11 = .ok (.if_icmp .le 9, 3) := by decide +kernel
theorem dX8_run_14 : decode cX8_run 14 = .ok (.aload_n 0, 1) := by decide +kernel
theorem dX8_run_15 : decode cX8_run 15 = .ok (.iconst (-1), 1) := by decide +kernel
theorem dX8_run_16 : decode cX8_run 16 = .ok (.invokevirtual 99, 3) := by decide +kernel
theorem dX8_run_19 : decode cX8_run 19 = .ok (.ireturn, 1) := by decide +kernel
theorem dX8_run_20 : decode cX8_run 20 = .ok (.aload_n 0, 1) := by decide +kernel
theorem dX8_run_21 : decode cX8_run 21 = .ok (.invokevirtual 165, 3) := by decide +kernel
theorem dX8_run_24 : decode cX8_run 24 = .ok (.ifCond .ne 10, 3) := by decide +kernel
theorem dX8_run_27 : decode cX8_run 27 = .ok (.aload_n 0, 1) := by decide +kernel
theorem dX8_run_28 : decode cX8_run 28 = .ok (.bipush (-7), 2) := by decide +kernel
theorem dX8_run_30 : decode cX8_run 30 = .ok (.invokevirtual 99, 3) := by decide +kernel
theorem dX8_run_33 : decode cX8_run 33 = .ok (.ireturn, 1) := by decide +kernel
theorem dX8_run_34 : decode cX8_run 34 = .ok (.aload_n 0, 1) := by decide +kernel
theorem dX8_run_35 : decode cX8_run 35 = .ok (.getfield 39, 3) := by decide +kernel
theorem dX8_run_38 : decode cX8_run 38 = .ok (.aload_n 0, 1) := by decide +kernel
theorem dX8_run_39 : decode cX8_run 39 = .ok (.getfield 29, 3) := by decide +kernel
theorem dX8_run_42 : decode cX8_run 42 = .ok (.invokevirtual 176, 3) := by decide +kernel
theorem dX8_run_45 : decode cX8_run 45 = .ok (.iload_n 1, 1) := by decide +kernel
theorem dX8_run_46 : decode cX8_run 46 = .ok (.iconst (-1), 1) := by decide +kernel
theorem dX8_run_47 : decode cX8_run 47 = .ok (.if_icmp .ne 11, 3) := by decide +kernel
theorem dX8_run_50 : decode cX8_run 50 = .ok (.aload_n 0, 1) := by decide +kernel
theorem dX8_run_51 : decode cX8_run 51 = .ok (.getfield 39, 3) := by decide +kernel
theorem dX8_run_54 : decode cX8_run 54 = .ok (.getfield 180, 3) := by decide +kernel
theorem dX8_run_57 : decode cX8_run 57 = .ok (.ireturn, 1) := by decide +kernel
theorem dX8_run_58 : decode cX8_run 58 = .ok (.iload_n 1, 1) := by decide +kernel
theorem dX8_run_59 : decode cX8_run 59 = .ok (.aload_n 0, 1) := by decide +kernel
theorem dX8_run_60 : decode cX8_run 60 = .ok (.getfield 39, 3) := by decide +kernel
theorem dX8_run_63 : decode cX8_run 63 = .ok (.getfield 180, 3) := by decide +kernel
theorem dX8_run_66 : decode cX8_run 66 = .ok (.if_icmp .lt 10, 3) := by decide +kernel
theorem dX8_run_69 : decode cX8_run 69 = .ok (.aload_n 0, 1) := by decide +kernel
theorem dX8_run_70 : decode cX8_run 70 = .ok (.bipush (-5), 2) := by decide +kernel
theorem dX8_run_72 : decode cX8_run 72 = .ok (.invokevirtual 99, 3) := by decide +kernel
theorem dX8_run_75 : decode cX8_run 75 = .ok (.ireturn, 1) := by decide +kernel
theorem dX8_run_76 : decode cX8_run 76 = .ok (.iload_n 2, 1) := by decide +kernel
theorem dX8_run_77 : decode cX8_run 77 = .ok (.lookupswitch 49 #[(0, 27), (1, 38)], 27) := by decide +kernel
theorem dX8_run_104 : decode cX8_run 104 = .ok (.aload_n 0, 1) := by decide +kernel
theorem dX8_run_105 : decode cX8_run 105 = .ok (.getfield 39, 3) := by decide +kernel
theorem dX8_run_108 : decode cX8_run 108 = .ok (.getfield 184, 3) := by decide +kernel
theorem dX8_run_111 : decode cX8_run 111 = .ok (.iload_n 1, 1) := by decide +kernel
theorem dX8_run_112 : decode cX8_run 112 = .ok (.laload, 1) := by decide +kernel
theorem dX8_run_113 : decode cX8_run 113 = .ok (.l2i, 1) := by decide +kernel
theorem dX8_run_114 : decode cX8_run 114 = .ok (.ireturn, 1) := by decide +kernel
theorem dX8_run_115 : decode cX8_run 115 = .ok (.aload_n 0, 1) := by decide +kernel
theorem dX8_run_116 : decode cX8_run 116 = .ok (.getfield 39, 3) := by decide +kernel
theorem dX8_run_119 : decode cX8_run 119 = .ok (.getfield 188, 3) := by decide +kernel
theorem dX8_run_122 : decode cX8_run 122 = .ok (.iload_n 1, 1) := by decide +kernel
theorem dX8_run_123 : decode cX8_run 123 = .ok (.laload, 1) := by decide +kernel
theorem dX8_run_124 : decode cX8_run 124 = .ok (.l2i, 1) := by decide +kernel
theorem dX8_run_125 : decode cX8_run 125 = .ok (.ireturn, 1) := by decide +kernel
theorem dX8_run_126 : decode cX8_run 126 = .ok (.aload_n 0, 1) := by decide +kernel
theorem dX8_run_127 : decode cX8_run 127 = .ok (.getfield 39, 3) := by decide +kernel
theorem dX8_run_130 : decode cX8_run 130 = .ok (.getfield 191, 3) := by decide +kernel
theorem dX8_run_133 : decode cX8_run 133 = .ok (.iload_n 1, 1) := by decide +kernel
theorem dX8_run_134 : decode cX8_run 134 = .ok (.iaload, 1) := by decide +kernel
theorem dX8_run_135 : decode cX8_run 135 = .ok (.ireturn, 1) := by decide +kernel
theorem dX8_joint_0 : decode cX8_joint 0 = .ok (.aload_n 0, 1) := by decide +kernel
theorem dX8_joint_1 : decode cX8_joint 1 = .ok (.getfield 12, 3) := by decide +kernel
theorem dX8_joint_4 : decode cX8_joint 4 = .ok (.iload_n 1, 1) := by decide +kernel
theorem dX8_joint_5 : decode cX8_joint 5 = .ok (.invokevirtual 95, 3) := by decide +kernel
theorem dX8_joint_8 : decode cX8_joint 8 = .ok (.ifCond .eq 14, 3) := by decide +kernel
theorem dX8_joint_11 : decode cX8_joint 11 = .ok (.aload_n 0, 1) := by decide +kernel
theorem dX8_joint_12 : decode cX8_joint 12 = .ok (.getfield 12, 3) := by decide +kernel
theorem dX8_joint_15 : decode cX8_joint 15 = .ok (.iload_n 2, 1) := by decide +kernel
theorem dX8_joint_16 : decode cX8_joint 16 = .ok (.invokevirtual 95, 3) := by decide +kernel
theorem dX8_joint_19 : decode cX8_joint 19 = .ok (.ifCond .ne 9, 3) := by decide +kernel
theorem dX8_joint_22 : decode cX8_joint 22 = .ok (.aload_n 0, 1) := by decide +kernel
theorem dX8_joint_23 : decode cX8_joint 23 = .ok (.iconst (-1), 1) := by decide +kernel
theorem dX8_joint_24 : decode cX8_joint 24 = .ok (.invokevirtual 112, 3) := by decide +kernel
theorem dX8_joint_27 : decode cX8_joint 27 = .ok (.lreturn, 1) := by decide +kernel
theorem dX8_joint_28 : decode cX8_joint 28 = .ok (.iload_n 3, 1) := by decide +kernel
theorem dX8_joint_29 : decode cX8_joint 29 = .ok (.invokestatic 132, 3) := by decide +kernel
theorem dX8_joint_32 : decode cX8_joint 32 = .ok (.ifCond .ne 10, 3) := by decide +kernel
theorem dX8_joint_35 : decode cX8_joint 35 = .ok (.aload_n 0, 1) := by decide +kernel
theorem dX8_joint_36 : decode cX8_joint 36 = .ok (.bipush (-2), 2) := by decide +kernel
theorem dX8_joint_38 : decode cX8_joint 38 = .ok (.invokevirtual 112, 3) := by decide +kernel
theorem dX8_joint_41 : decode cX8_joint 41 = .ok (.lreturn, 1) := by decide +kernel
theorem dX8_joint_42 : decode cX8_joint 42 = .ok (.aload_n 0, 1) := by decide +kernel
theorem dX8_joint_43 : decode cX8_joint 43 = .ok (.invokevirtual 165, 3) := by decide +kernel
theorem dX8_joint_46 : decode cX8_joint 46 = .ok (.ifCond .ne 10, 3) := by decide +kernel
theorem dX8_joint_49 : decode cX8_joint 49 = .ok (.aload_n 0, 1) := by decide +kernel
theorem dX8_joint_50 : decode cX8_joint 50 = .ok (.bipush (-7), 2) := by decide +kernel
theorem dX8_joint_52 : decode cX8_joint 52 = .ok (.invokevirtual 112, 3) := by decide +kernel
theorem dX8_joint_55 : decode cX8_joint 55 = .ok (.lreturn, 1) := by decide +kernel
theorem dX8_joint_56 : decode cX8_joint 56 = .ok (.aload_n 0, 1) := by decide +kernel
theorem dX8_joint_57 : decode cX8_joint 57 = .ok (.aload_n 0, 1) := by decide +kernel
theorem dX8_joint_58 : decode cX8_joint 58 = .ok (.getfield 29, 3) := by decide +kernel
theorem dX8_joint_61 : decode cX8_joint 61 = .ok (.iload_n 1, 1) := by decide +kernel
theorem dX8_joint_62 : decode cX8_joint 62 = .ok (.iload_n 2, 1) := by decide +kernel
theorem dX8_joint_63 : decode cX8_joint 63 = .ok (.invokevirtual 194, 3) := by decide +kernel
theorem dX8_joint_66 : decode cX8_joint 66 = .ok (.aload_n 0, 1) := by decide +kernel
theorem dX8_joint_67 : decode cX8_joint 67 = .ok (.getfield 29, 3) := by decide +kernel
theorem dX8_joint_70 : decode cX8_joint 70 = .ok (.getfield 198, 3) := by decide +kernel
theorem dX8_joint_73 : decode cX8_joint 73 = .ok (.iload_n 3, 1) := by decide +kernel
theorem dX8_joint_74 : decode cX8_joint 74 = .ok (.invokevirtual 141, 3) := by decide +kernel
theorem dX8_joint_77 : decode cX8_joint 77 = .ok (.lreturn, 1) := by decide +kernel
theorem dX8_joints_0 : decode cX8_joints 0 = .ok (.aload_n 0, 1) := by decide +kernel
theorem dX8_joints_1 : decode cX8_joints 1 = .ok (.getfield 12, 3) := by decide +kernel
theorem dX8_joints_4 : decode cX8_joints 4 = .ok (.iload_n 1, 1) := by decide +kernel
theorem dX8_joints_5 : decode cX8_joints 5 = .ok (.invokevirtual 95, 3) := by decide +kernel
theorem dX8_joints_8 : decode cX8_joints 8 = .ok (.ifCond .ne 9, 3) := by decide +kernel
theorem dX8_joints_11 : decode cX8_joints 11 = .ok (.aload_n 0, 1) := by decide +kernel
theorem dX8_joints_12 : decode cX8_joints 12 = .ok (.iconst (-1), 1) := by decide +kernel
theorem dX8_joints_13 : decode cX8_joints 13 = .ok (.invokevirtual 112, 3) := by decide +kernel
theorem dX8_joints_16 : decode cX8_joints 16 = .ok (.lreturn, 1) := by decide +kernel
theorem dX8_joints_17 : decode cX8_joints 17 = .ok (.iload_n 2, 1) := by decide +kernel
theorem dX8_joints_18 : decode cX8_joints 18 = .ok (.invokestatic 132, 3) := by decide +kernel
theorem dX8_joints_21 : decode cX8_joints 21 = .ok (.ifCond .ne 10, 3) := by decide +kernel
theorem dX8_joints_24 : decode cX8_joints 24 = .ok (.aload_n 0, 1) := by decide +kernel
theorem dX8_joints_25 : decode cX8_joints 25 = .ok (.bipush (-2), 2) := by decide +kernel
theorem dX8_joints_27 : decode cX8_joints 27 = .ok (.invokevirtual 112, 3) := by decide +kernel
theorem dX8_joints_30 : decode cX8_joints 30 = .ok (.lreturn, 1) := by decide +kernel
theorem dX8_joints_31 : decode cX8_joints 31 = .ok (.aload_n 0, 1) := by decide +kernel
theorem dX8_joints_32 : decode cX8_joints 32 = .ok (.invokevirtual 165, 3) := by decide +kernel
theorem dX8_joints_35 : decode cX8_joints 35 = .ok (.ifCond .ne 10, 3) := by decide +kernel
theorem dX8_joints_38 : decode cX8_joints 38 = .ok (.aload_n 0, 1) := by decide +kernel
theorem dX8_joints_39 : decode cX8_joints 39 = .ok (.bipush (-7), 2) := by decide +kernel
theorem dX8_joints_41 : decode cX8_joints 41 = .ok (.invokevirtual 112, 3) := by decide +kernel
theorem dX8_joints_44 : decode cX8_joints 44 = .ok (.lreturn, 1) := by decide +kernel
theorem dX8_joints_45 : decode cX8_joints 45 = .ok (.lconst 0, 1) := by decide +kernel
theorem dX8_joints_46 : decode cX8_joints 46 = .ok (.lstore_n 3, 1) := by decide +kernel
theorem dX8_joints_47 : decode cX8_joints 47 = .ok (.iconst 0, 1) := by decide +kernel
theorem dX8_joints_48 : decode cX8_joints 48 = .ok (.istore 5, 2) := by decide +kernel
theorem dX8_joints_50 : decode cX8_joints 50 = .ok (.iload 5, 2) := by decide +kernel
theorem dX8_joints_52 : decode cX8_joints 52 = .ok (.aload_n 0, 1) := by decide +kernel
theorem dX8_joints_53 : decode cX8_joints 53 = .ok (.getfield 12, 3) := by decide +kernel
theorem dX8_joints_56 : decode cX8_joints 56 = .ok (.getfield 201, 3) := by decide +kernel
theorem dX8_joints_59 : decode cX8_joints 59 = .ok (.if_icmp .ge 22, 3) := by decide +kernel
theorem dX8_joints_62 : decode cX8_joints 62 = .ok (.lload_n 3, 1) := by decide +kernel
theorem dX8_joints_63 : decode cX8_joints 63 = .ok (.aload_n 0, 1) := by decide +kernel
theorem dX8_joints_64 : decode cX8_joints 64 = .ok (.getfield 29, 3) := by decide +kernel
theorem dX8_joints_67 : decode cX8_joints 67 = .ok (.iload_n 1, 1) := by decide +kernel
theorem dX8_joints_68 : decode cX8_joints 68 = .ok (.iload 5, 2) := by decide +kernel
theorem dX8_joints_70 : decode cX8_joints 70 = .ok (.invokevirtual 194, 3) := by decide +kernel
theorem dX8_joints_73 : decode cX8_joints 73 = .ok (.ladd, 1) := by decide +kernel
theorem dX8_joints_74 : decode cX8_joints 74 = .ok (.lstore_n 3, 1) := by decide +kernel
theorem dX8_joints_75 : decode cX8_joints 75 = .ok (.iinc 5 1, 3) := by decide +kernel
theorem dX8_joints_78 : decode cX8_joints 78 = .ok (.goto (-28), 3) := by decide +kernel
theorem dX8_joints_81 : decode cX8_joints 81 = .ok (.aload_n 0, 1) := by decide +kernel
theorem dX8_joints_82 : decode cX8_joints 82 = .ok (.lload_n 3, 1) := by decide +kernel
theorem dX8_joints_83 : decode cX8_joints 83 = .ok (.aload_n 0, 1) := by decide +kernel
theorem dX8_joints_84 : decode cX8_joints 84 = .ok (.getfield 29, 3) := by decide +kernel
theorem dX8_joints_87 : decode cX8_joints 87 = .ok (.getfield 198, 3) := by decide +kernel
theorem dX8_joints_90 : decode cX8_joints 90 = .ok (.iload_n 2, 1) := by decide +kernel
theorem dX8_joints_91 : decode cX8_joints 91 = .ok (.invokevirtual 141, 3) := by decide +kernel
theorem dX8_joints_94 : decode cX8_joints 94 = .ok (.lreturn, 1) := by decide +kernel
theorem dX8_fair_0 : decode cX8_fair 0 = .ok (.iload_n 1, 1) := by decide +kernel
theorem dX8_fair_1 : decode cX8_fair 1 = .ok (.ifCond .lt 8, 3) := by decide +kernel
theorem dX8_fair_4 : decode cX8_fair 4 = .ok (.iload_n 1, 1) := by decide +kernel
theorem dX8_fair_5 : decode cX8_fair 5 = .ok (.iconst 3, 1) := by decide +kernel
theorem dX8_fair_6 : decode cX8_fair 6 = .ok (.if_icmp .le 9, 3) := by decide +kernel
theorem dX8_fair_9 : decode cX8_fair 9 = .ok (.aload_n 0, 1) := by decide +kernel
theorem dX8_fair_10 : decode cX8_fair 10 = .ok (.iconst (-1), 1) := by decide +kernel
theorem dX8_fair_11 : decode cX8_fair 11 = .ok (.invokevirtual 99, 3) := by decide +kernel
theorem dX8_fair_14 : decode cX8_fair 14 = .ok (.ireturn, 1) := by decide +kernel
theorem dX8_fair_15 : decode cX8_fair 15 = .ok (.aload_n 0, 1) := by decide +kernel
theorem dX8_fair_16 : decode cX8_fair 16 = .ok (.invokevirtual 165, 3) := by decide +kernel
theorem dX8_fair_19 : decode cX8_fair 19 = .ok (.ifCond .ne 10, 3) := by decide +kernel
theorem dX8_fair_22 : decode cX8_fair 22 = .ok (.aload_n 0, 1) := by decide +kernel
theorem dX8_fair_23 : decode cX8_fair 23 = .ok (.bipush (-7), 2) := by decide +kernel
theorem dX8_fair_25 : decode cX8_fair 25 = .ok (.invokevirtual 99, 3) := by decide +kernel
theorem dX8_fair_28 : decode cX8_fair 28 = .ok (.ireturn, 1) := by decide +kernel
theorem dX8_fair_29 : decode cX8_fair 29 = .ok (.aload_n 0, 1) := by decide +kernel
theorem dX8_fair_30 : decode cX8_fair 30 = .ok (.getfield 39, 3) := by decide +kernel
theorem dX8_fair_33 : decode cX8_fair 33 = .ok (.aload_n 0, 1) := by decide +kernel
theorem dX8_fair_34 : decode cX8_fair 34 = .ok (.getfield 29, 3) := by decide +kernel
theorem dX8_fair_37 : decode cX8_fair 37 = .ok (.invokevirtual 176, 3) := by decide +kernel
theorem dX8_fair_40 : decode cX8_fair 40 = .ok (.aload_n 0, 1) := by decide +kernel
theorem dX8_fair_41 : decode cX8_fair 41 = .ok (.iload_n 1, 1) := by decide +kernel
theorem dX8_fair_42 : decode cX8_fair 42 = .ok (.invokevirtual 204, 3) := by decide +kernel
theorem dX8_fair_45 : decode cX8_fair 45 = .ok (.ifCond .eq 7, 3) := by decide +kernel
theorem dX8_fair_48 : decode cX8_fair 48 = .ok (.iconst 1, 1) := by decide +kernel
theorem dX8_fair_49 : decode cX8_fair 49 = .ok (.goto 4, 3) := by decide +kernel
theorem dX8_fair_52 : decode cX8_fair 52 = .ok (.iconst 0, 1) := by decide +kernel
theorem dX8_fair_53 : decode cX8_fair 53 = .ok (.ireturn, 1) := by decide +kernel
theorem dX8_estimate_0 : decode cX8_estimate 0 = .ok (.iload_n 2, 1) := by decide +kernel
theorem dX8_estimate_1 : decode cX8_estimate 1 = .ok (.invokestatic 132, 3) := by decide +kernel
theorem dX8_estimate_4 : decode cX8_estimate 4 = .ok (.ifCond .ne 10, 3) := by decide +kernel
theorem dX8_estimate_7 : decode cX8_estimate 7 = .ok (.aload_n 0, 1) := by decide +kernel
theorem dX8_estimate_8 : decode cX8_estimate 8 = .ok (.bipush (-2), 2) := by decide +kernel
theorem dX8_estimate_10 : decode cX8_estimate 10 = .ok (.invokevirtual 112, 3) := by decide +kernel
theorem dX8_estimate_13 : decode cX8_estimate 13 = .ok (.lreturn, 1) := by decide +kernel
theorem dX8_estimate_14 : decode cX8_estimate 14 = .ok (.aload_n 0, 1) := by decide +kernel
theorem dX8_estimate_15 : decode cX8_estimate 15 = .ok (.invokevirtual 165, 3) := by decide +kernel
theorem dX8_estimate_18 : decode cX8_estimate 18 = .ok (.ifCond .ne 10, 3) := by decide +kernel
theorem dX8_estimate_21 : decode cX8_estimate 21 = .ok (.aload_n 0, 1) := by decide +kernel
theorem dX8_estimate_22 : decode cX8_estimate 22 = .ok (.bipush (-7), 2) := by decide +kernel
theorem dX8_estimate_24 : decode cX8_estimate 24 = .ok (.invokevirtual 112, 3) := by decide +kernel
theorem dX8_estimate_27 : decode cX8_estimate 27 = .ok (.lreturn, 1) := by decide +kernel
theorem dX8_estimate_28 : decode cX8_estimate 28 = .ok (.aload_n 0, 1) := by decide +kernel
theorem dX8_estimate_29 : decode cX8_estimate 29 = .ok (.getfield 29, 3) := by decide +kernel
theorem dX8_estimate_32 : decode cX8_estimate 32 = .ok (.iload_n 1, 1) := by decide +kernel
theorem dX8_estimate_33 : decode cX8_estimate 33 = .ok (.invokevirtual 169, 3) := by decide +kernel
theorem dX8_estimate_36 : decode cX8_estimate 36 = .ok (.ifCond .ne 10, 3) := by decide +kernel
theorem dX8_estimate_39 : decode cX8_estimate 39 = .ok (.aload_n 0, 1) := by decide +kernel
theorem dX8_estimate_40 : decode cX8_estimate 40 = .ok (.bipush (-2), 2) := by decide +kernel
theorem dX8_estimate_42 : decode cX8_estimate 42 = .ok (.invokevirtual 112, 3) := by decide +kernel
theorem dX8_estimate_45 : decode cX8_estimate 45 = .ok (.lreturn, 1) := by decide +kernel
theorem dX8_estimate_46 : decode cX8_estimate 46 = .ok (.aload_n 0, 1) := by decide +kernel
theorem dX8_estimate_47 : decode cX8_estimate 47 = .ok (.getfield 46, 3) := by decide +kernel
theorem dX8_estimate_50 : decode cX8_estimate 50 = .ok (.lconst 0, 1) := by decide +kernel
theorem dX8_estimate_51 : decode cX8_estimate 51 = .ok (.lconst 1, 1) := by decide +kernel
theorem dX8_estimate_52 : decode cX8_estimate 52 = .ok (.invokevirtual 207, 3) := by decide +kernel
theorem dX8_estimate_55 : decode cX8_estimate 55 = .ok (.aload_n 0, 1) := by decide +kernel
theorem dX8_estimate_56 : decode cX8_estimate 56 = .ok (.aload_n 0, 1) := by decide +kernel
theorem dX8_estimate_57 : decode cX8_estimate 57 = .ok (.getfield 46, 3) := by decide +kernel
theorem dX8_estimate_60 : decode cX8_estimate 60 = .ok (.aload_n 0, 1) := by decide +kernel
theorem dX8_estimate_61 : decode cX8_estimate 61 = .ok (.getfield 29, 3) := by decide +kernel
theorem dX8_estimate_64 : decode cX8_estimate 64 = .ok (.iload_n 1, 1) := by decide +kernel
theorem dX8_estimate_65 : decode cX8_estimate 65 = .ok (.i2l, 1) := by decide +kernel
theorem dX8_estimate_66 : decode cX8_estimate 66 = .ok (.invokevirtual 172, 3) := by decide +kernel
theorem dX8_estimate_69 : decode cX8_estimate 69 = .ok (.invokevirtual 211, 3) := by decide +kernel
theorem dX8_estimate_72 : decode cX8_estimate 72 = .ok (.aload_n 0, 1) := by decide +kernel
theorem dX8_estimate_73 : decode cX8_estimate 73 = .ok (.aload_n 0, 1) := by decide +kernel
theorem dX8_estimate_74 : decode cX8_estimate 74 = .ok (.getfield 46, 3) := by decide +kernel
theorem dX8_estimate_77 : decode cX8_estimate 77 = .ok (.iload_n 2, 1) := by decide +kernel
theorem dX8_estimate_78 : decode cX8_estimate 78 = .ok (.invokevirtual 215, 3) := by decide +kernel
theorem dX8_estimate_81 : decode cX8_estimate 81 = .ok (.lreturn, 1) := by decide +kernel
theorem dX8_mean_0 : decode cX8_mean 0 = .ok (.aload_n 0, 1) := by decide +kernel
theorem dX8_mean_1 : decode cX8_mean 1 = .ok (.iload_n 1, 1) := by decide +kernel
theorem dX8_mean_2 : decode cX8_mean 2 = .ok (.iconst 0, 1) := by decide +kernel
theorem dX8_mean_3 : decode cX8_mean 3 = .ok (.invokevirtual 219, 3) := by decide +kernel
theorem dX8_mean_6 : decode cX8_mean 6 = .ok (.lreturn, 1) := by decide +kernel
theorem dX8_spread_0 : decode cX8_spread 0 = .ok (.aload_n 0, 1) := by decide +kernel
theorem dX8_spread_1 : decode cX8_spread 1 = .ok (.iload_n 1, 1) := by decide +kernel
theorem dX8_spread_2 : decode cX8_spread 2 = .ok (.iconst 1, 1) := by decide +kernel
theorem dX8_spread_3 : decode cX8_spread 3 = .ok (.invokevirtual 219, 3) := by decide +kernel
theorem dX8_spread_6 : decode cX8_spread 6 = .ok (.lreturn, 1) := by decide +kernel
theorem dX8_twice_0 : decode cX8_twice 0 = .ok (.aload_n 0, 1) := by decide +kernel
theorem dX8_twice_1 : decode cX8_twice 1 = .ok (.invokevirtual 165, 3) := by decide +kernel
theorem dX8_twice_4 : decode cX8_twice 4 = .ok (.ifCond .ne 10, 3) := by decide +kernel
theorem dX8_twice_7 : decode cX8_twice 7 = .ok (.aload_n 0, 1) := by decide +kernel
theorem dX8_twice_8 : decode cX8_twice 8 = .ok (.bipush (-7), 2) := by decide +kernel
theorem dX8_twice_10 : decode cX8_twice 10 = .ok (.invokevirtual 99, 3) := by decide +kernel
theorem dX8_twice_13 : decode cX8_twice 13 = .ok (.ireturn, 1) := by decide +kernel
theorem dX8_twice_14 : decode cX8_twice 14 = .ok (.aload_n 0, 1) := by decide +kernel
theorem dX8_twice_15 : decode cX8_twice 15 = .ok (.getfield 12, 3) := by decide +kernel
theorem dX8_twice_18 : decode cX8_twice 18 = .ok (.iconst 1, 1) := by decide +kernel
theorem dX8_twice_19 : decode cX8_twice 19 = .ok (.invokevirtual 154, 3) := by decide +kernel
theorem dX8_twice_22 : decode cX8_twice 22 = .ok (.lstore_n 3, 1) := by decide +kernel
theorem dX8_twice_23 : decode cX8_twice 23 = .ok (.lload_n 3, 1) := by decide +kernel
theorem dX8_twice_24 : decode cX8_twice 24 = .ok (.lconst 1, 1) := by decide +kernel
theorem dX8_twice_25 : decode cX8_twice 25 = .ok (.lcmp, 1) := by decide +kernel
theorem dX8_twice_26 : decode cX8_twice 26 = .ok (.ifCond .ge 10, 3) := by decide +kernel
theorem dX8_twice_29 : decode cX8_twice 29 = .ok (.aload_n 0, 1) := by decide +kernel
theorem dX8_twice_30 : decode cX8_twice 30 = .ok (.bipush (-7), 2) := by decide +kernel
theorem dX8_twice_32 : decode cX8_twice 32 = .ok (.invokevirtual 99, 3) := by decide +kernel
theorem dX8_twice_35 : decode cX8_twice 35 = .ok (.ireturn, 1) := by decide +kernel
theorem dX8_twice_36 : decode cX8_twice 36 = .ok (.aload_n 0, 1) := by decide +kernel
theorem dX8_twice_37 : decode cX8_twice 37 = .ok (.getfield 29, 3) := by decide +kernel
theorem dX8_twice_40 : decode cX8_twice 40 = .ok (.iload_n 1, 1) := by decide +kernel
theorem dX8_twice_41 : decode cX8_twice 41 = .ok (.invokevirtual 169, 3) := by decide +kernel
theorem dX8_twice_44 : decode cX8_twice 44 = .ok (.ifCond .eq 14, 3) := by decide +kernel
theorem dX8_twice_47 : decode cX8_twice 47 = .ok (.iload_n 2, 1) := by decide +kernel
theorem dX8_twice_48 : decode cX8_twice 48 = .ok (.ifCond .lt 10, 3) := by decide +kernel
theorem dX8_twice_51 : decode cX8_twice 51 = .ok (.iload_n 2, 1) := by decide +kernel
theorem dX8_twice_52 : decode cX8_twice 52 = .ok (.i2l, 1) := by decide +kernel
theorem dX8_twice_53 : decode cX8_twice 53 = .ok (.lload_n 3, 1) := by decide +kernel
theorem dX8_twice_54 : decode cX8_twice 54 = .ok (.lcmp, 1) := by decide +kernel
theorem dX8_twice_55 : decode cX8_twice 55 = .ok (.ifCond .lt 10, 3) := by decide +kernel
theorem dX8_twice_58 : decode cX8_twice 58 = .ok (.aload_n 0, 1) := by decide +kernel
theorem dX8_twice_59 : decode cX8_twice 59 = .ok (.bipush (-2), 2) := by decide +kernel
theorem dX8_twice_61 : decode cX8_twice 61 = .ok (.invokevirtual 99, 3) := by decide +kernel
theorem dX8_twice_64 : decode cX8_twice 64 = .ok (.ireturn, 1) := by decide +kernel
theorem dX8_twice_65 : decode cX8_twice 65 = .ok (.aload_n 0, 1) := by decide +kernel
theorem dX8_twice_66 : decode cX8_twice 66 = .ok (.getfield 33, 3) := by decide +kernel
theorem dX8_twice_69 : decode cX8_twice 69 = .ok (.aload_n 0, 1) := by decide +kernel
theorem dX8_twice_70 : decode cX8_twice 70 = .ok (.getfield 12, 3) := by decide +kernel
theorem dX8_twice_73 : decode cX8_twice 73 = .ok (.iconst 1, 1) := by decide +kernel
theorem dX8_twice_74 : decode cX8_twice 74 = .ok (.lload_n 3, 1) := by decide +kernel
theorem dX8_twice_75 : decode cX8_twice 75 = .ok (.aload_n 0, 1) := by decide +kernel
theorem dX8_twice_76 : decode cX8_twice 76 = .ok (.getfield 29, 3) := by decide +kernel
theorem dX8_twice_79 : decode cX8_twice 79 = .ok (.iload_n 1, 1) := by decide +kernel
theorem dX8_twice_80 : decode cX8_twice 80 = .ok (.i2l, 1) := by decide +kernel
theorem dX8_twice_81 : decode cX8_twice 81 = .ok (.invokevirtual 172, 3) := by decide +kernel
theorem dX8_twice_84 : decode cX8_twice 84 = .ok (.invokevirtual 223, 3) := by decide +kernel
theorem dX8_twice_87 : decode cX8_twice 87 = .ok (.aload_n 0, 1) := by decide +kernel
theorem dX8_twice_88 : decode cX8_twice 88 = .ok (.getfield 33, 3) := by decide +kernel
theorem dX8_twice_91 : decode cX8_twice 91 = .ok (.iload_n 2, 1) := by decide +kernel
theorem dX8_twice_92 : decode cX8_twice 92 = .ok (.i2l, 1) := by decide +kernel
theorem dX8_twice_93 : decode cX8_twice 93 = .ok (.invokevirtual 172, 3) := by decide +kernel
theorem dX8_twice_96 : decode cX8_twice 96 = .ok (.ireturn, 1) := by decide +kernel
theorem dX8_both_0 : decode cX8_both 0 = .ok (.aload_n 0, 1) := by decide +kernel
theorem dX8_both_1 : decode cX8_both 1 = .ok (.getfield 12, 3) := by decide +kernel
theorem dX8_both_4 : decode cX8_both 4 = .ok (.iload_n 1, 1) := by decide +kernel
theorem dX8_both_5 : decode cX8_both 5 = .ok (.invokevirtual 95, 3) := by decide +kernel
theorem dX8_both_8 : decode cX8_both 8 = .ok (.ifCond .eq 14, 3) := by decide +kernel
theorem dX8_both_11 : decode cX8_both 11 = .ok (.aload_n 0, 1) := by decide +kernel
theorem dX8_both_12 : decode cX8_both 12 = .ok (.getfield 12, 3) := by decide +kernel
theorem dX8_both_15 : decode cX8_both 15 = .ok (.iload_n 2, 1) := by decide +kernel
theorem dX8_both_16 : decode cX8_both 16 = .ok (.invokevirtual 95, 3) := by decide +kernel
theorem dX8_both_19 : decode cX8_both 19 = .ok (.ifCond .ne 9, 3) := by decide +kernel
theorem dX8_both_22 : decode cX8_both 22 = .ok (.aload_n 0, 1) := by decide +kernel
theorem dX8_both_23 : decode cX8_both 23 = .ok (.iconst (-1), 1) := by decide +kernel
theorem dX8_both_24 : decode cX8_both 24 = .ok (.invokevirtual 112, 3) := by decide +kernel
theorem dX8_both_27 : decode cX8_both 27 = .ok (.lreturn, 1) := by decide +kernel
theorem dX8_both_28 : decode cX8_both 28 = .ok (.iload_n 3, 1) := by decide +kernel
theorem dX8_both_29 : decode cX8_both 29 = .ok (.invokestatic 132, 3) := by decide +kernel
theorem dX8_both_32 : decode cX8_both 32 = .ok (.ifCond .ne 10, 3) := by decide +kernel
theorem dX8_both_35 : decode cX8_both 35 = .ok (.aload_n 0, 1) := by decide +kernel
theorem dX8_both_36 : decode cX8_both 36 = .ok (.bipush (-2), 2) := by decide +kernel
theorem dX8_both_38 : decode cX8_both 38 = .ok (.invokevirtual 112, 3) := by decide +kernel
theorem dX8_both_41 : decode cX8_both 41 = .ok (.lreturn, 1) := by decide +kernel
theorem dX8_both_42 : decode cX8_both 42 = .ok (.aload_n 0, 1) := by decide +kernel
theorem dX8_both_43 : decode cX8_both 43 = .ok (.getfield 12, 3) := by decide +kernel
theorem dX8_both_46 : decode cX8_both 46 = .ok (.iconst 1, 1) := by decide +kernel
theorem dX8_both_47 : decode cX8_both 47 = .ok (.invokevirtual 154, 3) := by decide +kernel
theorem dX8_both_50 : decode cX8_both 50 = .ok (.lstore 4, 2) := by decide +kernel
theorem dX8_both_52 : decode cX8_both 52 = .ok (.aload_n 0, 1) := by decide +kernel
theorem dX8_both_53 : decode cX8_both 53 = .ok (.invokevirtual 165, 3) := by decide +kernel
theorem dX8_both_56 : decode cX8_both 56 = .ok (.ifCond .eq 10, 3) := by decide +kernel
theorem dX8_both_59 : decode cX8_both 59 = .ok (.lload 4, 2) := by decide +kernel
theorem dX8_both_61 : decode cX8_both 61 = .ok (.lconst 1, 1) := by decide +kernel
theorem dX8_both_62 : decode cX8_both 62 = .ok (.lcmp, 1) := by decide +kernel
theorem dX8_both_63 : decode cX8_both 63 = .ok (.ifCond .ge 10, 3) := by decide +kernel
theorem dX8_both_66 : decode cX8_both 66 = .ok (.aload_n 0, 1) := by decide +kernel
theorem dX8_both_67 : decode cX8_both 67 = .ok (.bipush (-7), 2) := by decide +kernel
theorem dX8_both_69 : decode cX8_both 69 = .ok (.invokevirtual 112, 3) := by decide +kernel
theorem dX8_both_72 : decode cX8_both 72 = .ok (.lreturn, 1) := by decide +kernel
theorem dX8_both_73 : decode cX8_both 73 = .ok (.aload_n 0, 1) := by decide +kernel
theorem dX8_both_74 : decode cX8_both 74 = .ok (.aload_n 0, 1) := by decide +kernel
theorem dX8_both_75 : decode cX8_both 75 = .ok (.iload_n 1, 1) := by decide +kernel
theorem dX8_both_76 : decode cX8_both 76 = .ok (.iload_n 2, 1) := by decide +kernel
theorem dX8_both_77 : decode cX8_both 77 = .ok (.lload 4, 2) := by decide +kernel
theorem dX8_both_79 : decode cX8_both 79 = .ok (.invokevirtual 227, 3) := by decide +kernel
theorem dX8_both_82 : decode cX8_both 82 = .ok (.aload_n 0, 1) := by decide +kernel
theorem dX8_both_83 : decode cX8_both 83 = .ok (.getfield 29, 3) := by decide +kernel
theorem dX8_both_86 : decode cX8_both 86 = .ok (.getfield 198, 3) := by decide +kernel
theorem dX8_both_89 : decode cX8_both 89 = .ok (.lload 4, 2) := by decide +kernel
theorem dX8_both_91 : decode cX8_both 91 = .ok (.lmul, 1) := by decide +kernel
theorem dX8_both_92 : decode cX8_both 92 = .ok (.iload_n 3, 1) := by decide +kernel
theorem dX8_both_93 : decode cX8_both 93 = .ok (.invokevirtual 141, 3) := by decide +kernel
theorem dX8_both_96 : decode cX8_both 96 = .ok (.lreturn, 1) := by decide +kernel
theorem dX8_kept_0 : decode cX8_kept 0 = .ok (.aload_n 0, 1) := by decide +kernel
theorem dX8_kept_1 : decode cX8_kept 1 = .ok (.getfield 12, 3) := by decide +kernel
theorem dX8_kept_4 : decode cX8_kept 4 = .ok (.iload_n 1, 1) := by decide +kernel
theorem dX8_kept_5 : decode cX8_kept 5 = .ok (.invokevirtual 95, 3) := by decide +kernel
theorem dX8_kept_8 : decode cX8_kept 8 = .ok (.ifCond .ne 9, 3) := by decide +kernel
theorem dX8_kept_11 : decode cX8_kept 11 = .ok (.aload_n 0, 1) := by decide +kernel
theorem dX8_kept_12 : decode cX8_kept 12 = .ok (.iconst (-1), 1) := by decide +kernel
theorem dX8_kept_13 : decode cX8_kept 13 = .ok (.invokevirtual 112, 3) := by decide +kernel
theorem dX8_kept_16 : decode cX8_kept 16 = .ok (.lreturn, 1) := by decide +kernel
theorem dX8_kept_17 : decode cX8_kept 17 = .ok (.iload_n 3, 1) := by decide +kernel
theorem dX8_kept_18 : decode cX8_kept 18 = .ok (.invokestatic 132, 3) := by decide +kernel
theorem dX8_kept_21 : decode cX8_kept 21 = .ok (.ifCond .ne 10, 3) := by decide +kernel
theorem dX8_kept_24 : decode cX8_kept 24 = .ok (.aload_n 0, 1) := by decide +kernel
theorem dX8_kept_25 : decode cX8_kept 25 = .ok (.bipush (-2), 2) := by decide +kernel
theorem dX8_kept_27 : decode cX8_kept 27 = .ok (.invokevirtual 112, 3) := by decide +kernel
theorem dX8_kept_30 : decode cX8_kept 30 = .ok (.lreturn, 1) := by decide +kernel
theorem dX8_kept_31 : decode cX8_kept 31 = .ok (.aload_n 0, 1) := by decide +kernel
theorem dX8_kept_32 : decode cX8_kept 32 = .ok (.invokevirtual 230, 3) := by decide +kernel
theorem dX8_kept_35 : decode cX8_kept 35 = .ok (.ifCond .ne 10, 3) := by decide +kernel
theorem dX8_kept_38 : decode cX8_kept 38 = .ok (.aload_n 0, 1) := by decide +kernel
theorem dX8_kept_39 : decode cX8_kept 39 = .ok (.bipush (-7), 2) := by decide +kernel
theorem dX8_kept_41 : decode cX8_kept 41 = .ok (.invokevirtual 112, 3) := by decide +kernel
theorem dX8_kept_44 : decode cX8_kept 44 = .ok (.lreturn, 1) := by decide +kernel
theorem dX8_kept_45 : decode cX8_kept 45 = .ok (.aload_n 0, 1) := by decide +kernel
theorem dX8_kept_46 : decode cX8_kept 46 = .ok (.getfield 29, 3) := by decide +kernel
theorem dX8_kept_49 : decode cX8_kept 49 = .ok (.iload_n 2, 1) := by decide +kernel
theorem dX8_kept_50 : decode cX8_kept 50 = .ok (.invokevirtual 169, 3) := by decide +kernel
theorem dX8_kept_53 : decode cX8_kept 53 = .ok (.ifCond .ne 10, 3) := by decide +kernel
theorem dX8_kept_56 : decode cX8_kept 56 = .ok (.aload_n 0, 1) := by decide +kernel
theorem dX8_kept_57 : decode cX8_kept 57 = .ok (.bipush (-2), 2) := by decide +kernel
theorem dX8_kept_59 : decode cX8_kept 59 = .ok (.invokevirtual 112, 3) := by decide +kernel
theorem dX8_kept_62 : decode cX8_kept 62 = .ok (.lreturn, 1) := by decide +kernel
theorem dX8_kept_63 : decode cX8_kept 63 = .ok (.aload_n 0, 1) := by decide +kernel
theorem dX8_kept_64 : decode cX8_kept 64 = .ok (.aload_n 0, 1) := by decide +kernel
theorem dX8_kept_65 : decode cX8_kept 65 = .ok (.iload_n 1, 1) := by decide +kernel
theorem dX8_kept_66 : decode cX8_kept 66 = .ok (.iload_n 2, 1) := by decide +kernel
theorem dX8_kept_67 : decode cX8_kept 67 = .ok (.i2l, 1) := by decide +kernel
theorem dX8_kept_68 : decode cX8_kept 68 = .ok (.invokevirtual 233, 3) := by decide +kernel
theorem dX8_kept_71 : decode cX8_kept 71 = .ok (.aload_n 0, 1) := by decide +kernel
theorem dX8_kept_72 : decode cX8_kept 72 = .ok (.getfield 29, 3) := by decide +kernel
theorem dX8_kept_75 : decode cX8_kept 75 = .ok (.getfield 198, 3) := by decide +kernel
theorem dX8_kept_78 : decode cX8_kept 78 = .ok (.iload_n 3, 1) := by decide +kernel
theorem dX8_kept_79 : decode cX8_kept 79 = .ok (.invokevirtual 141, 3) := by decide +kernel
theorem dX8_kept_82 : decode cX8_kept 82 = .ok (.lreturn, 1) := by decide +kernel
theorem dX8_overlap_0 : decode cX8_overlap 0 = .ok (.iload_n 2, 1) := by decide +kernel
theorem dX8_overlap_1 : decode cX8_overlap 1 = .ok (.invokestatic 132, 3) := by decide +kernel
theorem dX8_overlap_4 : decode cX8_overlap 4 = .ok (.ifCond .ne 10, 3) := by decide +kernel
theorem dX8_overlap_7 : decode cX8_overlap 7 = .ok (.aload_n 0, 1) := by decide +kernel
theorem dX8_overlap_8 : decode cX8_overlap 8 = .ok (.bipush (-2), 2) := by decide +kernel
theorem dX8_overlap_10 : decode cX8_overlap 10 = .ok (.invokevirtual 112, 3) := by decide +kernel
theorem dX8_overlap_13 : decode cX8_overlap 13 = .ok (.lreturn, 1) := by decide +kernel
theorem dX8_overlap_14 : decode cX8_overlap 14 = .ok (.aload_n 0, 1) := by decide +kernel
theorem dX8_overlap_15 : decode cX8_overlap 15 = .ok (.invokevirtual 230, 3) := by decide +kernel
theorem dX8_overlap_18 : decode cX8_overlap 18 = .ok (.ifCond .ne 10, 3) := by decide +kernel
theorem dX8_overlap_21 : decode cX8_overlap 21 = .ok (.aload_n 0, 1) := by decide +kernel
theorem dX8_overlap_22 : decode cX8_overlap 22 = .ok (.bipush (-7), 2) := by decide +kernel
theorem dX8_overlap_24 : decode cX8_overlap 24 = .ok (.invokevirtual 112, 3) := by decide +kernel
theorem dX8_overlap_27 : decode cX8_overlap 27 = .ok (.lreturn, 1) := by decide +kernel
theorem dX8_overlap_28 : decode cX8_overlap 28 = .ok (.aload_n 0, 1) := by decide +kernel
theorem dX8_overlap_29 : decode cX8_overlap 29 = .ok (.getfield 29, 3) := by decide +kernel
theorem dX8_overlap_32 : decode cX8_overlap 32 = .ok (.iload_n 1, 1) := by decide +kernel
theorem dX8_overlap_33 : decode cX8_overlap 33 = .ok (.invokevirtual 169, 3) := by decide +kernel
theorem dX8_overlap_36 : decode cX8_overlap 36 = .ok (.ifCond .ne 10, 3) := by decide +kernel
theorem dX8_overlap_39 : decode cX8_overlap 39 = .ok (.aload_n 0, 1) := by decide +kernel
theorem dX8_overlap_40 : decode cX8_overlap 40 = .ok (.bipush (-2), 2) := by decide +kernel
theorem dX8_overlap_42 : decode cX8_overlap 42 = .ok (.invokevirtual 112, 3) := by decide +kernel
theorem dX8_overlap_45 : decode cX8_overlap 45 = .ok (.lreturn, 1) := by decide +kernel
theorem dX8_overlap_46 : decode cX8_overlap 46 = .ok (.aload_n 0, 1) := by decide +kernel
theorem dX8_overlap_47 : decode cX8_overlap 47 = .ok (.aload_n 0, 1) := by decide +kernel
theorem dX8_overlap_48 : decode cX8_overlap 48 = .ok (.iload_n 1, 1) := by decide +kernel
theorem dX8_overlap_49 : decode cX8_overlap 49 = .ok (.i2l, 1) := by decide +kernel
theorem dX8_overlap_50 : decode cX8_overlap 50 = .ok (.invokevirtual 236, 3) := by decide +kernel
theorem dX8_overlap_53 : decode cX8_overlap 53 = .ok (.aload_n 0, 1) := by decide +kernel
theorem dX8_overlap_54 : decode cX8_overlap 54 = .ok (.getfield 29, 3) := by decide +kernel
theorem dX8_overlap_57 : decode cX8_overlap 57 = .ok (.getfield 198, 3) := by decide +kernel
theorem dX8_overlap_60 : decode cX8_overlap 60 = .ok (.iload_n 2, 1) := by decide +kernel
theorem dX8_overlap_61 : decode cX8_overlap 61 = .ok (.invokevirtual 141, 3) := by decide +kernel
theorem dX8_overlap_64 : decode cX8_overlap 64 = .ok (.lreturn, 1) := by decide +kernel
theorem dX8_shift_0 : decode cX8_shift 0 = .ok (.iload_n 1, 1) := by decide +kernel
theorem dX8_shift_1 : decode cX8_shift 1 = .ok (.ifCond .lt 8, 3) := by decide +kernel
theorem dX8_shift_4 : decode cX8_shift 4 = .ok (.iload_n 1, 1) := by decide +kernel
theorem dX8_shift_5 : decode cX8_shift 5 = .ok (.iconst 1, 1) := by decide +kernel
theorem dX8_shift_6 : decode cX8_shift 6 = .ok (.if_icmp .le 9, 3) := by decide +kernel
theorem dX8_shift_9 : decode cX8_shift 9 = .ok (.aload_n 0, 1) := by decide +kernel
theorem dX8_shift_10 : decode cX8_shift 10 = .ok (.iconst (-1), 1) := by decide +kernel
theorem dX8_shift_11 : decode cX8_shift 11 = .ok (.invokevirtual 99, 3) := by decide +kernel
theorem dX8_shift_14 : decode cX8_shift 14 = .ok (.ireturn, 1) := by decide +kernel
theorem dX8_shift_15 : decode cX8_shift 15 = .ok (.aload_n 0, 1) := by decide +kernel
theorem dX8_shift_16 : decode cX8_shift 16 = .ok (.invokevirtual 230, 3) := by decide +kernel
theorem dX8_shift_19 : decode cX8_shift 19 = .ok (.ifCond .ne 10, 3) := by decide +kernel
theorem dX8_shift_22 : decode cX8_shift 22 = .ok (.aload_n 0, 1) := by decide +kernel
theorem dX8_shift_23 : decode cX8_shift 23 = .ok (.bipush (-7), 2) := by decide +kernel
theorem dX8_shift_25 : decode cX8_shift 25 = .ok (.invokevirtual 99, 3) := by decide +kernel
theorem dX8_shift_28 : decode cX8_shift 28 = .ok (.ireturn, 1) := by decide +kernel
theorem dX8_shift_29 : decode cX8_shift 29 = .ok (.aload_n 0, 1) := by decide +kernel
theorem dX8_shift_30 : decode cX8_shift 30 = .ok (.iload_n 1, 1) := by decide +kernel
theorem dX8_shift_31 : decode cX8_shift 31 = .ok (.ifCond .ne 7, 3) := by decide +kernel
theorem dX8_shift_34 : decode cX8_shift 34 = .ok (.iconst 1, 1) := by decide +kernel
theorem dX8_shift_35 : decode cX8_shift 35 = .ok (.goto 4, 3) := by decide +kernel
theorem dX8_shift_38 : decode cX8_shift 38 = .ok (.iconst (-1), 1) := by decide +kernel
theorem dX8_shift_39 : decode cX8_shift 39 = .ok (.invokevirtual 240, 3) := by decide +kernel
theorem dX8_shift_42 : decode cX8_shift 42 = .ok (.l2i, 1) := by decide +kernel
theorem dX8_shift_43 : decode cX8_shift 43 = .ok (.ireturn, 1) := by decide +kernel
theorem dX8_replaced_0 : decode cX8_replaced 0 = .ok (.iload_n 2, 1) := by decide +kernel
theorem dX8_replaced_1 : decode cX8_replaced 1 = .ok (.invokestatic 243, 3) := by decide +kernel
theorem dX8_replaced_4 : decode cX8_replaced 4 = .ok (.ifCond .ne 9, 3) := by decide +kernel
theorem dX8_replaced_7 : decode cX8_replaced 7 = .ok (.aload_n 0, 1) := by decide +kernel
theorem dX8_replaced_8 : decode cX8_replaced 8 = .ok (.iconst (-1), 1) := by decide +kernel
theorem dX8_replaced_9 : decode cX8_replaced 9 = .ok (.invokevirtual 99, 3) := by decide +kernel
theorem dX8_replaced_12 : decode cX8_replaced 12 = .ok (.ireturn, 1) := by decide +kernel
theorem dX8_replaced_13 : decode cX8_replaced 13 = .ok (.aload_n 0, 1) := by decide +kernel
theorem dX8_replaced_14 : decode cX8_replaced 14 = .ok (.invokevirtual 165, 3) := by decide +kernel
theorem dX8_replaced_17 : decode cX8_replaced 17 = .ok (.ifCond .ne 10, 3) := by decide +kernel
theorem dX8_replaced_20 : decode cX8_replaced 20 = .ok (.aload_n 0, 1) := by decide +kernel
theorem dX8_replaced_21 : decode cX8_replaced 21 = .ok (.bipush (-7), 2) := by decide +kernel
theorem dX8_replaced_23 : decode cX8_replaced 23 = .ok (.invokevirtual 99, 3) := by decide +kernel
theorem dX8_replaced_26 : decode cX8_replaced 26 = .ok (.ireturn, 1) := by decide +kernel
theorem dX8_replaced_27 : decode cX8_replaced 27 = .ok (.aload_n 0, 1) := by decide +kernel
theorem dX8_replaced_28 : decode cX8_replaced 28 = .ok (.getfield 29, 3) := by decide +kernel
theorem dX8_replaced_31 : decode cX8_replaced 31 = .ok (.iload_n 1, 1) := by decide +kernel
theorem dX8_replaced_32 : decode cX8_replaced 32 = .ok (.invokevirtual 169, 3) := by decide +kernel
theorem dX8_replaced_35 : decode cX8_replaced 35 = .ok (.ifCond .ne 10, 3) := by decide +kernel
theorem dX8_replaced_38 : decode cX8_replaced 38 = .ok (.aload_n 0, 1) := by decide +kernel
theorem dX8_replaced_39 : decode cX8_replaced 39 = .ok (.bipush (-2), 2) := by decide +kernel
theorem dX8_replaced_41 : decode cX8_replaced 41 = .ok (.invokevirtual 99, 3) := by decide +kernel
theorem dX8_replaced_44 : decode cX8_replaced 44 = .ok (.ireturn, 1) := by decide +kernel
theorem dX8_replaced_45 : decode cX8_replaced 45 = .ok (.aload_n 0, 1) := by decide +kernel
theorem dX8_replaced_46 : decode cX8_replaced 46 = .ok (.getfield 59, 3) := by decide +kernel
theorem dX8_replaced_49 : decode cX8_replaced 49 = .ok (.aload_n 0, 1) := by decide +kernel
theorem dX8_replaced_50 : decode cX8_replaced 50 = .ok (.getfield 12, 3) := by decide +kernel
theorem dX8_replaced_53 : decode cX8_replaced 53 = .ok (.aload_n 0, 1) := by decide +kernel
theorem dX8_replaced_54 : decode cX8_replaced 54 = .ok (.getfield 29, 3) := by decide +kernel
theorem dX8_replaced_57 : decode cX8_replaced 57 = .ok (.iload_n 1, 1) := by decide +kernel
theorem dX8_replaced_58 : decode cX8_replaced 58 = .ok (.i2l, 1) := by decide +kernel
theorem dX8_replaced_59 : decode cX8_replaced 59 = .ok (.invokevirtual 172, 3) := by decide +kernel
theorem dX8_replaced_62 : decode cX8_replaced 62 = .ok (.iload_n 2, 1) := by decide +kernel
theorem dX8_replaced_63 : decode cX8_replaced 63 = .ok (.invokevirtual 246, 3) := by decide +kernel
theorem dX8_replaced_66 : decode cX8_replaced 66 = .ok (.aload_n 0, 1) := by decide +kernel
theorem dX8_replaced_67 : decode cX8_replaced 67 = .ok (.getfield 59, 3) := by decide +kernel
theorem dX8_replaced_70 : decode cX8_replaced 70 = .ok (.getfield 250, 3) := by decide +kernel
theorem dX8_replaced_73 : decode cX8_replaced 73 = .ok (.ireturn, 1) := by decide +kernel
theorem dX8_substitute_0 : decode cX8_substitute 0 = .ok (.aload_n 0, 1) := by decide +kernel
theorem dX8_substitute_1 : decode cX8_substitute 1 = .ok (.getfield 12, 3) := by decide +kernel
theorem dX8_substitute_4 : decode cX8_substitute 4 = .ok (.iload_n 1, 1) := by decide +kernel
theorem dX8_substitute_5 : decode cX8_substitute 5 = .ok (.invokevirtual 95, 3) := by decide +kernel
theorem dX8_substitute_8 : decode cX8_substitute 8 = .ok (.ifCond .eq 10, 3) := by decide +kernel
theorem dX8_substitute_11 : decode cX8_substitute 11 = .ok (.iload_n 3, 1) := by decide +kernel
theorem dX8_substitute_12 : decode cX8_substitute 12 = .ok (.invokestatic 243, 3) := by decide +kernel
theorem dX8_substitute_15 : decode cX8_substitute 15 = .ok (.ifCond .ne 9, 3) := by decide +kernel
theorem dX8_substitute_18 : decode cX8_substitute 18 = .ok (.aload_n 0, 1) := by decide +kernel
theorem dX8_substitute_19 : decode cX8_substitute 19 = .ok (.iconst (-1), 1) := by decide +kernel
theorem dX8_substitute_20 : decode cX8_substitute 20 = .ok (.invokevirtual 99, 3) := by decide +kernel
theorem dX8_substitute_23 : decode cX8_substitute 23 = .ok (.ireturn, 1) := by decide +kernel
theorem dX8_substitute_24 : decode cX8_substitute 24 = .ok (.aload_n 0, 1) := by decide +kernel
theorem dX8_substitute_25 : decode cX8_substitute 25 = .ok (.invokevirtual 165, 3) := by decide +kernel
theorem dX8_substitute_28 : decode cX8_substitute 28 = .ok (.ifCond .ne 10, 3) := by decide +kernel
theorem dX8_substitute_31 : decode cX8_substitute 31 = .ok (.aload_n 0, 1) := by decide +kernel
theorem dX8_substitute_32 : decode cX8_substitute 32 = .ok (.bipush (-7), 2) := by decide +kernel
theorem dX8_substitute_34 : decode cX8_substitute 34 = .ok (.invokevirtual 99, 3) := by decide +kernel
theorem dX8_substitute_37 : decode cX8_substitute 37 = .ok (.ireturn, 1) := by decide +kernel
theorem dX8_substitute_38 : decode cX8_substitute 38 = .ok (.aload_n 0, 1) := by decide +kernel
theorem dX8_substitute_39 : decode cX8_substitute 39 = .ok (.getfield 29, 3) := by decide +kernel
theorem dX8_substitute_42 : decode cX8_substitute 42 = .ok (.iload_n 2, 1) := by decide +kernel
theorem dX8_substitute_43 : decode cX8_substitute 43 = .ok (.invokevirtual 169, 3) := by decide +kernel
theorem dX8_substitute_46 : decode cX8_substitute 46 = .ok (.ifCond .ne 10, 3) := by decide +kernel
theorem dX8_substitute_49 : decode cX8_substitute 49 = .ok (.aload_n 0, 1) := by decide +kernel
theorem dX8_substitute_50 : decode cX8_substitute 50 = .ok (.bipush (-2), 2) := by decide +kernel
theorem dX8_substitute_52 : decode cX8_substitute 52 = .ok (.invokevirtual 99, 3) := by decide +kernel
theorem dX8_substitute_55 : decode cX8_substitute 55 = .ok (.ireturn, 1) := by decide +kernel
theorem dX8_substitute_56 : decode cX8_substitute 56 = .ok (.aload_n 0, 1) := by decide +kernel
theorem dX8_substitute_57 : decode cX8_substitute 57 = .ok (.getfield 29, 3) := by decide +kernel
theorem dX8_substitute_60 : decode cX8_substitute 60 = .ok (.iload_n 2, 1) := by decide +kernel
theorem dX8_substitute_61 : decode cX8_substitute 61 = .ok (.i2l, 1) := by decide +kernel
theorem dX8_substitute_62 : decode cX8_substitute 62 = .ok (.invokevirtual 172, 3) := by decide +kernel
theorem dX8_substitute_65 : decode cX8_substitute 65 = .ok (.istore 4, 2) := by decide +kernel
theorem dX8_substitute_67 : decode cX8_substitute 67 = .ok (.iload 4, 2) := by decide +kernel
theorem dX8_substitute_69 : decode cX8_substitute 69 = .ok (.iload_n 1, 1) := by decide +kernel
theorem dX8_substitute_70 : decode cX8_substitute 70 = .ok (.invokestatic 253, 3) := by decide +kernel
theorem dX8_substitute_73 : decode cX8_substitute 73 = .ok (.ifCond .eq 14, 3) := by decide +kernel
theorem dX8_substitute_76 : decode cX8_substitute 76 = .ok (.aload_n 0, 1) := by decide +kernel
theorem dX8_substitute_77 : decode cX8_substitute 77 = .ok (.getfield 12, 3) := by decide +kernel
theorem dX8_substitute_80 : decode cX8_substitute 80 = .ok (.iload_n 1, 1) := by decide +kernel
theorem dX8_substitute_81 : decode cX8_substitute 81 = .ok (.invokevirtual 120, 3) := by decide +kernel
theorem dX8_substitute_84 : decode cX8_substitute 84 = .ok (.ifCond .ne 10, 3) := by decide +kernel
theorem dX8_substitute_87 : decode cX8_substitute 87 = .ok (.aload_n 0, 1) := by decide +kernel
theorem dX8_substitute_88 : decode cX8_substitute 88 = .ok (.bipush (-3), 2) := by decide +kernel
theorem dX8_substitute_90 : decode cX8_substitute 90 = .ok (.invokevirtual 99, 3) := by decide +kernel
theorem dX8_substitute_93 : decode cX8_substitute 93 = .ok (.ireturn, 1) := by decide +kernel
theorem dX8_substitute_94 : decode cX8_substitute 94 = .ok (.aload_n 0, 1) := by decide +kernel
theorem dX8_substitute_95 : decode cX8_substitute 95 = .ok (.getfield 59, 3) := by decide +kernel
theorem dX8_substitute_98 : decode cX8_substitute 98 = .ok (.aload_n 0, 1) := by decide +kernel
theorem dX8_substitute_99 : decode cX8_substitute 99 = .ok (.getfield 12, 3) := by decide +kernel
theorem dX8_substitute_102 : decode cX8_substitute 102 = .ok (.iload 4, 2) := by decide +kernel
theorem dX8_substitute_104 : decode cX8_substitute 104 = .ok (.iload_n 3, 1) := by decide +kernel
theorem dX8_substitute_105 : decode cX8_substitute 105 = .ok (.invokevirtual 246, 3) := by decide +kernel
theorem dX8_substitute_108 : decode cX8_substitute 108 = .ok (.aload_n 0, 1) := by decide +kernel
theorem dX8_substitute_109 : decode cX8_substitute 109 = .ok (.getfield 59, 3) := by decide +kernel
theorem dX8_substitute_112 : decode cX8_substitute 112 = .ok (.getfield 257, 3) := by decide +kernel
theorem dX8_substitute_115 : decode cX8_substitute 115 = .ok (.iload_n 1, 1) := by decide +kernel
theorem dX8_substitute_116 : decode cX8_substitute 116 = .ok (.iaload, 1) := by decide +kernel
theorem dX8_substitute_117 : decode cX8_substitute 117 = .ok (.istore 5, 2) := by decide +kernel
theorem dX8_substitute_119 : decode cX8_substitute 119 = .ok (.iload 5, 2) := by decide +kernel
theorem dX8_substitute_121 : decode cX8_substitute 121 = .ok (.ifCond .lt 8, 3) := by decide +kernel
theorem dX8_substitute_124 : decode cX8_substitute 124 = .ok (.iload 5, 2) := by decide +kernel
theorem dX8_substitute_126 : decode cX8_substitute 126 = .ok (.goto 9, 3) := by decide +kernel
theorem dX8_substitute_129 : decode cX8_substitute 129 = .ok (.aload_n 0, 1) := by decide +kernel
theorem dX8_substitute_130 : decode cX8_substitute 130 = .ok (.bipush (-5), 2) := by decide +kernel
theorem dX8_substitute_132 : decode cX8_substitute 132 = .ok (.invokevirtual 99, 3) := by decide +kernel
theorem dX8_substitute_135 : decode cX8_substitute 135 = .ok (.ireturn, 1) := by decide +kernel
theorem dX8_finals_0 : decode cX8_finals 0 = .ok (.aload_n 0, 1) := by decide +kernel
theorem dX8_finals_1 : decode cX8_finals 1 = .ok (.getfield 12, 3) := by decide +kernel
theorem dX8_finals_4 : decode cX8_finals 4 = .ok (.iload_n 1, 1) := by decide +kernel
theorem dX8_finals_5 : decode cX8_finals 5 = .ok (.invokevirtual 95, 3) := by decide +kernel
theorem dX8_finals_8 : decode cX8_finals 8 = .ok (.ifCond .eq 10, 3) := by decide +kernel
theorem dX8_finals_11 : decode cX8_finals 11 = .ok (.iload_n 2, 1) := by decide +kernel
theorem dX8_finals_12 : decode cX8_finals 12 = .ok (.invokestatic 243, 3) := by decide +kernel
theorem dX8_finals_15 : decode cX8_finals 15 = .ok (.ifCond .ne 9, 3) := by decide +kernel
theorem dX8_finals_18 : decode cX8_finals 18 = .ok (.aload_n 0, 1) := by decide +kernel
theorem dX8_finals_19 : decode cX8_finals 19 = .ok (.iconst (-1), 1) := by decide +kernel
theorem dX8_finals_20 : decode cX8_finals 20 = .ok (.invokevirtual 112, 3) := by decide +kernel
theorem dX8_finals_23 : decode cX8_finals 23 = .ok (.lreturn, 1) := by decide +kernel
theorem dX8_finals_24 : decode cX8_finals 24 = .ok (.iload_n 3, 1) := by decide +kernel
theorem dX8_finals_25 : decode cX8_finals 25 = .ok (.invokestatic 132, 3) := by decide +kernel
theorem dX8_finals_28 : decode cX8_finals 28 = .ok (.ifCond .ne 10, 3) := by decide +kernel
theorem dX8_finals_31 : decode cX8_finals 31 = .ok (.aload_n 0, 1) := by decide +kernel
theorem dX8_finals_32 : decode cX8_finals 32 = .ok (.bipush (-2), 2) := by decide +kernel
theorem dX8_finals_34 : decode cX8_finals 34 = .ok (.invokevirtual 112, 3) := by decide +kernel
theorem dX8_finals_37 : decode cX8_finals 37 = .ok (.lreturn, 1) := by decide +kernel
theorem dX8_finals_38 : decode cX8_finals 38 = .ok (.aload_n 0, 1) := by decide +kernel
theorem dX8_finals_39 : decode cX8_finals 39 = .ok (.invokevirtual 165, 3) := by decide +kernel
theorem dX8_finals_42 : decode cX8_finals 42 = .ok (.ifCond .ne 10, 3) := by decide +kernel
theorem dX8_finals_45 : decode cX8_finals 45 = .ok (.aload_n 0, 1) := by decide +kernel
theorem dX8_finals_46 : decode cX8_finals 46 = .ok (.bipush (-7), 2) := by decide +kernel
theorem dX8_finals_48 : decode cX8_finals 48 = .ok (.invokevirtual 112, 3) := by decide +kernel
theorem dX8_finals_51 : decode cX8_finals 51 = .ok (.lreturn, 1) := by decide +kernel
theorem dX8_finals_52 : decode cX8_finals 52 = .ok (.aload_n 0, 1) := by decide +kernel
theorem dX8_finals_53 : decode cX8_finals 53 = .ok (.getfield 39, 3) := by decide +kernel
theorem dX8_finals_56 : decode cX8_finals 56 = .ok (.aload_n 0, 1) := by decide +kernel
theorem dX8_finals_57 : decode cX8_finals 57 = .ok (.getfield 29, 3) := by decide +kernel
theorem dX8_finals_60 : decode cX8_finals 60 = .ok (.invokevirtual 176, 3) := by decide +kernel
theorem dX8_finals_63 : decode cX8_finals 63 = .ok (.lconst 0, 1) := by decide +kernel
theorem dX8_finals_64 : decode cX8_finals 64 = .ok (.lstore 4, 2) := by decide +kernel
theorem dX8_finals_66 : decode cX8_finals 66 = .ok (.iconst 0, 1) := by decide +kernel
theorem dX8_finals_67 : decode cX8_finals 67 = .ok (.istore 6, 2) := by decide +kernel
theorem dX8_finals_69 : decode cX8_finals 69 = .ok (.iload 6, 2) := by decide +kernel
theorem dX8_finals_71 : decode cX8_finals 71 = .ok (.aload_n 0, 1) := by decide +kernel
theorem dX8_finals_72 : decode cX8_finals 72 = .ok (.getfield 39, 3) := by decide +kernel
theorem dX8_finals_75 : decode cX8_finals 75 = .ok (.getfield 180, 3) := by decide +kernel
theorem dX8_finals_78 : decode cX8_finals 78 = .ok (.if_icmp .ge 60, 3) := by decide +kernel
theorem dX8_finals_81 : decode cX8_finals 81 = .ok (.aload_n 0, 1) := by decide +kernel
theorem dX8_finals_82 : decode cX8_finals 82 = .ok (.getfield 59, 3) := by decide +kernel
theorem dX8_finals_85 : decode cX8_finals 85 = .ok (.aload_n 0, 1) := by decide +kernel
theorem dX8_finals_86 : decode cX8_finals 86 = .ok (.getfield 12, 3) := by decide +kernel
theorem dX8_finals_89 : decode cX8_finals 89 = .ok (.aload_n 0, 1) := by decide +kernel
theorem dX8_finals_90 : decode cX8_finals 90 = .ok (.getfield 39, 3) := by decide +kernel
theorem dX8_finals_93 : decode cX8_finals 93 = .ok (.getfield 191, 3) := by decide +kernel
theorem dX8_finals_96 : decode cX8_finals 96 = .ok (.iload 6, 2) := by decide +kernel
theorem dX8_finals_98 : decode cX8_finals 98 = .ok (.iaload, 1) := by decide +kernel
theorem dX8_finals_99 : decode cX8_finals 99 = .ok (.iload_n 2, 1) := by decide +kernel
theorem dX8_finals_100 : decode cX8_finals 100 = .ok (.invokevirtual 246, 3) := by decide +kernel
theorem dX8_finals_103 : decode cX8_finals 103 = .ok (.aload_n 0, 1) := by decide +kernel
theorem dX8_finals_104 : decode cX8_finals 104 = .ok (.getfield 59, 3) := by decide +kernel
theorem dX8_finals_107 : decode cX8_finals 107 = .ok (.getfield 250, 3) := by decide +kernel
theorem dX8_finals_110 : decode cX8_finals 110 = .ok (.iload_n 1, 1) := by decide +kernel
theorem dX8_finals_111 : decode cX8_finals 111 = .ok (.invokestatic 253, 3) := by decide +kernel
theorem dX8_finals_114 : decode cX8_finals 114 = .ok (.ifCond .eq 18, 3) := by decide +kernel
theorem dX8_finals_117 : decode cX8_finals 117 = .ok (.lload 4, 2) := by decide +kernel
theorem dX8_finals_119 : decode cX8_finals 119 = .ok (.aload_n 0, 1) := by decide +kernel
theorem dX8_finals_120 : decode cX8_finals 120 = .ok (.getfield 39, 3) := by decide +kernel
theorem dX8_finals_123 : decode cX8_finals 123 = .ok (.getfield 188, 3) := by decide +kernel
theorem dX8_finals_126 : decode cX8_finals 126 = .ok (.iload 6, 2) := by decide +kernel
theorem dX8_finals_128 : decode cX8_finals 128 = .ok (.laload, 1) := by decide +kernel
theorem dX8_finals_129 : decode cX8_finals 129 = .ok (.ladd, 1) := by decide +kernel
theorem dX8_finals_130 : decode cX8_finals 130 = .ok (.lstore 4, 2) := by decide +kernel
theorem dX8_finals_132 : decode cX8_finals 132 = .ok (.iinc 6 1, 3) := by decide +kernel
theorem dX8_finals_135 : decode cX8_finals 135 = .ok (.goto (-66), 3) := by decide +kernel
theorem dX8_finals_138 : decode cX8_finals 138 = .ok (.aload_n 0, 1) := by decide +kernel
theorem dX8_finals_139 : decode cX8_finals 139 = .ok (.lload 4, 2) := by decide +kernel
theorem dX8_finals_141 : decode cX8_finals 141 = .ok (.aload_n 0, 1) := by decide +kernel
theorem dX8_finals_142 : decode cX8_finals 142 = .ok (.getfield 29, 3) := by decide +kernel
theorem dX8_finals_145 : decode cX8_finals 145 = .ok (.getfield 198, 3) := by decide +kernel
theorem dX8_finals_148 : decode cX8_finals 148 = .ok (.iload_n 3, 1) := by decide +kernel
theorem dX8_finals_149 : decode cX8_finals 149 = .ok (.invokevirtual 141, 3) := by decide +kernel
theorem dX8_finals_152 : decode cX8_finals 152 = .ok (.lreturn, 1) := by decide +kernel
theorem dX8_drawn_0 : decode cX8_drawn 0 = .ok (.aload_n 0, 1) := by decide +kernel
theorem dX8_drawn_1 : decode cX8_drawn 1 = .ok (.getfield 12, 3) := by decide +kernel
theorem dX8_drawn_4 : decode cX8_drawn 4 = .ok (.iload_n 1, 1) := by decide +kernel
theorem dX8_drawn_5 : decode cX8_drawn 5 = .ok (.invokevirtual 95, 3) := by decide +kernel
theorem dX8_drawn_8 : decode cX8_drawn 8 = .ok (.ifCond .ne 9, 3) := by decide +kernel
theorem dX8_drawn_11 : decode cX8_drawn 11 = .ok (.aload_n 0, 1) := by decide +kernel
theorem dX8_drawn_12 : decode cX8_drawn 12 = .ok (.iconst (-1), 1) := by decide +kernel
theorem dX8_drawn_13 : decode cX8_drawn 13 = .ok (.invokevirtual 99, 3) := by decide +kernel
theorem dX8_drawn_16 : decode cX8_drawn 16 = .ok (.ireturn, 1) := by decide +kernel
theorem dX8_drawn_17 : decode cX8_drawn 17 = .ok (.iload_n 2, 1) := by decide +kernel
theorem dX8_drawn_18 : decode cX8_drawn 18 = .ok (.iconst 1, 1) := by decide +kernel
theorem dX8_drawn_19 : decode cX8_drawn 19 = .ok (.if_icmp .lt 9, 3) := by decide +kernel
theorem dX8_drawn_22 : decode cX8_drawn 22 = .ok (.iload_n 2, 1) := by decide +kernel
theorem dX8_drawn_23 : decode cX8_drawn 23 = .ok (.bipush 60, 2) := by decide +kernel
theorem dX8_drawn_25 : decode cX8_drawn 25 = .ok (.if_icmp .le 10, 3) := by decide +kernel
theorem dX8_drawn_28 : decode cX8_drawn 28 = .ok (.aload_n 0, 1) := by decide +kernel
theorem dX8_drawn_29 : decode cX8_drawn 29 = .ok (.bipush (-2), 2) := by decide +kernel
theorem dX8_drawn_31 : decode cX8_drawn 31 = .ok (.invokevirtual 99, 3) := by decide +kernel
theorem dX8_drawn_34 : decode cX8_drawn 34 = .ok (.ireturn, 1) := by decide +kernel
theorem dX8_drawn_35 : decode cX8_drawn 35 = .ok (.aload_n 0, 1) := by decide +kernel
theorem dX8_drawn_36 : decode cX8_drawn 36 = .ok (.invokevirtual 165, 3) := by decide +kernel
theorem dX8_drawn_39 : decode cX8_drawn 39 = .ok (.ifCond .eq 15, 3) := by decide +kernel
theorem dX8_drawn_42 : decode cX8_drawn 42 = .ok (.aload_n 0, 1) := by decide +kernel
theorem dX8_drawn_43 : decode cX8_drawn 43 = .ok (.getfield 29, 3) := by decide +kernel
theorem dX8_drawn_46 : decode cX8_drawn 46 = .ok (.getfield 198, 3) := by decide +kernel
theorem dX8_drawn_49 : decode cX8_drawn 49 = .ok (.lconst 1, 1) := by decide +kernel
theorem dX8_drawn_50 : decode cX8_drawn 50 = .ok (.lcmp, 1) := by decide +kernel
theorem dX8_drawn_51 : decode cX8_drawn 51 = .ok (.ifCond .ge 10, 3) := by decide +kernel
theorem dX8_drawn_54 : decode cX8_drawn 54 = .ok (.aload_n 0, 1) := by decide +kernel
theorem dX8_drawn_55 : decode cX8_drawn 55 = .ok (.bipush (-7), 2) := by decide +kernel
theorem dX8_drawn_57 : decode cX8_drawn 57 = .ok (.invokevirtual 99, 3) := by decide +kernel
theorem dX8_drawn_60 : decode cX8_drawn 60 = .ok (.ireturn, 1) := by decide +kernel
theorem dX8_drawn_61 : decode cX8_drawn 61 = .ok (.iconst 0, 1) := by decide +kernel
theorem dX8_drawn_62 : decode cX8_drawn 62 = .ok (.istore 5, 2) := by decide +kernel
theorem dX8_drawn_64 : decode cX8_drawn 64 = .ok (.lload_n 3, 1) := by decide +kernel
theorem dX8_drawn_65 : decode cX8_drawn 65 = .ok (.lstore 6, 2) := by decide +kernel
theorem dX8_drawn_67 : decode cX8_drawn 67 = .ok (.iconst 0, 1) := by decide +kernel
theorem dX8_drawn_68 : decode cX8_drawn 68 = .ok (.istore 8, 2) := by decide +kernel
theorem dX8_drawn_70 : decode cX8_drawn 70 = .ok (.iload 8, 2) := by decide +kernel
theorem dX8_drawn_72 : decode cX8_drawn 72 = .ok (.iload_n 2, 1) := by decide +kernel
theorem dX8_drawn_73 : decode cX8_drawn 73 = .ok (.if_icmp .ge 48, 3) := by decide +kernel
theorem dX8_drawn_76 : decode cX8_drawn 76 = .ok (.lload 6, 2) := by decide +kernel
theorem dX8_drawn_78 : decode cX8_drawn 78 = .ok (.ldc2_w 260, 3) := by decide +kernel
theorem dX8_drawn_81 : decode cX8_drawn 81 = .ok (.lmul, 1) := by decide +kernel
theorem dX8_drawn_82 : decode cX8_drawn 82 = .ok (.ldc2_w 262, 3) := by decide +kernel
theorem dX8_drawn_85 : decode cX8_drawn 85 = .ok (.ladd, 1) := by decide +kernel
theorem dX8_drawn_86 : decode cX8_drawn 86 = .ok (.lstore 6, 2) := by decide +kernel
theorem dX8_drawn_88 : decode cX8_drawn 88 = .ok (.aload_n 0, 1) := by decide +kernel
theorem dX8_drawn_89 : decode cX8_drawn 89 = .ok (.getfield 29, 3) := by decide +kernel
theorem dX8_drawn_92 : decode cX8_drawn 92 = .ok (.iload_n 1, 1) := by decide +kernel
theorem dX8_drawn_93 : decode cX8_drawn 93 = .ok (.lload 6, 2) := by decide +kernel
theorem dX8_drawn_95 : decode cX8_drawn 95 = .ok (.bipush 33, 2) := by decide +kernel
theorem dX8_drawn_97 : decode cX8_drawn 97 = .ok (.lushr, 1) := by decide +kernel
theorem dX8_drawn_98 : decode cX8_drawn 98 = .ok (.aload_n 0, 1) := by decide +kernel
theorem dX8_drawn_99 : decode cX8_drawn 99 = .ok (.getfield 29, 3) := by decide +kernel
theorem dX8_drawn_102 : decode cX8_drawn 102 = .ok (.getfield 198, 3) := by decide +kernel
theorem dX8_drawn_105 : decode cX8_drawn 105 = .ok (.lrem, 1) := by decide +kernel
theorem dX8_drawn_106 : decode cX8_drawn 106 = .ok (.invokevirtual 264, 3) := by decide +kernel
theorem dX8_drawn_109 : decode cX8_drawn 109 = .ok (.ifCond .eq 6, 3) := by decide +kernel
theorem dX8_drawn_112 : decode cX8_drawn 112 = .ok (.iinc 5 1, 3) := by decide +kernel
theorem dX8_drawn_115 : decode cX8_drawn 115 = .ok (.iinc 8 1, 3) := by decide +kernel
theorem dX8_drawn_118 : decode cX8_drawn 118 = .ok (.goto (-48), 3) := by decide +kernel
theorem dX8_drawn_121 : decode cX8_drawn 121 = .ok (.iload 5, 2) := by decide +kernel
theorem dX8_drawn_123 : decode cX8_drawn 123 = .ok (.ireturn, 1) := by decide +kernel
theorem dX8_feed_0 : decode cX8_feed 0 = .ok (.aload_n 0, 1) := by decide +kernel
theorem dX8_feed_1 : decode cX8_feed 1 = .ok (.aload_n 0, 1) := by decide +kernel
theorem dX8_feed_2 : decode cX8_feed 2 = .ok (.getfield 66, 3) := by decide +kernel
theorem dX8_feed_5 : decode cX8_feed 5 = .ok (.iload_n 1, 1) := by decide +kernel
theorem dX8_feed_6 : decode cX8_feed 6 = .ok (.invokevirtual 268, 3) := by decide +kernel
theorem dX8_feed_9 : decode cX8_feed 9 = .ok (.invokevirtual 88, 3) := by decide +kernel
theorem dX8_feed_12 : decode cX8_feed 12 = .ok (.ireturn, 1) := by decide +kernel
theorem dX8_tells_0 : decode cX8_tells 0 = .ok (.aload_n 0, 1) := by decide +kernel
theorem dX8_tells_1 : decode cX8_tells 1 = .ok (.getfield 66, 3) := by decide +kernel
theorem dX8_tells_4 : decode cX8_tells 4 = .ok (.invokevirtual 271, 3) := by decide +kernel
theorem dX8_tells_7 : decode cX8_tells 7 = .ok (.istore_n 1, 1) := by decide +kernel
theorem dX8_tells_8 : decode cX8_tells 8 = .ok (.iload_n 1, 1) := by decide +kernel
theorem dX8_tells_9 : decode cX8_tells 9 = .ok (.ifCond .lt 14, 3) := by decide +kernel
theorem dX8_tells_12 : decode cX8_tells 12 = .ok (.aload_n 0, 1) := by decide +kernel
theorem dX8_tells_13 : decode cX8_tells 13 = .ok (.bipush (-100), 2) := by decide +kernel
theorem dX8_tells_15 : decode cX8_tells 15 = .ok (.iload_n 1, 1) := by decide +kernel
theorem dX8_tells_16 : decode cX8_tells 16 = .ok (.isub, 1) := by decide +kernel
theorem dX8_tells_17 : decode cX8_tells 17 = .ok (.invokevirtual 99, 3) := by decide +kernel
theorem dX8_tells_20 : decode cX8_tells 20 = .ok (.goto 7, 3) := by decide +kernel
theorem dX8_tells_23 : decode cX8_tells 23 = .ok (.aload_n 0, 1) := by decide +kernel
theorem dX8_tells_24 : decode cX8_tells 24 = .ok (.invokevirtual 275, 3) := by decide +kernel
theorem dX8_tells_27 : decode cX8_tells 27 = .ok (.istore_n 2, 1) := by decide +kernel
theorem dX8_tells_28 : decode cX8_tells 28 = .ok (.aload_n 0, 1) := by decide +kernel
theorem dX8_tells_29 : decode cX8_tells 29 = .ok (.getfield 66, 3) := by decide +kernel
theorem dX8_tells_32 : decode cX8_tells 32 = .ok (.iconst 0, 1) := by decide +kernel
theorem dX8_tells_33 : decode cX8_tells 33 = .ok (.putfield 278, 3) := by decide +kernel
theorem dX8_tells_36 : decode cX8_tells 36 = .ok (.iload_n 2, 1) := by decide +kernel
theorem dX8_tells_37 : decode cX8_tells 37 = .ok (.ireturn, 1) := by decide +kernel
theorem dX8_reason_0 : decode cX8_reason 0 = .ok (.iload_n 1, 1) := by decide +kernel
theorem dX8_reason_1 : decode cX8_reason 1 = .ok (.tableswitch 63 0 3 #[31, 39, 47, 55], 31) := by decide +kernel
theorem dX8_reason_32 : decode cX8_reason 32 = .ok (.aload_n 0, 1) := by decide +kernel
theorem dX8_reason_33 : decode cX8_reason 33 = .ok (.getfield 73, 3) := by decide +kernel
theorem dX8_reason_36 : decode cX8_reason 36 = .ok (.getfield 281, 3) := by decide +kernel
theorem dX8_reason_39 : decode cX8_reason 39 = .ok (.ireturn, 1) := by decide +kernel
theorem dX8_reason_40 : decode cX8_reason 40 = .ok (.aload_n 0, 1) := by decide +kernel
theorem dX8_reason_41 : decode cX8_reason 41 = .ok (.getfield 73, 3) := by decide +kernel
theorem dX8_reason_44 : decode cX8_reason 44 = .ok (.getfield 284, 3) := by decide +kernel
theorem dX8_reason_47 : decode cX8_reason 47 = .ok (.ireturn, 1) := by decide +kernel
theorem dX8_reason_48 : decode cX8_reason 48 = .ok (.aload_n 0, 1) := by decide +kernel
theorem dX8_reason_49 : decode cX8_reason 49 = .ok (.getfield 73, 3) := by decide +kernel
theorem dX8_reason_52 : decode cX8_reason 52 = .ok (.getfield 287, 3) := by decide +kernel
theorem dX8_reason_55 : decode cX8_reason 55 = .ok (.ireturn, 1) := by decide +kernel
theorem dX8_reason_56 : decode cX8_reason 56 = .ok (.aload_n 0, 1) := by decide +kernel
theorem dX8_reason_57 : decode cX8_reason 57 = .ok (.getfield 73, 3) := by decide +kernel
theorem dX8_reason_60 : decode cX8_reason 60 = .ok (.getfield 290, 3) := by decide +kernel
theorem dX8_reason_63 : decode cX8_reason 63 = .ok (.ireturn, 1) := by decide +kernel
theorem dX8_reason_64 : decode cX8_reason 64 = .ok (.iconst 0, 1) := by decide +kernel
theorem dX8_reason_65 : decode cX8_reason 65 = .ok (.ireturn, 1) := by decide +kernel
theorem dX8_list_0 : decode cX8_list 0 = .ok (.aload_n 0, 1) := by decide +kernel
theorem dX8_list_1 : decode cX8_list 1 = .ok (.iload_n 1, 1) := by decide +kernel
theorem dX8_list_2 : decode cX8_list 2 = .ok (.invokevirtual 293, 3) := by decide +kernel
theorem dX8_list_5 : decode cX8_list 5 = .ok (.astore_n 3, 1) := by decide +kernel
theorem dX8_list_6 : decode cX8_list 6 = .ok (.aload_n 3, 1) := by decide +kernel
theorem dX8_list_7 : decode cX8_list 7 = .ok (.ifnonnull 11, 3) := by decide +kernel
theorem dX8_list_10 : decode cX8_list 10 = .ok (.aload_n 0, 1) := by decide +kernel
theorem dX8_list_11 : decode cX8_list 11 = .ok (.iconst (-1), 1) := by decide +kernel
theorem dX8_list_12 : decode cX8_list 12 = .ok (.invokevirtual 99, 3) := by decide +kernel
theorem dX8_list_15 : decode cX8_list 15 = .ok (.goto 12, 3) := by decide +kernel
theorem dX8_list_18 : decode cX8_list 18 = .ok (.aload_n 0, 1) := by decide +kernel
theorem dX8_list_19 : decode cX8_list 19 = .ok (.aload_n 3, 1) := by decide +kernel
theorem dX8_list_20 : decode cX8_list 20 = .ok (.iload_n 2, 1) := by decide +kernel
theorem dX8_list_21 : decode cX8_list 21 = .ok (.invokevirtual 297, 3) := by decide +kernel
theorem dX8_list_24 : decode cX8_list 24 = .ok (.invokevirtual 88, 3) := by decide +kernel
theorem dX8_list_27 : decode cX8_list 27 = .ok (.ireturn, 1) := by decide +kernel
theorem dX8_put_0 : decode cX8_put 0 = .ok (.aload_n 0, 1) := by decide +kernel
theorem dX8_put_1 : decode cX8_put 1 = .ok (.iload_n 1, 1) := by decide +kernel
theorem dX8_put_2 : decode cX8_put 2 = .ok (.invokevirtual 293, 3) := by decide +kernel
theorem dX8_put_5 : decode cX8_put 5 = .ok (.astore 5, 2) := by decide +kernel
theorem dX8_put_7 : decode cX8_put 7 = .ok (.aload 5, 2) := by decide +kernel
theorem dX8_put_9 : decode cX8_put 9 = .ok (.iload_n 2, 1) := by decide +kernel
theorem dX8_put_10 : decode cX8_put 10 = .ok (.invokestatic 300, 3) := by decide +kernel
theorem dX8_put_13 : decode cX8_put 13 = .ok (.istore 6, 2) := by decide +kernel
theorem dX8_put_15 : decode cX8_put 15 = .ok (.aload 5, 2) := by decide +kernel
theorem dX8_put_17 : decode cX8_put 17 = .ok (.ifnull 8, 3) := by decide +kernel
theorem dX8_put_20 : decode cX8_put 20 = .ok (.iload 6, 2) := by decide +kernel
theorem dX8_put_22 : decode cX8_put 22 = .ok (.ifCond .ge 10, 3) := by decide +kernel
theorem dX8_put_25 : decode cX8_put 25 = .ok (.aload_n 0, 1) := by decide +kernel
theorem dX8_put_26 : decode cX8_put 26 = .ok (.iload 6, 2) := by decide +kernel
theorem dX8_put_28 : decode cX8_put 28 = .ok (.invokevirtual 99, 3) := by decide +kernel
theorem dX8_put_31 : decode cX8_put 31 = .ok (.ireturn, 1) := by decide +kernel
theorem dX8_put_32 : decode cX8_put 32 = .ok (.aload 5, 2) := by decide +kernel
theorem dX8_put_34 : decode cX8_put 34 = .ok (.getfield 304, 3) := by decide +kernel
theorem dX8_put_37 : decode cX8_put 37 = .ok (.iload_n 2, 1) := by decide +kernel
theorem dX8_put_38 : decode cX8_put 38 = .ok (.lload_n 3, 1) := by decide +kernel
theorem dX8_put_39 : decode cX8_put 39 = .ok (.lastore, 1) := by decide +kernel
theorem dX8_put_40 : decode cX8_put 40 = .ok (.iconst 1, 1) := by decide +kernel
theorem dX8_put_41 : decode cX8_put 41 = .ok (.ireturn, 1) := by decide +kernel
theorem dX8_look_0 : decode cX8_look 0 = .ok (.aload_n 0, 1) := by decide +kernel
theorem dX8_look_1 : decode cX8_look 1 = .ok (.iload_n 1, 1) := by decide +kernel
theorem dX8_look_2 : decode cX8_look 2 = .ok (.invokevirtual 293, 3) := by decide +kernel
theorem dX8_look_5 : decode cX8_look 5 = .ok (.astore_n 3, 1) := by decide +kernel
theorem dX8_look_6 : decode cX8_look 6 = .ok (.aload_n 3, 1) := by decide +kernel
theorem dX8_look_7 : decode cX8_look 7 = .ok (.iload_n 2, 1) := by decide +kernel
theorem dX8_look_8 : decode cX8_look 8 = .ok (.invokestatic 300, 3) := by decide +kernel
theorem dX8_look_11 : decode cX8_look 11 = .ok (.istore 4, 2) := by decide +kernel
theorem dX8_look_13 : decode cX8_look 13 = .ok (.aload_n 3, 1) := by decide +kernel
theorem dX8_look_14 : decode cX8_look 14 = .ok (.ifnull 8, 3) := by decide +kernel
theorem dX8_look_17 : decode cX8_look 17 = .ok (.iload 4, 2) := by decide +kernel
theorem dX8_look_19 : decode cX8_look 19 = .ok (.ifCond .ge 12, 3) := by decide +kernel
theorem dX8_look_22 : decode cX8_look 22 = .ok (.aload_n 0, 1) := by decide +kernel
theorem dX8_look_23 : decode cX8_look 23 = .ok (.iload 4, 2) := by decide +kernel
theorem dX8_look_25 : decode cX8_look 25 = .ok (.invokevirtual 112, 3) := by decide +kernel
theorem dX8_look_28 : decode cX8_look 28 = .ok (.goto 9, 3) := by decide +kernel
theorem dX8_look_31 : decode cX8_look 31 = .ok (.aload_n 3, 1) := by decide +kernel
theorem dX8_look_32 : decode cX8_look 32 = .ok (.getfield 304, 3) := by decide +kernel
theorem dX8_look_35 : decode cX8_look 35 = .ok (.iload_n 2, 1) := by decide +kernel
theorem dX8_look_36 : decode cX8_look 36 = .ok (.laload, 1) := by decide +kernel
theorem dX8_look_37 : decode cX8_look 37 = .ok (.lreturn, 1) := by decide +kernel
theorem dX8_judge_0 : decode cX8_judge 0 = .ok (.aload_n 0, 1) := by decide +kernel
theorem dX8_judge_1 : decode cX8_judge 1 = .ok (.iload_n 1, 1) := by decide +kernel
theorem dX8_judge_2 : decode cX8_judge 2 = .ok (.invokevirtual 293, 3) := by decide +kernel
theorem dX8_judge_5 : decode cX8_judge 5 = .ok (.astore_n 3, 1) := by decide +kernel
theorem dX8_judge_6 : decode cX8_judge 6 = .ok (.aload_n 3, 1) := by decide +kernel
theorem dX8_judge_7 : decode cX8_judge 7 = .ok (.ifnull 7, 3) := by decide +kernel
theorem dX8_judge_10 : decode cX8_judge 10 = .ok (.iload_n 2, 1) := by decide +kernel
theorem dX8_judge_11 : decode cX8_judge 11 = .ok (.ifCond .ge 9, 3) := by decide +kernel
theorem dX8_judge_14 : decode cX8_judge 14 = .ok (.aload_n 0, 1) := by decide +kernel
theorem dX8_judge_15 : decode cX8_judge 15 = .ok (.iconst (-1), 1) := by decide +kernel
theorem dX8_judge_16 : decode cX8_judge 16 = .ok (.invokevirtual 99, 3) := by decide +kernel
theorem dX8_judge_19 : decode cX8_judge 19 = .ok (.ireturn, 1) := by decide +kernel
theorem dX8_judge_20 : decode cX8_judge 20 = .ok (.aload_n 3, 1) := by decide +kernel
theorem dX8_judge_21 : decode cX8_judge 21 = .ok (.getfield 307, 3) := by decide +kernel
theorem dX8_judge_24 : decode cX8_judge 24 = .ok (.ifCond .ge 10, 3) := by decide +kernel
theorem dX8_judge_27 : decode cX8_judge 27 = .ok (.aload_n 0, 1) := by decide +kernel
theorem dX8_judge_28 : decode cX8_judge 28 = .ok (.bipush (-11), 2) := by decide +kernel
theorem dX8_judge_30 : decode cX8_judge 30 = .ok (.invokevirtual 99, 3) := by decide +kernel
theorem dX8_judge_33 : decode cX8_judge 33 = .ok (.ireturn, 1) := by decide +kernel
theorem dX8_judge_34 : decode cX8_judge 34 = .ok (.aload_n 0, 1) := by decide +kernel
theorem dX8_judge_35 : decode cX8_judge 35 = .ok (.getfield 12, 3) := by decide +kernel
theorem dX8_judge_38 : decode cX8_judge 38 = .ok (.iconst 0, 1) := by decide +kernel
theorem dX8_judge_39 : decode cX8_judge 39 = .ok (.invokevirtual 154, 3) := by decide +kernel
theorem dX8_judge_42 : decode cX8_judge 42 = .ok (.lstore 4, 2) := by decide +kernel
theorem dX8_judge_44 : decode cX8_judge 44 = .ok (.lload 4, 2) := by decide +kernel
theorem dX8_judge_46 : decode cX8_judge 46 = .ok (.lconst 1, 1) := by decide +kernel
theorem dX8_judge_47 : decode cX8_judge 47 = .ok (.lcmp, 1) := by decide +kernel
theorem dX8_judge_48 : decode cX8_judge 48 = .ok (.ifCond .ge 10, 3) := by decide +kernel
theorem dX8_judge_51 : decode cX8_judge 51 = .ok (.aload_n 0, 1) := by decide +kernel
theorem dX8_judge_52 : decode cX8_judge 52 = .ok (.bipush (-7), 2) := by decide +kernel
theorem dX8_judge_54 : decode cX8_judge 54 = .ok (.invokevirtual 99, 3) := by decide +kernel
theorem dX8_judge_57 : decode cX8_judge 57 = .ok (.ireturn, 1) := by decide +kernel
theorem dX8_judge_58 : decode cX8_judge 58 = .ok (.iconst 0, 1) := by decide +kernel
theorem dX8_judge_59 : decode cX8_judge 59 = .ok (.istore 6, 2) := by decide +kernel
theorem dX8_judge_61 : decode cX8_judge 61 = .ok (.iload 6, 2) := by decide +kernel
theorem dX8_judge_63 : decode cX8_judge 63 = .ok (.aload_n 0, 1) := by decide +kernel
theorem dX8_judge_64 : decode cX8_judge 64 = .ok (.getfield 12, 3) := by decide +kernel
theorem dX8_judge_67 : decode cX8_judge 67 = .ok (.getfield 201, 3) := by decide +kernel
theorem dX8_judge_70 : decode cX8_judge 70 = .ok (.if_icmp .ge 54, 3) := by decide +kernel
theorem dX8_judge_73 : decode cX8_judge 73 = .ok (.iload_n 2, 1) := by decide +kernel
theorem dX8_judge_74 : decode cX8_judge 74 = .ok (.aload_n 3, 1) := by decide +kernel
theorem dX8_judge_75 : decode cX8_judge 75 = .ok (.getfield 307, 3) := by decide +kernel
theorem dX8_judge_78 : decode cX8_judge 78 = .ok (.iload 6, 2) := by decide +kernel
theorem dX8_judge_80 : decode cX8_judge 80 = .ok (.isub, 1) := by decide +kernel
theorem dX8_judge_81 : decode cX8_judge 81 = .ok (.if_icmp .lt 9, 3) := by decide +kernel
theorem dX8_judge_84 : decode cX8_judge 84 = .ok (.bipush 100, 2) := by decide +kernel
theorem dX8_judge_86 : decode cX8_judge 86 = .ok (.iload 6, 2) := by decide +kernel
theorem dX8_judge_88 : decode cX8_judge 88 = .ok (.iadd, 1) := by decide +kernel
theorem dX8_judge_89 : decode cX8_judge 89 = .ok (.ireturn, 1) := by decide +kernel
theorem dX8_judge_90 : decode cX8_judge 90 = .ok (.aload_n 3, 1) := by decide +kernel
theorem dX8_judge_91 : decode cX8_judge 91 = .ok (.getfield 304, 3) := by decide +kernel
theorem dX8_judge_94 : decode cX8_judge 94 = .ok (.iload_n 2, 1) := by decide +kernel
theorem dX8_judge_95 : decode cX8_judge 95 = .ok (.iload 6, 2) := by decide +kernel
theorem dX8_judge_97 : decode cX8_judge 97 = .ok (.iadd, 1) := by decide +kernel
theorem dX8_judge_98 : decode cX8_judge 98 = .ok (.laload, 1) := by decide +kernel
theorem dX8_judge_99 : decode cX8_judge 99 = .ok (.aload_n 0, 1) := by decide +kernel
theorem dX8_judge_100 : decode cX8_judge 100 = .ok (.getfield 12, 3) := by decide +kernel
theorem dX8_judge_103 : decode cX8_judge 103 = .ok (.iload 6, 2) := by decide +kernel
theorem dX8_judge_105 : decode cX8_judge 105 = .ok (.iconst 0, 1) := by decide +kernel
theorem dX8_judge_106 : decode cX8_judge 106 = .ok (.lload 4, 2) := by decide +kernel
theorem dX8_judge_108 : decode cX8_judge 108 = .ok (.invokevirtual 157, 3) := by decide +kernel
theorem dX8_judge_111 : decode cX8_judge 111 = .ok (.lcmp, 1) := by decide +kernel
theorem dX8_judge_112 : decode cX8_judge 112 = .ok (.ifCond .eq 6, 3) := by decide +kernel
theorem dX8_judge_115 : decode cX8_judge 115 = .ok (.iload 6, 2) := by decide +kernel
theorem dX8_judge_117 : decode cX8_judge 117 = .ok (.ireturn, 1) := by decide +kernel
theorem dX8_judge_118 : decode cX8_judge 118 = .ok (.iinc 6 1, 3) := by decide +kernel
theorem dX8_judge_121 : decode cX8_judge 121 = .ok (.goto (-60), 3) := by decide +kernel
theorem dX8_judge_124 : decode cX8_judge 124 = .ok (.bipush (-5), 2) := by decide +kernel
theorem dX8_judge_126 : decode cX8_judge 126 = .ok (.ireturn, 1) := by decide +kernel
theorem dX8_image_0 : decode cX8_image 0 = .ok (.aload_n 0, 1) := by decide +kernel
theorem dX8_image_1 : decode cX8_image 1 = .ok (.getfield 16, 3) := by decide +kernel
theorem dX8_image_4 : decode cX8_image 4 = .ok (.aload_n 0, 1) := by decide +kernel
theorem dX8_image_5 : decode cX8_image 5 = .ok (.getfield 12, 3) := by decide +kernel
theorem dX8_image_8 : decode cX8_image 8 = .ok (.invokevirtual 308, 3) := by decide +kernel
theorem dX8_image_11 : decode cX8_image 11 = .ok (.aload_n 0, 1) := by decide +kernel
theorem dX8_image_12 : decode cX8_image 12 = .ok (.iconst 1, 1) := by decide +kernel
theorem dX8_image_13 : decode cX8_image 13 = .ok (.putfield 22, 3) := by decide +kernel
theorem dX8_image_16 : decode cX8_image 16 = .ok (.aload_n 0, 1) := by decide +kernel
theorem dX8_image_17 : decode cX8_image 17 = .ok (.getfield 16, 3) := by decide +kernel
theorem dX8_image_20 : decode cX8_image 20 = .ok (.getfield 201, 3) := by decide +kernel
theorem dX8_image_23 : decode cX8_image 23 = .ok (.ireturn, 1) := by decide +kernel
theorem dX8_undo_0 : decode cX8_undo 0 = .ok (.aload_n 0, 1) := by decide +kernel
theorem dX8_undo_1 : decode cX8_undo 1 = .ok (.getfield 22, 3) := by decide +kernel
theorem dX8_undo_4 : decode cX8_undo 4 = .ok (.ifCond .ne 10, 3) := by decide +kernel
theorem dX8_undo_7 : decode cX8_undo 7 = .ok (.aload_n 0, 1) := by decide +kernel
theorem dX8_undo_8 : decode cX8_undo 8 = .ok (.bipush (-3), 2) := by decide +kernel
theorem dX8_undo_10 : decode cX8_undo 10 = .ok (.invokevirtual 99, 3) := by decide +kernel
theorem dX8_undo_13 : decode cX8_undo 13 = .ok (.ireturn, 1) := by decide +kernel
theorem dX8_undo_14 : decode cX8_undo 14 = .ok (.aload_n 0, 1) := by decide +kernel
theorem dX8_undo_15 : decode cX8_undo 15 = .ok (.getfield 12, 3) := by decide +kernel
theorem dX8_undo_18 : decode cX8_undo 18 = .ok (.aload_n 0, 1) := by decide +kernel
theorem dX8_undo_19 : decode cX8_undo 19 = .ok (.getfield 16, 3) := by decide +kernel
theorem dX8_undo_22 : decode cX8_undo 22 = .ok (.invokevirtual 308, 3) := by decide +kernel
theorem dX8_undo_25 : decode cX8_undo 25 = .ok (.aload_n 0, 1) := by decide +kernel
theorem dX8_undo_26 : decode cX8_undo 26 = .ok (.getfield 12, 3) := by decide +kernel
theorem dX8_undo_29 : decode cX8_undo 29 = .ok (.getfield 201, 3) := by decide +kernel
theorem dX8_undo_32 : decode cX8_undo 32 = .ok (.ireturn, 1) := by decide +kernel
theorem dX8_count_0 : decode cX8_count 0 = .ok (.iload_n 1, 1) := by decide +kernel
theorem dX8_count_1 : decode cX8_count 1 = .ok (.tableswitch 63 0 3 #[31, 39, 47, 55], 31) := by decide +kernel
theorem dX8_count_32 : decode cX8_count 32 = .ok (.aload_n 0, 1) := by decide +kernel
theorem dX8_count_33 : decode cX8_count 33 = .ok (.getfield 12, 3) := by decide +kernel
theorem dX8_count_36 : decode cX8_count 36 = .ok (.getfield 201, 3) := by decide +kernel
theorem dX8_count_39 : decode cX8_count 39 = .ok (.ireturn, 1) := by decide +kernel
theorem dX8_count_40 : decode cX8_count 40 = .ok (.aload_n 0, 1) := by decide +kernel
theorem dX8_count_41 : decode cX8_count 41 = .ok (.getfield 12, 3) := by decide +kernel
theorem dX8_count_44 : decode cX8_count 44 = .ok (.getfield 312, 3) := by decide +kernel
theorem dX8_count_47 : decode cX8_count 47 = .ok (.ireturn, 1) := by decide +kernel
theorem dX8_count_48 : decode cX8_count 48 = .ok (.aload_n 0, 1) := by decide +kernel
theorem dX8_count_49 : decode cX8_count 49 = .ok (.getfield 66, 3) := by decide +kernel
theorem dX8_count_52 : decode cX8_count 52 = .ok (.getfield 278, 3) := by decide +kernel
theorem dX8_count_55 : decode cX8_count 55 = .ok (.ireturn, 1) := by decide +kernel
theorem dX8_count_56 : decode cX8_count 56 = .ok (.aload_n 0, 1) := by decide +kernel
theorem dX8_count_57 : decode cX8_count 57 = .ok (.getfield 12, 3) := by decide +kernel
theorem dX8_count_60 : decode cX8_count 60 = .ok (.getfield 315, 3) := by decide +kernel
theorem dX8_count_63 : decode cX8_count 63 = .ok (.ireturn, 1) := by decide +kernel
theorem dX8_count_64 : decode cX8_count 64 = .ok (.aload_n 0, 1) := by decide +kernel
theorem dX8_count_65 : decode cX8_count 65 = .ok (.iconst (-1), 1) := by decide +kernel
theorem dX8_count_66 : decode cX8_count 66 = .ok (.invokevirtual 99, 3) := by decide +kernel
theorem dX8_count_69 : decode cX8_count 69 = .ok (.ireturn, 1) := by decide +kernel
theorem dX8_answered_0 : decode cX8_answered 0 = .ok (.iload_n 1, 1) := by decide +kernel
theorem dX8_answered_1 : decode cX8_answered 1 = .ok (.ifCond .ge 11, 3) := by decide +kernel
theorem dX8_answered_4 : decode cX8_answered 4 = .ok (.aload_n 0, 1) := by decide +kernel
theorem dX8_answered_5 : decode cX8_answered 5 = .ok (.iload_n 1, 1) := by decide +kernel
theorem dX8_answered_6 : decode cX8_answered 6 = .ok (.invokevirtual 99, 3) := by decide +kernel
theorem dX8_answered_9 : decode cX8_answered 9 = .ok (.goto 4, 3) := by decide +kernel
theorem dX8_answered_12 : decode cX8_answered 12 = .ok (.iload_n 1, 1) := by decide +kernel
theorem dX8_answered_13 : decode cX8_answered 13 = .ok (.ireturn, 1) := by decide +kernel
theorem dX8_refuse_0 : decode cX8_refuse 0 = .ok (.iload_n 1, 1) := by decide +kernel
theorem dX8_refuse_1 : decode cX8_refuse 1 = .ok (.bipush (-7), 2) := by decide +kernel
theorem dX8_refuse_3 : decode cX8_refuse 3 = .ok (.if_icmp .ne 19, 3) := by decide +kernel
theorem dX8_refuse_6 : decode cX8_refuse 6 = .ok (.aload_n 0, 1) := by decide +kernel
theorem dX8_refuse_7 : decode cX8_refuse 7 = .ok (.getfield 73, 3) := by decide +kernel
theorem dX8_refuse_10 : decode cX8_refuse 10 = .ok (.iload_n 1, 1) := by decide +kernel
theorem dX8_refuse_11 : decode cX8_refuse 11 = .ok (.iconst 1, 1) := by decide +kernel
theorem dX8_refuse_12 : decode cX8_refuse 12 = .ok (.bipush (-9), 2) := by decide +kernel
theorem dX8_refuse_14 : decode cX8_refuse 14 = .ok (.bipush (-9), 2) := by decide +kernel
theorem dX8_refuse_16 : decode cX8_refuse 16 = .ok (.invokevirtual 318, 3) := by decide +kernel
theorem dX8_refuse_19 : decode cX8_refuse 19 = .ok (.goto 14, 3) := by decide +kernel
theorem dX8_refuse_22 : decode cX8_refuse 22 = .ok (.aload_n 0, 1) := by decide +kernel
theorem dX8_refuse_23 : decode cX8_refuse 23 = .ok (.getfield 73, 3) := by decide +kernel
theorem dX8_refuse_26 : decode cX8_refuse 26 = .ok (.iload_n 1, 1) := by decide +kernel
theorem dX8_refuse_27 : decode cX8_refuse 27 = .ok (.iconst 0, 1) := by decide +kernel
theorem dX8_refuse_28 : decode cX8_refuse 28 = .ok (.iconst 0, 1) := by decide +kernel
theorem dX8_refuse_29 : decode cX8_refuse 29 = .ok (.iconst 0, 1) := by decide +kernel
theorem dX8_refuse_30 : decode cX8_refuse 30 = .ok (.invokevirtual 318, 3) := by decide +kernel
theorem dX8_refuse_33 : decode cX8_refuse 33 = .ok (.iload_n 1, 1) := by decide +kernel
theorem dX8_refuse_34 : decode cX8_refuse 34 = .ok (.ireturn, 1) := by decide +kernel
theorem dX8_refuseLong_0 : decode cX8_refuseLong 0 = .ok (.ldc2_w 322, 3) := by decide +kernel
theorem dX8_refuseLong_3 : decode cX8_refuseLong 3 = .ok (.aload_n 0, 1) := by decide +kernel
theorem dX8_refuseLong_4 : decode cX8_refuseLong 4 = .ok (.iload_n 1, 1) := by decide +kernel
theorem dX8_refuseLong_5 : decode cX8_refuseLong 5 = .ok (.invokevirtual 99, 3) := by decide +kernel
theorem dX8_refuseLong_8 : decode cX8_refuseLong 8 = .ok (.i2l, 1) := by decide +kernel
theorem dX8_refuseLong_9 : decode cX8_refuseLong 9 = .ok (.lsub, 1) := by decide +kernel
theorem dX8_refuseLong_10 : decode cX8_refuseLong 10 = .ok (.lreturn, 1) := by decide +kernel
theorem dX8_partOf_0 : decode cX8_partOf 0 = .ok (.aload_n 1, 1) := by decide +kernel
theorem dX8_partOf_1 : decode cX8_partOf 1 = .ok (.getfield 324, 3) := by decide +kernel
theorem dX8_partOf_4 : decode cX8_partOf 4 = .ok (.ifCond .eq 10, 3) := by decide +kernel
theorem dX8_partOf_7 : decode cX8_partOf 7 = .ok (.aload_n 0, 1) := by decide +kernel
theorem dX8_partOf_8 : decode cX8_partOf 8 = .ok (.bipush (-7), 2) := by decide +kernel
theorem dX8_partOf_10 : decode cX8_partOf 10 = .ok (.invokevirtual 112, 3) := by decide +kernel
theorem dX8_partOf_13 : decode cX8_partOf 13 = .ok (.lreturn, 1) := by decide +kernel
theorem dX8_partOf_14 : decode cX8_partOf 14 = .ok (.iload_n 2, 1) := by decide +kernel
theorem dX8_partOf_15 : decode cX8_partOf 15 = .ok (.ifCond .ne 10, 3) := by decide +kernel
theorem dX8_partOf_18 : decode cX8_partOf 18 = .ok (.aload_n 1, 1) := by decide +kernel
theorem dX8_partOf_19 : decode cX8_partOf 19 = .ok (.getfield 327, 3) := by decide +kernel
theorem dX8_partOf_22 : decode cX8_partOf 22 = .ok (.goto 7, 3) := by decide +kernel
theorem dX8_partOf_25 : decode cX8_partOf 25 = .ok (.aload_n 1, 1) := by decide +kernel
theorem dX8_partOf_26 : decode cX8_partOf 26 = .ok (.getfield 329, 3) := by decide +kernel
theorem dX8_partOf_29 : decode cX8_partOf 29 = .ok (.lreturn, 1) := by decide +kernel
theorem dX8_lowest_0 : decode cX8_lowest 0 = .ok (.aload_n 0, 1) := by decide +kernel
theorem dX8_lowest_1 : decode cX8_lowest 1 = .ok (.getfield 53, 3) := by decide +kernel
theorem dX8_lowest_4 : decode cX8_lowest 4 = .ok (.lload_n 1, 1) := by decide +kernel
theorem dX8_lowest_5 : decode cX8_lowest 5 = .ok (.lload_n 3, 1) := by decide +kernel
theorem dX8_lowest_6 : decode cX8_lowest 6 = .ok (.invokevirtual 207, 3) := by decide +kernel
theorem dX8_lowest_9 : decode cX8_lowest 9 = .ok (.iload 5, 2) := by decide +kernel
theorem dX8_lowest_11 : decode cX8_lowest 11 = .ok (.ifCond .ne 13, 3) := by decide +kernel
theorem dX8_lowest_14 : decode cX8_lowest 14 = .ok (.aload_n 0, 1) := by decide +kernel
theorem dX8_lowest_15 : decode cX8_lowest 15 = .ok (.getfield 53, 3) := by decide +kernel
theorem dX8_lowest_18 : decode cX8_lowest 18 = .ok (.getfield 327, 3) := by decide +kernel
theorem dX8_lowest_21 : decode cX8_lowest 21 = .ok (.goto 10, 3) := by decide +kernel
theorem dX8_lowest_24 : decode cX8_lowest 24 = .ok (.aload_n 0, 1) := by decide +kernel
theorem dX8_lowest_25 : decode cX8_lowest 25 = .ok (.getfield 53, 3) := by decide +kernel
theorem dX8_lowest_28 : decode cX8_lowest 28 = .ok (.getfield 329, 3) := by decide +kernel
theorem dX8_lowest_31 : decode cX8_lowest 31 = .ok (.lreturn, 1) := by decide +kernel
theorem dX8_rowOf_0 : decode cX8_rowOf 0 = .ok (.iload_n 1, 1) := by decide +kernel
theorem dX8_rowOf_1 : decode cX8_rowOf 1 = .ok (.ifCond .lt 21, 3) := by decide +kernel
theorem dX8_rowOf_4 : decode cX8_rowOf 4 = .ok (.iload_n 1, 1) := by decide +kernel
theorem dX8_rowOf_5 : decode cX8_rowOf 5 = .ok (.aload_n 0, 1) := by decide +kernel
theorem dX8_rowOf_6 : decode cX8_rowOf 6 = .ok (.getfield 79, 3) := by decide +kernel
theorem dX8_rowOf_9 : decode cX8_rowOf 9 = .ok (.arraylength, 1) := by decide +kernel
theorem dX8_rowOf_10 : decode cX8_rowOf 10 = .ok (.if_icmp .ge 12, 3) := by decide +kernel
theorem dX8_rowOf_13 : decode cX8_rowOf 13 = .ok (.aload_n 0, 1) := by decide +kernel
theorem dX8_rowOf_14 : decode cX8_rowOf 14 = .ok (.getfield 79, 3) := by decide +kernel
theorem dX8_rowOf_17 : decode cX8_rowOf 17 = .ok (.iload_n 1, 1) := by decide +kernel
theorem dX8_rowOf_18 : decode cX8_rowOf 18 = .ok (.aaload, 1) := by decide +kernel
theorem dX8_rowOf_19 : decode cX8_rowOf 19 = .ok (.goto 4, 3) := by decide +kernel
theorem dX8_rowOf_22 : decode cX8_rowOf 22 = .ok (.aconst_null, 1) := by decide +kernel
theorem dX8_rowOf_23 : decode cX8_rowOf 23 = .ok (.areturn, 1) := by decide +kernel
theorem dX8_refusalAt_0 : decode cX8_refusalAt 0 = .ok (.aload_n 0, 1) := by decide +kernel
theorem dX8_refusalAt_1 : decode cX8_refusalAt 1 = .ok (.ifnonnull 5, 3) := by decide +kernel
theorem dX8_refusalAt_4 : decode cX8_refusalAt 4 = .ok (.iconst (-1), 1) := by decide +kernel
theorem dX8_refusalAt_5 : decode cX8_refusalAt 5 = .ok (.ireturn, 1) := by decide +kernel
theorem dX8_refusalAt_6 : decode cX8_refusalAt 6 = .ok (.aload_n 0, 1) := by decide +kernel
theorem dX8_refusalAt_7 : decode cX8_refusalAt 7 = .ok (.getfield 307, 3) := by decide +kernel
theorem dX8_refusalAt_10 : decode cX8_refusalAt 10 = .ok (.ifCond .ge 6, 3) := by decide +kernel
theorem dX8_refusalAt_13 : decode cX8_refusalAt 13 = .ok (.bipush (-11), 2) := by decide +kernel
theorem dX8_refusalAt_15 : decode cX8_refusalAt 15 = .ok (.ireturn, 1) := by decide +kernel
theorem dX8_refusalAt_16 : decode cX8_refusalAt 16 = .ok (.iload_n 1, 1) := by decide +kernel
theorem dX8_refusalAt_17 : decode cX8_refusalAt 17 = .ok (.ifCond .lt 11, 3) := by decide +kernel
theorem dX8_refusalAt_20 : decode cX8_refusalAt 20 = .ok (.iload_n 1, 1) := by decide +kernel
theorem dX8_refusalAt_21 : decode cX8_refusalAt 21 = .ok (.aload_n 0, 1) := by decide +kernel
theorem dX8_refusalAt_22 : decode cX8_refusalAt 22 = .ok (.getfield 307, 3) := by decide +kernel
theorem dX8_refusalAt_25 : decode cX8_refusalAt 25 = .ok (.if_icmp .lt 8, 3) := by decide +kernel
theorem dX8_refusalAt_28 : decode cX8_refusalAt 28 = .ok (.bipush (-13), 2) := by decide +kernel
theorem dX8_refusalAt_30 : decode cX8_refusalAt 30 = .ok (.goto 4, 3) := by decide +kernel
theorem dX8_refusalAt_33 : decode cX8_refusalAt 33 = .ok (.iconst 0, 1) := by decide +kernel
theorem dX8_refusalAt_34 : decode cX8_refusalAt 34 = .ok (.ireturn, 1) := by decide +kernel
theorem dX8_isRow_0 : decode cX8_isRow 0 = .ok (.iload_n 0, 1) := by decide +kernel
theorem dX8_isRow_1 : decode cX8_isRow 1 = .ok (.ifCond .lt 12, 3) := by decide +kernel
theorem dX8_isRow_4 : decode cX8_isRow 4 = .ok (.iload_n 0, 1) := by decide +kernel
theorem dX8_isRow_5 : decode cX8_isRow 5 = .ok (.iconst 3, 1) := by decide +kernel
theorem dX8_isRow_6 : decode cX8_isRow 6 = .ok (.if_icmp .ge 7, 3) := by decide +kernel
theorem dX8_isRow_9 : decode cX8_isRow 9 = .ok (.iconst 1, 1) := by decide +kernel
theorem dX8_isRow_10 : decode cX8_isRow 10 = .ok (.goto 4, 3) := by decide +kernel
theorem dX8_isRow_13 : decode cX8_isRow 13 = .ok (.iconst 0, 1) := by decide +kernel
theorem dX8_isRow_14 : decode cX8_isRow 14 = .ok (.ireturn, 1) := by decide +kernel
theorem dX8_isPart_0 : decode cX8_isPart 0 = .ok (.iload_n 0, 1) := by decide +kernel
theorem dX8_isPart_1 : decode cX8_isPart 1 = .ok (.ifCond .eq 8, 3) := by decide +kernel
theorem dX8_isPart_4 : decode cX8_isPart 4 = .ok (.iload_n 0, 1) := by decide +kernel
theorem dX8_isPart_5 : decode cX8_isPart 5 = .ok (.iconst 1, 1) := by decide +kernel
theorem dX8_isPart_6 : decode cX8_isPart 6 = .ok (.if_icmp .ne 7, 3) := by decide +kernel
theorem dX8_isPart_9 : decode cX8_isPart 9 = .ok (.iconst 1, 1) := by decide +kernel
theorem dX8_isPart_10 : decode cX8_isPart 10 = .ok (.goto 4, 3) := by decide +kernel
theorem dX8_isPart_13 : decode cX8_isPart 13 = .ok (.iconst 0, 1) := by decide +kernel
theorem dX8_isPart_14 : decode cX8_isPart 14 = .ok (.ireturn, 1) := by decide +kernel
theorem dX8_isManner_0 : decode cX8_isManner 0 = .ok (.iload_n 0, 1) := by decide +kernel
theorem dX8_isManner_1 : decode cX8_isManner 1 = .ok (.ifCond .eq 8, 3) := by decide +kernel
theorem dX8_isManner_4 : decode cX8_isManner 4 = .ok (.iload_n 0, 1) := by decide +kernel
theorem dX8_isManner_5 : decode cX8_isManner 5 = .ok (.iconst 1, 1) := by decide +kernel
theorem dX8_isManner_6 : decode cX8_isManner 6 = .ok (.if_icmp .ne 7, 3) := by decide +kernel
theorem dX8_isManner_9 : decode cX8_isManner 9 = .ok (.iconst 1, 1) := by decide +kernel
theorem dX8_isManner_10 : decode cX8_isManner 10 = .ok (.goto 4, 3) := by decide +kernel
theorem dX8_isManner_13 : decode cX8_isManner 13 = .ok (.iconst 0, 1) := by decide +kernel
theorem dX8_isManner_14 : decode cX8_isManner 14 = .ok (.ireturn, 1) := by decide +kernel
theorem dX8_isIn_0 : decode cX8_isIn 0 = .ok (.iload_n 0, 1) := by decide +kernel
theorem dX8_isIn_1 : decode cX8_isIn 1 = .ok (.iload_n 1, 1) := by decide +kernel
theorem dX8_isIn_2 : decode cX8_isIn 2 = .ok (.ishr, 1) := by decide +kernel
theorem dX8_isIn_3 : decode cX8_isIn 3 = .ok (.iconst 1, 1) := by decide +kernel
theorem dX8_isIn_4 : decode cX8_isIn 4 = .ok (.iand, 1) := by decide +kernel
theorem dX8_isIn_5 : decode cX8_isIn 5 = .ok (.ifCond .eq 7, 3) := by decide +kernel
theorem dX8_isIn_8 : decode cX8_isIn 8 = .ok (.iconst 1, 1) := by decide +kernel
theorem dX8_isIn_9 : decode cX8_isIn 9 = .ok (.goto 4, 3) := by decide +kernel
theorem dX8_isIn_12 : decode cX8_isIn 12 = .ok (.iconst 0, 1) := by decide +kernel
theorem dX8_isIn_13 : decode cX8_isIn 13 = .ok (.ireturn, 1) := by decide +kernel
theorem dX8_gcd_0 : decode cX8_gcd 0 = .ok (.lload_n 0, 1) := by decide +kernel
theorem dX8_gcd_1 : decode cX8_gcd 1 = .ok (.lstore 4, 2) := by decide +kernel
theorem dX8_gcd_3 : decode cX8_gcd 3 = .ok (.lload_n 2, 1) := by decide +kernel
theorem dX8_gcd_4 : decode cX8_gcd 4 = .ok (.lstore 6, 2) := by decide +kernel
theorem dX8_gcd_6 : decode cX8_gcd 6 = .ok (.iconst 0, 1) := by decide +kernel
theorem dX8_gcd_7 : decode cX8_gcd 7 = .ok (.istore 8, 2) := by decide +kernel
theorem dX8_gcd_9 : decode cX8_gcd 9 = .ok (.iload 8, 2) := by decide +kernel
theorem dX8_gcd_11 : decode cX8_gcd 11 = .ok (.sipush 1000, 3) := by decide +kernel
theorem dX8_gcd_14 : decode cX8_gcd 14 = .ok (.if_icmp .ge 31, 3) := by decide +kernel
theorem dX8_gcd_17 : decode cX8_gcd 17 = .ok (.lload 6, 2) := by decide +kernel
theorem dX8_gcd_19 : decode cX8_gcd 19 = .ok (.lconst 0, 1) := by decide +kernel
theorem dX8_gcd_20 : decode cX8_gcd 20 = .ok (.lcmp, 1) := by decide +kernel
theorem dX8_gcd_21 : decode cX8_gcd 21 = .ok (.ifCond .eq 24, 3) := by decide +kernel
theorem dX8_gcd_24 : decode cX8_gcd 24 = .ok (.lload 4, 2) := by decide +kernel
theorem dX8_gcd_26 : decode cX8_gcd 26 = .ok (.lload 6, 2) := by decide +kernel
theorem dX8_gcd_28 : decode cX8_gcd 28 = .ok (.lrem, 1) := by decide +kernel
theorem dX8_gcd_29 : decode cX8_gcd 29 = .ok (.lstore 9, 2) := by decide +kernel
theorem dX8_gcd_31 : decode cX8_gcd 31 = .ok (.lload 6, 2) := by decide +kernel
theorem dX8_gcd_33 : decode cX8_gcd 33 = .ok (.lstore 4, 2) := by decide +kernel
theorem dX8_gcd_35 : decode cX8_gcd 35 = .ok (.lload 9, 2) := by decide +kernel
theorem dX8_gcd_37 : decode cX8_gcd 37 = .ok (.lstore 6, 2) := by decide +kernel
theorem dX8_gcd_39 : decode cX8_gcd 39 = .ok (.iinc 8 1, 3) := by decide +kernel
theorem dX8_gcd_42 : decode cX8_gcd 42 = .ok (.goto (-33), 3) := by decide +kernel
theorem dX8_gcd_45 : decode cX8_gcd 45 = .ok (.lload 4, 2) := by decide +kernel
theorem dX8_gcd_47 : decode cX8_gcd 47 = .ok (.lconst 0, 1) := by decide +kernel
theorem dX8_gcd_48 : decode cX8_gcd 48 = .ok (.lcmp, 1) := by decide +kernel
theorem dX8_gcd_49 : decode cX8_gcd 49 = .ok (.ifCond .ge 9, 3) := by decide +kernel
theorem dX8_gcd_52 : decode cX8_gcd 52 = .ok (.lload 4, 2) := by decide +kernel
theorem dX8_gcd_54 : decode cX8_gcd 54 = .ok (.lneg, 1) := by decide +kernel
theorem dX8_gcd_55 : decode cX8_gcd 55 = .ok (.goto 5, 3) := by decide +kernel
theorem dX8_gcd_58 : decode cX8_gcd 58 = .ok (.lload 4, 2) := by decide +kernel
theorem dX8_gcd_60 : decode cX8_gcd 60 = .ok (.lreturn, 1) := by decide +kernel
theorem dX8_layWheel_0 : decode cX8_layWheel 0 = .ok (.aload_n 0, 1) := by decide +kernel
theorem dX8_layWheel_1 : decode cX8_layWheel 1 = .ok (.getfield 12, 3) := by decide +kernel
theorem dX8_layWheel_4 : decode cX8_layWheel 4 = .ok (.iconst 0, 1) := by decide +kernel
theorem dX8_layWheel_5 : decode cX8_layWheel 5 = .ok (.invokevirtual 154, 3) := by decide +kernel
theorem dX8_layWheel_8 : decode cX8_layWheel 8 = .ok (.lstore_n 1, 1) := by decide +kernel
theorem dX8_layWheel_9 : decode cX8_layWheel 9 = .ok (.lload_n 1, 1) := by decide +kernel
theorem dX8_layWheel_10 : decode cX8_layWheel 10 = .ok (.lconst 1, 1) := by decide +kernel
theorem dX8_layWheel_11 : decode cX8_layWheel 11 = .ok (.lcmp, 1) := by decide +kernel
theorem dX8_layWheel_12 : decode cX8_layWheel 12 = .ok (.ifCond .ge 5, 3) := by decide +kernel
theorem dX8_layWheel_15 : decode cX8_layWheel 15 = .ok (.iconst 0, 1) := by decide +kernel
theorem dX8_layWheel_16 : decode cX8_layWheel 16 = .ok (.ireturn, 1) := by decide +kernel
theorem dX8_layWheel_17 : decode cX8_layWheel 17 = .ok (.aload_n 0, 1) := by decide +kernel
theorem dX8_layWheel_18 : decode cX8_layWheel 18 = .ok (.getfield 29, 3) := by decide +kernel
theorem dX8_layWheel_21 : decode cX8_layWheel 21 = .ok (.aload_n 0, 1) := by decide +kernel
theorem dX8_layWheel_22 : decode cX8_layWheel 22 = .ok (.getfield 12, 3) := by decide +kernel
theorem dX8_layWheel_25 : decode cX8_layWheel 25 = .ok (.iconst 0, 1) := by decide +kernel
theorem dX8_layWheel_26 : decode cX8_layWheel 26 = .ok (.lload_n 1, 1) := by decide +kernel
theorem dX8_layWheel_27 : decode cX8_layWheel 27 = .ok (.aload_n 0, 1) := by decide +kernel
theorem dX8_layWheel_28 : decode cX8_layWheel 28 = .ok (.getfield 12, 3) := by decide +kernel
theorem dX8_layWheel_31 : decode cX8_layWheel 31 = .ok (.invokevirtual 331, 3) := by decide +kernel
theorem dX8_layWheel_34 : decode cX8_layWheel 34 = .ok (.invokevirtual 223, 3) := by decide +kernel
theorem dX8_layWheel_37 : decode cX8_layWheel 37 = .ok (.iconst 1, 1) := by decide +kernel
theorem dX8_layWheel_38 : decode cX8_layWheel 38 = .ok (.ireturn, 1) := by decide +kernel
theorem dX8_layBothTimes_0 : decode cX8_layBothTimes 0 = .ok (.aload_n 0, 1) := by decide +kernel
theorem dX8_layBothTimes_1 : decode cX8_layBothTimes 1 = .ok (.getfield 12, 3) := by decide +kernel
theorem dX8_layBothTimes_4 : decode cX8_layBothTimes 4 = .ok (.iconst 2, 1) := by decide +kernel
theorem dX8_layBothTimes_5 : decode cX8_layBothTimes 5 = .ok (.invokevirtual 154, 3) := by decide +kernel
theorem dX8_layBothTimes_8 : decode cX8_layBothTimes 8 = .ok (.lstore_n 1, 1) := by decide +kernel
theorem dX8_layBothTimes_9 : decode cX8_layBothTimes 9 = .ok (.lload_n 1, 1) := by decide +kernel
theorem dX8_layBothTimes_10 : decode cX8_layBothTimes 10 = .ok (.lconst 1, 1) := by decide +kernel
theorem dX8_layBothTimes_11 : decode cX8_layBothTimes 11 = .ok (.lcmp, 1) := by decide +kernel
theorem dX8_layBothTimes_12 : decode cX8_layBothTimes 12 = .ok (.ifCond .ge 5, 3) := by decide +kernel
theorem dX8_layBothTimes_15 : decode cX8_layBothTimes 15 = .ok (.iconst 0, 1) := by decide +kernel
theorem dX8_layBothTimes_16 : decode cX8_layBothTimes 16 = .ok (.ireturn, 1) := by decide +kernel
theorem dX8_layBothTimes_17 : decode cX8_layBothTimes 17 = .ok (.aload_n 0, 1) := by decide +kernel
theorem dX8_layBothTimes_18 : decode cX8_layBothTimes 18 = .ok (.getfield 29, 3) := by decide +kernel
theorem dX8_layBothTimes_21 : decode cX8_layBothTimes 21 = .ok (.aload_n 0, 1) := by decide +kernel
theorem dX8_layBothTimes_22 : decode cX8_layBothTimes 22 = .ok (.getfield 12, 3) := by decide +kernel
theorem dX8_layBothTimes_25 : decode cX8_layBothTimes 25 = .ok (.iconst 0, 1) := by decide +kernel
theorem dX8_layBothTimes_26 : decode cX8_layBothTimes 26 = .ok (.lload_n 1, 1) := by decide +kernel
theorem dX8_layBothTimes_27 : decode cX8_layBothTimes 27 = .ok (.aload_n 0, 1) := by decide +kernel
theorem dX8_layBothTimes_28 : decode cX8_layBothTimes 28 = .ok (.getfield 12, 3) := by decide +kernel
theorem dX8_layBothTimes_31 : decode cX8_layBothTimes 31 = .ok (.invokevirtual 331, 3) := by decide +kernel
theorem dX8_layBothTimes_34 : decode cX8_layBothTimes 34 = .ok (.invokevirtual 223, 3) := by decide +kernel
theorem dX8_layBothTimes_37 : decode cX8_layBothTimes 37 = .ok (.aload_n 0, 1) := by decide +kernel
theorem dX8_layBothTimes_38 : decode cX8_layBothTimes 38 = .ok (.getfield 33, 3) := by decide +kernel
theorem dX8_layBothTimes_41 : decode cX8_layBothTimes 41 = .ok (.aload_n 0, 1) := by decide +kernel
theorem dX8_layBothTimes_42 : decode cX8_layBothTimes 42 = .ok (.getfield 12, 3) := by decide +kernel
theorem dX8_layBothTimes_45 : decode cX8_layBothTimes 45 = .ok (.iconst 2, 1) := by decide +kernel
theorem dX8_layBothTimes_46 : decode cX8_layBothTimes 46 = .ok (.lload_n 1, 1) := by decide +kernel
theorem dX8_layBothTimes_47 : decode cX8_layBothTimes 47 = .ok (.aload_n 0, 1) := by decide +kernel
theorem dX8_layBothTimes_48 : decode cX8_layBothTimes 48 = .ok (.getfield 12, 3) := by decide +kernel
theorem dX8_layBothTimes_51 : decode cX8_layBothTimes 51 = .ok (.invokevirtual 331, 3) := by decide +kernel
theorem dX8_layBothTimes_54 : decode cX8_layBothTimes 54 = .ok (.invokevirtual 223, 3) := by decide +kernel
theorem dX8_layBothTimes_57 : decode cX8_layBothTimes 57 = .ok (.iconst 1, 1) := by decide +kernel
theorem dX8_layBothTimes_58 : decode cX8_layBothTimes 58 = .ok (.ireturn, 1) := by decide +kernel
theorem dX8_isFair_0 : decode cX8_isFair 0 = .ok (.lconst 0, 1) := by decide +kernel
theorem dX8_isFair_1 : decode cX8_isFair 1 = .ok (.lstore_n 2, 1) := by decide +kernel
theorem dX8_isFair_2 : decode cX8_isFair 2 = .ok (.iconst 0, 1) := by decide +kernel
theorem dX8_isFair_3 : decode cX8_isFair 3 = .ok (.istore 4, 2) := by decide +kernel
theorem dX8_isFair_5 : decode cX8_isFair 5 = .ok (.iconst 0, 1) := by decide +kernel
theorem dX8_isFair_6 : decode cX8_isFair 6 = .ok (.istore 5, 2) := by decide +kernel
theorem dX8_isFair_8 : decode cX8_isFair 8 = .ok (.iload 5, 2) := by decide +kernel
theorem dX8_isFair_10 : decode cX8_isFair 10 = .ok (.aload_n 0, 1) := by decide +kernel
theorem dX8_isFair_11 : decode cX8_isFair 11 = .ok (.getfield 12, 3) := by decide +kernel
theorem dX8_isFair_14 : decode cX8_isFair 14 = .ok (.getfield 201, 3) := by decide +kernel
theorem dX8_isFair_17 : decode cX8_isFair 17 = .ok (.if_icmp .ge 52, 3) := by decide +kernel
theorem dX8_isFair_20 : decode cX8_isFair 20 = .ok (.aload_n 0, 1) := by decide +kernel
theorem dX8_isFair_21 : decode cX8_isFair 21 = .ok (.getfield 12, 3) := by decide +kernel
theorem dX8_isFair_24 : decode cX8_isFair 24 = .ok (.getfield 116, 3) := by decide +kernel
theorem dX8_isFair_27 : decode cX8_isFair 27 = .ok (.iload 5, 2) := by decide +kernel
theorem dX8_isFair_29 : decode cX8_isFair 29 = .ok (.iaload, 1) := by decide +kernel
theorem dX8_isFair_30 : decode cX8_isFair 30 = .ok (.iload_n 1, 1) := by decide +kernel
theorem dX8_isFair_31 : decode cX8_isFair 31 = .ok (.if_icmp .ne 32, 3) := by decide +kernel
theorem dX8_isFair_34 : decode cX8_isFair 34 = .ok (.lload_n 2, 1) := by decide +kernel
theorem dX8_isFair_35 : decode cX8_isFair 35 = .ok (.aload_n 0, 1) := by decide +kernel
theorem dX8_isFair_36 : decode cX8_isFair 36 = .ok (.getfield 12, 3) := by decide +kernel
theorem dX8_isFair_39 : decode cX8_isFair 39 = .ok (.iload 5, 2) := by decide +kernel
theorem dX8_isFair_41 : decode cX8_isFair 41 = .ok (.iconst 0, 1) := by decide +kernel
theorem dX8_isFair_42 : decode cX8_isFair 42 = .ok (.aload_n 0, 1) := by decide +kernel
theorem dX8_isFair_43 : decode cX8_isFair 43 = .ok (.getfield 29, 3) := by decide +kernel
theorem dX8_isFair_46 : decode cX8_isFair 46 = .ok (.getfield 198, 3) := by decide +kernel
theorem dX8_isFair_49 : decode cX8_isFair 49 = .ok (.invokevirtual 157, 3) := by decide +kernel
theorem dX8_isFair_52 : decode cX8_isFair 52 = .ok (.ladd, 1) := by decide +kernel
theorem dX8_isFair_53 : decode cX8_isFair 53 = .ok (.lstore_n 2, 1) := by decide +kernel
theorem dX8_isFair_54 : decode cX8_isFair 54 = .ok (.iload 4, 2) := by decide +kernel
theorem dX8_isFair_56 : decode cX8_isFair 56 = .ok (.iconst 1, 1) := by decide +kernel
theorem dX8_isFair_57 : decode cX8_isFair 57 = .ok (.iload 5, 2) := by decide +kernel
theorem dX8_isFair_59 : decode cX8_isFair 59 = .ok (.ishl, 1) := by decide +kernel
theorem dX8_isFair_60 : decode cX8_isFair 60 = .ok (.ior, 1) := by decide +kernel
theorem dX8_isFair_61 : decode cX8_isFair 61 = .ok (.istore 4, 2) := by decide +kernel
theorem dX8_isFair_63 : decode cX8_isFair 63 = .ok (.iinc 5 1, 3) := by decide +kernel
theorem dX8_isFair_66 : decode cX8_isFair 66 = .ok (.goto (-58), 3) := by decide +kernel
theorem dX8_isFair_69 : decode cX8_isFair 69 = .ok (.iconst 0, 1) := by decide +kernel
theorem dX8_isFair_70 : decode cX8_isFair 70 = .ok (.istore 5, 2) := by decide +kernel
theorem dX8_isFair_72 : decode cX8_isFair 72 = .ok (.iload 5, 2) := by decide +kernel
theorem dX8_isFair_74 : decode cX8_isFair 74 = .ok (.aload_n 0, 1) := by decide +kernel
theorem dX8_isFair_75 : decode cX8_isFair 75 = .ok (.getfield 39, 3) := by decide +kernel
theorem dX8_isFair_78 : decode cX8_isFair 78 = .ok (.getfield 180, 3) := by decide +kernel
theorem dX8_isFair_81 : decode cX8_isFair 81 = .ok (.if_icmp .ge 67, 3) := by decide +kernel
theorem dX8_isFair_84 : decode cX8_isFair 84 = .ok (.aload_n 0, 1) := by decide +kernel
theorem dX8_isFair_85 : decode cX8_isFair 85 = .ok (.getfield 39, 3) := by decide +kernel
theorem dX8_isFair_88 : decode cX8_isFair 88 = .ok (.getfield 191, 3) := by decide +kernel
theorem dX8_isFair_91 : decode cX8_isFair 91 = .ok (.iload 5, 2) := by decide +kernel
theorem dX8_isFair_93 : decode cX8_isFair 93 = .ok (.iaload, 1) := by decide +kernel
theorem dX8_isFair_94 : decode cX8_isFair 94 = .ok (.iload 4, 2) := by decide +kernel
theorem dX8_isFair_96 : decode cX8_isFair 96 = .ok (.iand, 1) := by decide +kernel
theorem dX8_isFair_97 : decode cX8_isFair 97 = .ok (.invokestatic 334, 3) := by decide +kernel
theorem dX8_isFair_100 : decode cX8_isFair 100 = .ok (.i2l, 1) := by decide +kernel
theorem dX8_isFair_101 : decode cX8_isFair 101 = .ok (.aload_n 0, 1) := by decide +kernel
theorem dX8_isFair_102 : decode cX8_isFair 102 = .ok (.getfield 29, 3) := by decide +kernel
theorem dX8_isFair_105 : decode cX8_isFair 105 = .ok (.getfield 198, 3) := by decide +kernel
theorem dX8_isFair_108 : decode cX8_isFair 108 = .ok (.lmul, 1) := by decide +kernel
theorem dX8_isFair_109 : decode cX8_isFair 109 = .ok (.lload_n 2, 1) := by decide +kernel
theorem dX8_isFair_110 : decode cX8_isFair 110 = .ok (.lsub, 1) := by decide +kernel
theorem dX8_isFair_111 : decode cX8_isFair 111 = .ok (.lstore 6, 2) := by decide +kernel
theorem dX8_isFair_113 : decode cX8_isFair 113 = .ok (.lload 6, 2) := by decide +kernel
theorem dX8_isFair_115 : decode cX8_isFair 115 = .ok (.aload_n 0, 1) := by decide +kernel
theorem dX8_isFair_116 : decode cX8_isFair 116 = .ok (.getfield 29, 3) := by decide +kernel
theorem dX8_isFair_119 : decode cX8_isFair 119 = .ok (.getfield 198, 3) := by decide +kernel
theorem dX8_isFair_122 : decode cX8_isFair 122 = .ok (.lneg, 1) := by decide +kernel
theorem dX8_isFair_123 : decode cX8_isFair 123 = .ok (.lcmp, 1) := by decide +kernel
theorem dX8_isFair_124 : decode cX8_isFair 124 = .ok (.ifCond .le 16, 3) := by decide +kernel
theorem dX8_isFair_127 : decode cX8_isFair 127 = .ok (.lload 6, 2) := by decide +kernel
theorem dX8_isFair_129 : decode cX8_isFair 129 = .ok (.aload_n 0, 1) := by decide +kernel
theorem dX8_isFair_130 : decode cX8_isFair 130 = .ok (.getfield 29, 3) := by decide +kernel
theorem dX8_isFair_133 : decode cX8_isFair 133 = .ok (.getfield 198, 3) := by decide +kernel
theorem dX8_isFair_136 : decode cX8_isFair 136 = .ok (.lcmp, 1) := by decide +kernel
theorem dX8_isFair_137 : decode cX8_isFair 137 = .ok (.ifCond .lt 5, 3) := by decide +kernel
theorem dX8_isFair_140 : decode cX8_isFair 140 = .ok (.iconst 0, 1) := by decide +kernel
theorem dX8_isFair_141 : decode cX8_isFair 141 = .ok (.ireturn, 1) := by decide +kernel
theorem dX8_isFair_142 : decode cX8_isFair 142 = .ok (.iinc 5 1, 3) := by decide +kernel
theorem dX8_isFair_145 : decode cX8_isFair 145 = .ok (.goto (-73), 3) := by decide +kernel
theorem dX8_isFair_148 : decode cX8_isFair 148 = .ok (.iconst 1, 1) := by decide +kernel
theorem dX8_isFair_149 : decode cX8_isFair 149 = .ok (.ireturn, 1) := by decide +kernel
theorem dX8_addEstimate_0 : decode cX8_addEstimate 0 = .ok (.iconst 0, 1) := by decide +kernel
theorem dX8_addEstimate_1 : decode cX8_addEstimate 1 = .ok (.istore_n 3, 1) := by decide +kernel
theorem dX8_addEstimate_2 : decode cX8_addEstimate 2 = .ok (.iload_n 3, 1) := by decide +kernel
theorem dX8_addEstimate_3 : decode cX8_addEstimate 3 = .ok (.aload_n 0, 1) := by decide +kernel
theorem dX8_addEstimate_4 : decode cX8_addEstimate 4 = .ok (.getfield 12, 3) := by decide +kernel
theorem dX8_addEstimate_7 : decode cX8_addEstimate 7 = .ok (.getfield 201, 3) := by decide +kernel
theorem dX8_addEstimate_10 : decode cX8_addEstimate 10 = .ok (.if_icmp .ge 73, 3) := by decide +kernel
theorem dX8_addEstimate_13 : decode cX8_addEstimate 13 = .ok (.iload_n 2, 1) := by decide +kernel
theorem dX8_addEstimate_14 : decode cX8_addEstimate 14 = .ok (.iload_n 3, 1) := by decide +kernel
theorem dX8_addEstimate_15 : decode cX8_addEstimate 15 = .ok (.invokestatic 253, 3) := by decide +kernel
theorem dX8_addEstimate_18 : decode cX8_addEstimate 18 = .ok (.ifCond .eq 59, 3) := by decide +kernel
theorem dX8_addEstimate_21 : decode cX8_addEstimate 21 = .ok (.aload_n 0, 1) := by decide +kernel
theorem dX8_addEstimate_22 : decode cX8_addEstimate 22 = .ok (.getfield 53, 3) := by decide +kernel
theorem dX8_addEstimate_25 : decode cX8_addEstimate 25 = .ok (.aload_n 0, 1) := by decide +kernel
theorem dX8_addEstimate_26 : decode cX8_addEstimate 26 = .ok (.getfield 12, 3) := by decide +kernel
theorem dX8_addEstimate_29 : decode cX8_addEstimate 29 = .ok (.getfield 123, 3) := by decide +kernel
theorem dX8_addEstimate_32 : decode cX8_addEstimate 32 = .ok (.iload_n 3, 1) := by decide +kernel
theorem dX8_addEstimate_33 : decode cX8_addEstimate 33 = .ok (.iaload, 1) := by decide +kernel
theorem dX8_addEstimate_34 : decode cX8_addEstimate 34 = .ok (.i2l, 1) := by decide +kernel
theorem dX8_addEstimate_35 : decode cX8_addEstimate 35 = .ok (.aload_n 0, 1) := by decide +kernel
theorem dX8_addEstimate_36 : decode cX8_addEstimate 36 = .ok (.getfield 12, 3) := by decide +kernel
theorem dX8_addEstimate_39 : decode cX8_addEstimate 39 = .ok (.iload_n 3, 1) := by decide +kernel
theorem dX8_addEstimate_40 : decode cX8_addEstimate 40 = .ok (.iconst 0, 1) := by decide +kernel
theorem dX8_addEstimate_41 : decode cX8_addEstimate 41 = .ok (.invokevirtual 138, 3) := by decide +kernel
theorem dX8_addEstimate_44 : decode cX8_addEstimate 44 = .ok (.i2l, 1) := by decide +kernel
theorem dX8_addEstimate_45 : decode cX8_addEstimate 45 = .ok (.lmul, 1) := by decide +kernel
theorem dX8_addEstimate_46 : decode cX8_addEstimate 46 = .ok (.aload_n 0, 1) := by decide +kernel
theorem dX8_addEstimate_47 : decode cX8_addEstimate 47 = .ok (.getfield 12, 3) := by decide +kernel
theorem dX8_addEstimate_50 : decode cX8_addEstimate 50 = .ok (.iload_n 3, 1) := by decide +kernel
theorem dX8_addEstimate_51 : decode cX8_addEstimate 51 = .ok (.iconst 0, 1) := by decide +kernel
theorem dX8_addEstimate_52 : decode cX8_addEstimate 52 = .ok (.invokevirtual 135, 3) := by decide +kernel
theorem dX8_addEstimate_55 : decode cX8_addEstimate 55 = .ok (.i2l, 1) := by decide +kernel
theorem dX8_addEstimate_56 : decode cX8_addEstimate 56 = .ok (.invokevirtual 207, 3) := by decide +kernel
theorem dX8_addEstimate_59 : decode cX8_addEstimate 59 = .ok (.aload_n 1, 1) := by decide +kernel
theorem dX8_addEstimate_60 : decode cX8_addEstimate 60 = .ok (.aload_n 0, 1) := by decide +kernel
theorem dX8_addEstimate_61 : decode cX8_addEstimate 61 = .ok (.getfield 53, 3) := by decide +kernel
theorem dX8_addEstimate_64 : decode cX8_addEstimate 64 = .ok (.getfield 327, 3) := by decide +kernel
theorem dX8_addEstimate_67 : decode cX8_addEstimate 67 = .ok (.aload_n 0, 1) := by decide +kernel
theorem dX8_addEstimate_68 : decode cX8_addEstimate 68 = .ok (.getfield 53, 3) := by decide +kernel
theorem dX8_addEstimate_71 : decode cX8_addEstimate 71 = .ok (.getfield 329, 3) := by decide +kernel
theorem dX8_addEstimate_74 : decode cX8_addEstimate 74 = .ok (.invokevirtual 339, 3) := by decide +kernel
theorem dX8_addEstimate_77 : decode cX8_addEstimate 77 = .ok (.iinc 3 1, 3) := by decide +kernel
theorem dX8_addEstimate_80 : decode cX8_addEstimate 80 = .ok (.goto (-78), 3) := by decide +kernel
theorem dX8_addEstimate_83 : decode cX8_addEstimate 83 = .ok (.return_, 1) := by decide +kernel
theorem dX8_overAllRuns_0 : decode cX8_overAllRuns 0 = .ok (.iload_n 1, 1) := by decide +kernel
theorem dX8_overAllRuns_1 : decode cX8_overAllRuns 1 = .ok (.invokestatic 132, 3) := by decide +kernel
theorem dX8_overAllRuns_4 : decode cX8_overAllRuns 4 = .ok (.ifCond .ne 10, 3) := by decide +kernel
theorem dX8_overAllRuns_7 : decode cX8_overAllRuns 7 = .ok (.aload_n 0, 1) := by decide +kernel
theorem dX8_overAllRuns_8 : decode cX8_overAllRuns 8 = .ok (.bipush (-2), 2) := by decide +kernel
theorem dX8_overAllRuns_10 : decode cX8_overAllRuns 10 = .ok (.invokevirtual 112, 3) := by decide +kernel
theorem dX8_overAllRuns_13 : decode cX8_overAllRuns 13 = .ok (.lreturn, 1) := by decide +kernel
theorem dX8_overAllRuns_14 : decode cX8_overAllRuns 14 = .ok (.aload_n 0, 1) := by decide +kernel
theorem dX8_overAllRuns_15 : decode cX8_overAllRuns 15 = .ok (.invokevirtual 165, 3) := by decide +kernel
theorem dX8_overAllRuns_18 : decode cX8_overAllRuns 18 = .ok (.ifCond .ne 10, 3) := by decide +kernel
theorem dX8_overAllRuns_21 : decode cX8_overAllRuns 21 = .ok (.aload_n 0, 1) := by decide +kernel
theorem dX8_overAllRuns_22 : decode cX8_overAllRuns 22 = .ok (.bipush (-7), 2) := by decide +kernel
theorem dX8_overAllRuns_24 : decode cX8_overAllRuns 24 = .ok (.invokevirtual 112, 3) := by decide +kernel
theorem dX8_overAllRuns_27 : decode cX8_overAllRuns 27 = .ok (.lreturn, 1) := by decide +kernel
theorem dX8_overAllRuns_28 : decode cX8_overAllRuns 28 = .ok (.aload_n 0, 1) := by decide +kernel
theorem dX8_overAllRuns_29 : decode cX8_overAllRuns 29 = .ok (.getfield 39, 3) := by decide +kernel
theorem dX8_overAllRuns_32 : decode cX8_overAllRuns 32 = .ok (.aload_n 0, 1) := by decide +kernel
theorem dX8_overAllRuns_33 : decode cX8_overAllRuns 33 = .ok (.getfield 29, 3) := by decide +kernel
theorem dX8_overAllRuns_36 : decode cX8_overAllRuns 36 = .ok (.invokevirtual 176, 3) := by decide +kernel
theorem dX8_overAllRuns_39 : decode cX8_overAllRuns 39 = .ok (.aload_n 0, 1) := by decide +kernel
theorem dX8_overAllRuns_40 : decode cX8_overAllRuns 40 = .ok (.getfield 46, 3) := by decide +kernel
theorem dX8_overAllRuns_43 : decode cX8_overAllRuns 43 = .ok (.lconst 0, 1) := by decide +kernel
theorem dX8_overAllRuns_44 : decode cX8_overAllRuns 44 = .ok (.lconst 1, 1) := by decide +kernel
theorem dX8_overAllRuns_45 : decode cX8_overAllRuns 45 = .ok (.invokevirtual 207, 3) := by decide +kernel
theorem dX8_overAllRuns_48 : decode cX8_overAllRuns 48 = .ok (.iconst 0, 1) := by decide +kernel
theorem dX8_overAllRuns_49 : decode cX8_overAllRuns 49 = .ok (.istore_n 3, 1) := by decide +kernel
theorem dX8_overAllRuns_50 : decode cX8_overAllRuns 50 = .ok (.iload_n 3, 1) := by decide +kernel
theorem dX8_overAllRuns_51 : decode cX8_overAllRuns 51 = .ok (.aload_n 0, 1) := by decide +kernel
theorem dX8_overAllRuns_52 : decode cX8_overAllRuns 52 = .ok (.getfield 39, 3) := by decide +kernel
theorem dX8_overAllRuns_55 : decode cX8_overAllRuns 55 = .ok (.getfield 180, 3) := by decide +kernel
theorem dX8_overAllRuns_58 : decode cX8_overAllRuns 58 = .ok (.if_icmp .ge 158, 3) := by decide +kernel
theorem dX8_overAllRuns_61 : decode cX8_overAllRuns 61 = .ok (.aload_n 0, 1) := by decide +kernel
theorem dX8_overAllRuns_62 : decode cX8_overAllRuns 62 = .ok (.getfield 50, 3) := by decide +kernel
theorem dX8_overAllRuns_65 : decode cX8_overAllRuns 65 = .ok (.lconst 0, 1) := by decide +kernel
theorem dX8_overAllRuns_66 : decode cX8_overAllRuns 66 = .ok (.lconst 1, 1) := by decide +kernel
theorem dX8_overAllRuns_67 : decode cX8_overAllRuns 67 = .ok (.invokevirtual 207, 3) := by decide +kernel
theorem dX8_overAllRuns_70 : decode cX8_overAllRuns 70 = .ok (.aload_n 0, 1) := by decide +kernel
theorem dX8_overAllRuns_71 : decode cX8_overAllRuns 71 = .ok (.aload_n 0, 1) := by decide +kernel
theorem dX8_overAllRuns_72 : decode cX8_overAllRuns 72 = .ok (.getfield 50, 3) := by decide +kernel
theorem dX8_overAllRuns_75 : decode cX8_overAllRuns 75 = .ok (.aload_n 0, 1) := by decide +kernel
theorem dX8_overAllRuns_76 : decode cX8_overAllRuns 76 = .ok (.getfield 39, 3) := by decide +kernel
theorem dX8_overAllRuns_79 : decode cX8_overAllRuns 79 = .ok (.getfield 191, 3) := by decide +kernel
theorem dX8_overAllRuns_82 : decode cX8_overAllRuns 82 = .ok (.iload_n 3, 1) := by decide +kernel
theorem dX8_overAllRuns_83 : decode cX8_overAllRuns 83 = .ok (.iaload, 1) := by decide +kernel
theorem dX8_overAllRuns_84 : decode cX8_overAllRuns 84 = .ok (.invokevirtual 211, 3) := by decide +kernel
theorem dX8_overAllRuns_87 : decode cX8_overAllRuns 87 = .ok (.iload_n 2, 1) := by decide +kernel
theorem dX8_overAllRuns_88 : decode cX8_overAllRuns 88 = .ok (.ifCond .eq 40, 3) := by decide +kernel
theorem dX8_overAllRuns_91 : decode cX8_overAllRuns 91 = .ok (.aload_n 0, 1) := by decide +kernel
theorem dX8_overAllRuns_92 : decode cX8_overAllRuns 92 = .ok (.getfield 50, 3) := by decide +kernel
theorem dX8_overAllRuns_95 : decode cX8_overAllRuns 95 = .ok (.aload_n 0, 1) := by decide +kernel
theorem dX8_overAllRuns_96 : decode cX8_overAllRuns 96 = .ok (.getfield 12, 3) := by decide +kernel
theorem dX8_overAllRuns_99 : decode cX8_overAllRuns 99 = .ok (.invokevirtual 342, 3) := by decide +kernel
theorem dX8_overAllRuns_102 : decode cX8_overAllRuns 102 = .ok (.lneg, 1) := by decide +kernel
theorem dX8_overAllRuns_103 : decode cX8_overAllRuns 103 = .ok (.lconst 1, 1) := by decide +kernel
theorem dX8_overAllRuns_104 : decode cX8_overAllRuns 104 = .ok (.invokevirtual 339, 3) := by decide +kernel
theorem dX8_overAllRuns_107 : decode cX8_overAllRuns 107 = .ok (.aload_n 0, 1) := by decide +kernel
theorem dX8_overAllRuns_108 : decode cX8_overAllRuns 108 = .ok (.getfield 50, 3) := by decide +kernel
theorem dX8_overAllRuns_111 : decode cX8_overAllRuns 111 = .ok (.aload_n 0, 1) := by decide +kernel
theorem dX8_overAllRuns_112 : decode cX8_overAllRuns 112 = .ok (.getfield 50, 3) := by decide +kernel
theorem dX8_overAllRuns_115 : decode cX8_overAllRuns 115 = .ok (.getfield 327, 3) := by decide +kernel
theorem dX8_overAllRuns_118 : decode cX8_overAllRuns 118 = .ok (.aload_n 0, 1) := by decide +kernel
theorem dX8_overAllRuns_119 : decode cX8_overAllRuns 119 = .ok (.getfield 50, 3) := by decide +kernel
theorem dX8_overAllRuns_122 : decode cX8_overAllRuns 122 = .ok (.getfield 329, 3) := by decide +kernel
theorem dX8_overAllRuns_125 : decode cX8_overAllRuns 125 = .ok (.invokevirtual 346, 3) := by decide +kernel
theorem dX8_overAllRuns_128 : decode cX8_overAllRuns 128 = .ok (.aload_n 0, 1) := by decide +kernel
theorem dX8_overAllRuns_129 : decode cX8_overAllRuns 129 = .ok (.getfield 53, 3) := by decide +kernel
theorem dX8_overAllRuns_132 : decode cX8_overAllRuns 132 = .ok (.aload_n 0, 1) := by decide +kernel
theorem dX8_overAllRuns_133 : decode cX8_overAllRuns 133 = .ok (.getfield 39, 3) := by decide +kernel
theorem dX8_overAllRuns_136 : decode cX8_overAllRuns 136 = .ok (.getfield 188, 3) := by decide +kernel
theorem dX8_overAllRuns_139 : decode cX8_overAllRuns 139 = .ok (.iload_n 3, 1) := by decide +kernel
theorem dX8_overAllRuns_140 : decode cX8_overAllRuns 140 = .ok (.laload, 1) := by decide +kernel
theorem dX8_overAllRuns_141 : decode cX8_overAllRuns 141 = .ok (.aload_n 0, 1) := by decide +kernel
theorem dX8_overAllRuns_142 : decode cX8_overAllRuns 142 = .ok (.getfield 29, 3) := by decide +kernel
theorem dX8_overAllRuns_145 : decode cX8_overAllRuns 145 = .ok (.getfield 198, 3) := by decide +kernel
theorem dX8_overAllRuns_148 : decode cX8_overAllRuns 148 = .ok (.invokevirtual 207, 3) := by decide +kernel
theorem dX8_overAllRuns_151 : decode cX8_overAllRuns 151 = .ok (.aload_n 0, 1) := by decide +kernel
theorem dX8_overAllRuns_152 : decode cX8_overAllRuns 152 = .ok (.getfield 50, 3) := by decide +kernel
theorem dX8_overAllRuns_155 : decode cX8_overAllRuns 155 = .ok (.aload_n 0, 1) := by decide +kernel
theorem dX8_overAllRuns_156 : decode cX8_overAllRuns 156 = .ok (.getfield 53, 3) := by decide +kernel
theorem dX8_overAllRuns_159 : decode cX8_overAllRuns 159 = .ok (.getfield 327, 3) := by decide +kernel
theorem dX8_overAllRuns_162 : decode cX8_overAllRuns 162 = .ok (.aload_n 0, 1) := by decide +kernel
theorem dX8_overAllRuns_163 : decode cX8_overAllRuns 163 = .ok (.getfield 53, 3) := by decide +kernel
theorem dX8_overAllRuns_166 : decode cX8_overAllRuns 166 = .ok (.getfield 329, 3) := by decide +kernel
theorem dX8_overAllRuns_169 : decode cX8_overAllRuns 169 = .ok (.invokevirtual 346, 3) := by decide +kernel
theorem dX8_overAllRuns_172 : decode cX8_overAllRuns 172 = .ok (.aload_n 0, 1) := by decide +kernel
theorem dX8_overAllRuns_173 : decode cX8_overAllRuns 173 = .ok (.getfield 50, 3) := by decide +kernel
theorem dX8_overAllRuns_176 : decode cX8_overAllRuns 176 = .ok (.getfield 324, 3) := by decide +kernel
theorem dX8_overAllRuns_179 : decode cX8_overAllRuns 179 = .ok (.ifCond .eq 10, 3) := by decide +kernel
theorem dX8_overAllRuns_182 : decode cX8_overAllRuns 182 = .ok (.aload_n 0, 1) := by decide +kernel
theorem dX8_overAllRuns_183 : decode cX8_overAllRuns 183 = .ok (.bipush (-7), 2) := by decide +kernel
theorem dX8_overAllRuns_185 : decode cX8_overAllRuns 185 = .ok (.invokevirtual 112, 3) := by decide +kernel
theorem dX8_overAllRuns_188 : decode cX8_overAllRuns 188 = .ok (.lreturn, 1) := by decide +kernel
theorem dX8_overAllRuns_189 : decode cX8_overAllRuns 189 = .ok (.aload_n 0, 1) := by decide +kernel
theorem dX8_overAllRuns_190 : decode cX8_overAllRuns 190 = .ok (.getfield 46, 3) := by decide +kernel
theorem dX8_overAllRuns_193 : decode cX8_overAllRuns 193 = .ok (.aload_n 0, 1) := by decide +kernel
theorem dX8_overAllRuns_194 : decode cX8_overAllRuns 194 = .ok (.getfield 50, 3) := by decide +kernel
theorem dX8_overAllRuns_197 : decode cX8_overAllRuns 197 = .ok (.getfield 327, 3) := by decide +kernel
theorem dX8_overAllRuns_200 : decode cX8_overAllRuns 200 = .ok (.aload_n 0, 1) := by decide +kernel
theorem dX8_overAllRuns_201 : decode cX8_overAllRuns 201 = .ok (.getfield 50, 3) := by decide +kernel
theorem dX8_overAllRuns_204 : decode cX8_overAllRuns 204 = .ok (.getfield 329, 3) := by decide +kernel
theorem dX8_overAllRuns_207 : decode cX8_overAllRuns 207 = .ok (.invokevirtual 339, 3) := by decide +kernel
theorem dX8_overAllRuns_210 : decode cX8_overAllRuns 210 = .ok (.iinc 3 1, 3) := by decide +kernel
theorem dX8_overAllRuns_213 : decode cX8_overAllRuns 213 = .ok (.goto (-163), 3) := by decide +kernel
theorem dX8_overAllRuns_216 : decode cX8_overAllRuns 216 = .ok (.aload_n 0, 1) := by decide +kernel
theorem dX8_overAllRuns_217 : decode cX8_overAllRuns 217 = .ok (.aload_n 0, 1) := by decide +kernel
theorem dX8_overAllRuns_218 : decode cX8_overAllRuns 218 = .ok (.getfield 46, 3) := by decide +kernel
theorem dX8_overAllRuns_221 : decode cX8_overAllRuns 221 = .ok (.iload_n 1, 1) := by decide +kernel
theorem dX8_overAllRuns_222 : decode cX8_overAllRuns 222 = .ok (.invokevirtual 215, 3) := by decide +kernel
theorem dX8_overAllRuns_225 : decode cX8_overAllRuns 225 = .ok (.lreturn, 1) := by decide +kernel
theorem dX8_pairsOfBoth_0 : decode cX8_pairsOfBoth 0 = .ok (.aload_n 0, 1) := by decide +kernel
theorem dX8_pairsOfBoth_1 : decode cX8_pairsOfBoth 1 = .ok (.getfield 39, 3) := by decide +kernel
theorem dX8_pairsOfBoth_4 : decode cX8_pairsOfBoth 4 = .ok (.aload_n 0, 1) := by decide +kernel
theorem dX8_pairsOfBoth_5 : decode cX8_pairsOfBoth 5 = .ok (.getfield 29, 3) := by decide +kernel
theorem dX8_pairsOfBoth_8 : decode cX8_pairsOfBoth 8 = .ok (.invokevirtual 176, 3) := by decide +kernel
theorem dX8_pairsOfBoth_11 : decode cX8_pairsOfBoth 11 = .ok (.lconst 0, 1) := by decide +kernel
theorem dX8_pairsOfBoth_12 : decode cX8_pairsOfBoth 12 = .ok (.lstore 5, 2) := by decide +kernel
theorem dX8_pairsOfBoth_14 : decode cX8_pairsOfBoth 14 = .ok (.iconst 0, 1) := by decide +kernel
theorem dX8_pairsOfBoth_15 : decode cX8_pairsOfBoth 15 = .ok (.istore 7, 2) := by decide +kernel
theorem dX8_pairsOfBoth_17 : decode cX8_pairsOfBoth 17 = .ok (.iload 7, 2) := by decide +kernel
theorem dX8_pairsOfBoth_19 : decode cX8_pairsOfBoth 19 = .ok (.aload_n 0, 1) := by decide +kernel
theorem dX8_pairsOfBoth_20 : decode cX8_pairsOfBoth 20 = .ok (.getfield 39, 3) := by decide +kernel
theorem dX8_pairsOfBoth_23 : decode cX8_pairsOfBoth 23 = .ok (.getfield 180, 3) := by decide +kernel
theorem dX8_pairsOfBoth_26 : decode cX8_pairsOfBoth 26 = .ok (.if_icmp .ge 57, 3) := by decide +kernel
theorem dX8_pairsOfBoth_29 : decode cX8_pairsOfBoth 29 = .ok (.aload_n 0, 1) := by decide +kernel
theorem dX8_pairsOfBoth_30 : decode cX8_pairsOfBoth 30 = .ok (.getfield 33, 3) := by decide +kernel
theorem dX8_pairsOfBoth_33 : decode cX8_pairsOfBoth 33 = .ok (.aload_n 0, 1) := by decide +kernel
theorem dX8_pairsOfBoth_34 : decode cX8_pairsOfBoth 34 = .ok (.getfield 12, 3) := by decide +kernel
theorem dX8_pairsOfBoth_37 : decode cX8_pairsOfBoth 37 = .ok (.iconst 1, 1) := by decide +kernel
theorem dX8_pairsOfBoth_38 : decode cX8_pairsOfBoth 38 = .ok (.lload_n 3, 1) := by decide +kernel
theorem dX8_pairsOfBoth_39 : decode cX8_pairsOfBoth 39 = .ok (.aload_n 0, 1) := by decide +kernel
theorem dX8_pairsOfBoth_40 : decode cX8_pairsOfBoth 40 = .ok (.getfield 39, 3) := by decide +kernel
theorem dX8_pairsOfBoth_43 : decode cX8_pairsOfBoth 43 = .ok (.getfield 191, 3) := by decide +kernel
theorem dX8_pairsOfBoth_46 : decode cX8_pairsOfBoth 46 = .ok (.iload 7, 2) := by decide +kernel
theorem dX8_pairsOfBoth_48 : decode cX8_pairsOfBoth 48 = .ok (.iaload, 1) := by decide +kernel
theorem dX8_pairsOfBoth_49 : decode cX8_pairsOfBoth 49 = .ok (.invokevirtual 223, 3) := by decide +kernel
theorem dX8_pairsOfBoth_52 : decode cX8_pairsOfBoth 52 = .ok (.lload 5, 2) := by decide +kernel
theorem dX8_pairsOfBoth_54 : decode cX8_pairsOfBoth 54 = .ok (.aload_n 0, 1) := by decide +kernel
theorem dX8_pairsOfBoth_55 : decode cX8_pairsOfBoth 55 = .ok (.getfield 39, 3) := by decide +kernel
theorem dX8_pairsOfBoth_58 : decode cX8_pairsOfBoth 58 = .ok (.getfield 188, 3) := by decide +kernel
theorem dX8_pairsOfBoth_61 : decode cX8_pairsOfBoth 61 = .ok (.iload 7, 2) := by decide +kernel
theorem dX8_pairsOfBoth_63 : decode cX8_pairsOfBoth 63 = .ok (.laload, 1) := by decide +kernel
theorem dX8_pairsOfBoth_64 : decode cX8_pairsOfBoth 64 = .ok (.aload_n 0, 1) := by decide +kernel
theorem dX8_pairsOfBoth_65 : decode cX8_pairsOfBoth 65 = .ok (.getfield 33, 3) := by decide +kernel
theorem dX8_pairsOfBoth_68 : decode cX8_pairsOfBoth 68 = .ok (.iload_n 1, 1) := by decide +kernel
theorem dX8_pairsOfBoth_69 : decode cX8_pairsOfBoth 69 = .ok (.iload_n 2, 1) := by decide +kernel
theorem dX8_pairsOfBoth_70 : decode cX8_pairsOfBoth 70 = .ok (.invokevirtual 194, 3) := by decide +kernel
theorem dX8_pairsOfBoth_73 : decode cX8_pairsOfBoth 73 = .ok (.lmul, 1) := by decide +kernel
theorem dX8_pairsOfBoth_74 : decode cX8_pairsOfBoth 74 = .ok (.ladd, 1) := by decide +kernel
theorem dX8_pairsOfBoth_75 : decode cX8_pairsOfBoth 75 = .ok (.lstore 5, 2) := by decide +kernel
theorem dX8_pairsOfBoth_77 : decode cX8_pairsOfBoth 77 = .ok (.iinc 7 1, 3) := by decide +kernel
theorem dX8_pairsOfBoth_80 : decode cX8_pairsOfBoth 80 = .ok (.goto (-63), 3) := by decide +kernel
theorem dX8_pairsOfBoth_83 : decode cX8_pairsOfBoth 83 = .ok (.lload 5, 2) := by decide +kernel
theorem dX8_pairsOfBoth_85 : decode cX8_pairsOfBoth 85 = .ok (.lreturn, 1) := by decide +kernel
theorem dX8_keptBy_0 : decode cX8_keptBy 0 = .ok (.aload_n 0, 1) := by decide +kernel
theorem dX8_keptBy_1 : decode cX8_keptBy 1 = .ok (.getfield 29, 3) := by decide +kernel
theorem dX8_keptBy_4 : decode cX8_keptBy 4 = .ok (.getfield 198, 3) := by decide +kernel
theorem dX8_keptBy_7 : decode cX8_keptBy 7 = .ok (.lstore 4, 2) := by decide +kernel
theorem dX8_keptBy_9 : decode cX8_keptBy 9 = .ok (.lload 4, 2) := by decide +kernel
theorem dX8_keptBy_11 : decode cX8_keptBy 11 = .ok (.lconst 1, 1) := by decide +kernel
theorem dX8_keptBy_12 : decode cX8_keptBy 12 = .ok (.lcmp, 1) := by decide +kernel
theorem dX8_keptBy_13 : decode cX8_keptBy 13 = .ok (.ifCond .ge 5, 3) := by decide +kernel
theorem dX8_keptBy_16 : decode cX8_keptBy 16 = .ok (.lconst 0, 1) := by decide +kernel
theorem dX8_keptBy_17 : decode cX8_keptBy 17 = .ok (.lreturn, 1) := by decide +kernel
theorem dX8_keptBy_18 : decode cX8_keptBy 18 = .ok (.aload_n 0, 1) := by decide +kernel
theorem dX8_keptBy_19 : decode cX8_keptBy 19 = .ok (.getfield 33, 3) := by decide +kernel
theorem dX8_keptBy_22 : decode cX8_keptBy 22 = .ok (.getfield 349, 3) := by decide +kernel
theorem dX8_keptBy_25 : decode cX8_keptBy 25 = .ok (.iload_n 1, 1) := by decide +kernel
theorem dX8_keptBy_26 : decode cX8_keptBy 26 = .ok (.laload, 1) := by decide +kernel
theorem dX8_keptBy_27 : decode cX8_keptBy 27 = .ok (.lload_n 2, 1) := by decide +kernel
theorem dX8_keptBy_28 : decode cX8_keptBy 28 = .ok (.ladd, 1) := by decide +kernel
theorem dX8_keptBy_29 : decode cX8_keptBy 29 = .ok (.lload 4, 2) := by decide +kernel
theorem dX8_keptBy_31 : decode cX8_keptBy 31 = .ok (.lrem, 1) := by decide +kernel
theorem dX8_keptBy_32 : decode cX8_keptBy 32 = .ok (.lstore 6, 2) := by decide +kernel
theorem dX8_keptBy_34 : decode cX8_keptBy 34 = .ok (.aload_n 0, 1) := by decide +kernel
theorem dX8_keptBy_35 : decode cX8_keptBy 35 = .ok (.getfield 29, 3) := by decide +kernel
theorem dX8_keptBy_38 : decode cX8_keptBy 38 = .ok (.getfield 349, 3) := by decide +kernel
theorem dX8_keptBy_41 : decode cX8_keptBy 41 = .ok (.iload_n 1, 1) := by decide +kernel
theorem dX8_keptBy_42 : decode cX8_keptBy 42 = .ok (.laload, 1) := by decide +kernel
theorem dX8_keptBy_43 : decode cX8_keptBy 43 = .ok (.aload_n 0, 1) := by decide +kernel
theorem dX8_keptBy_44 : decode cX8_keptBy 44 = .ok (.getfield 29, 3) := by decide +kernel
theorem dX8_keptBy_47 : decode cX8_keptBy 47 = .ok (.getfield 352, 3) := by decide +kernel
theorem dX8_keptBy_50 : decode cX8_keptBy 50 = .ok (.iload_n 1, 1) := by decide +kernel
theorem dX8_keptBy_51 : decode cX8_keptBy 51 = .ok (.laload, 1) := by decide +kernel
theorem dX8_keptBy_52 : decode cX8_keptBy 52 = .ok (.lload 6, 2) := by decide +kernel
theorem dX8_keptBy_54 : decode cX8_keptBy 54 = .ok (.aload_n 0, 1) := by decide +kernel
theorem dX8_keptBy_55 : decode cX8_keptBy 55 = .ok (.getfield 33, 3) := by decide +kernel
theorem dX8_keptBy_58 : decode cX8_keptBy 58 = .ok (.getfield 352, 3) := by decide +kernel
theorem dX8_keptBy_61 : decode cX8_keptBy 61 = .ok (.iload_n 1, 1) := by decide +kernel
theorem dX8_keptBy_62 : decode cX8_keptBy 62 = .ok (.laload, 1) := by decide +kernel
theorem dX8_keptBy_63 : decode cX8_keptBy 63 = .ok (.lload 4, 2) := by decide +kernel
theorem dX8_keptBy_65 : decode cX8_keptBy 65 = .ok (.invokestatic 354, 3) := by decide +kernel
theorem dX8_keptBy_68 : decode cX8_keptBy 68 = .ok (.lreturn, 1) := by decide +kernel
theorem dX8_allKeptBy_0 : decode cX8_allKeptBy 0 = .ok (.lconst 0, 1) := by decide +kernel
theorem dX8_allKeptBy_1 : decode cX8_allKeptBy 1 = .ok (.lstore_n 3, 1) := by decide +kernel
theorem dX8_allKeptBy_2 : decode cX8_allKeptBy 2 = .ok (.iconst 0, 1) := by decide +kernel
theorem dX8_allKeptBy_3 : decode cX8_allKeptBy 3 = .ok (.istore 5, 2) := by decide +kernel
theorem dX8_allKeptBy_5 : decode cX8_allKeptBy 5 = .ok (.iload 5, 2) := by decide +kernel
theorem dX8_allKeptBy_7 : decode cX8_allKeptBy 7 = .ok (.aload_n 0, 1) := by decide +kernel
theorem dX8_allKeptBy_8 : decode cX8_allKeptBy 8 = .ok (.getfield 12, 3) := by decide +kernel
theorem dX8_allKeptBy_11 : decode cX8_allKeptBy 11 = .ok (.getfield 201, 3) := by decide +kernel
theorem dX8_allKeptBy_14 : decode cX8_allKeptBy 14 = .ok (.if_icmp .ge 19, 3) := by decide +kernel
theorem dX8_allKeptBy_17 : decode cX8_allKeptBy 17 = .ok (.lload_n 3, 1) := by decide +kernel
theorem dX8_allKeptBy_18 : decode cX8_allKeptBy 18 = .ok (.aload_n 0, 1) := by decide +kernel
theorem dX8_allKeptBy_19 : decode cX8_allKeptBy 19 = .ok (.iload 5, 2) := by decide +kernel
theorem dX8_allKeptBy_21 : decode cX8_allKeptBy 21 = .ok (.lload_n 1, 1) := by decide +kernel
theorem dX8_allKeptBy_22 : decode cX8_allKeptBy 22 = .ok (.invokevirtual 233, 3) := by decide +kernel
theorem dX8_allKeptBy_25 : decode cX8_allKeptBy 25 = .ok (.ladd, 1) := by decide +kernel
theorem dX8_allKeptBy_26 : decode cX8_allKeptBy 26 = .ok (.lstore_n 3, 1) := by decide +kernel
theorem dX8_allKeptBy_27 : decode cX8_allKeptBy 27 = .ok (.iinc 5 1, 3) := by decide +kernel
theorem dX8_allKeptBy_30 : decode cX8_allKeptBy 30 = .ok (.goto (-25), 3) := by decide +kernel
theorem dX8_allKeptBy_33 : decode cX8_allKeptBy 33 = .ok (.lload_n 3, 1) := by decide +kernel
theorem dX8_allKeptBy_34 : decode cX8_allKeptBy 34 = .ok (.lreturn, 1) := by decide +kernel
theorem dX8_extremeShift_0 : decode cX8_extremeShift 0 = .ok (.aload_n 0, 1) := by decide +kernel
theorem dX8_extremeShift_1 : decode cX8_extremeShift 1 = .ok (.getfield 29, 3) := by decide +kernel
theorem dX8_extremeShift_4 : decode cX8_extremeShift 4 = .ok (.getfield 198, 3) := by decide +kernel
theorem dX8_extremeShift_7 : decode cX8_extremeShift 7 = .ok (.lstore_n 2, 1) := by decide +kernel
theorem dX8_extremeShift_8 : decode cX8_extremeShift 8 = .ok (.lconst 0, 1) := by decide +kernel
theorem dX8_extremeShift_9 : decode cX8_extremeShift 9 = .ok (.lstore 4, 2) := by decide +kernel
theorem dX8_extremeShift_11 : decode cX8_extremeShift 11 = .ok (.iload_n 1, 1) := by decide +kernel
theorem dX8_extremeShift_12 : decode cX8_extremeShift 12 = .ok (.i2l, 1) := by decide +kernel
theorem dX8_extremeShift_13 : decode cX8_extremeShift 13 = .ok (.aload_n 0, 1) := by decide +kernel
theorem dX8_extremeShift_14 : decode cX8_extremeShift 14 = .ok (.lconst 0, 1) := by decide +kernel
theorem dX8_extremeShift_15 : decode cX8_extremeShift 15 = .ok (.invokevirtual 236, 3) := by decide +kernel
theorem dX8_extremeShift_18 : decode cX8_extremeShift 18 = .ok (.lmul, 1) := by decide +kernel
theorem dX8_extremeShift_19 : decode cX8_extremeShift 19 = .ok (.lstore 6, 2) := by decide +kernel
theorem dX8_extremeShift_21 : decode cX8_extremeShift 21 = .ok (.iconst 0, 1) := by decide +kernel
theorem dX8_extremeShift_22 : decode cX8_extremeShift 22 = .ok (.istore 8, 2) := by decide +kernel
theorem dX8_extremeShift_24 : decode cX8_extremeShift 24 = .ok (.iload 8, 2) := by decide +kernel
theorem dX8_extremeShift_26 : decode cX8_extremeShift 26 = .ok (.iconst 4, 1) := by decide +kernel
theorem dX8_extremeShift_27 : decode cX8_extremeShift 27 = .ok (.aload_n 0, 1) := by decide +kernel
theorem dX8_extremeShift_28 : decode cX8_extremeShift 28 = .ok (.getfield 12, 3) := by decide +kernel
theorem dX8_extremeShift_31 : decode cX8_extremeShift 31 = .ok (.getfield 201, 3) := by decide +kernel
theorem dX8_extremeShift_34 : decode cX8_extremeShift 34 = .ok (.imul, 1) := by decide +kernel
theorem dX8_extremeShift_35 : decode cX8_extremeShift 35 = .ok (.if_icmp .ge 144, 3) := by decide +kernel
theorem dX8_extremeShift_38 : decode cX8_extremeShift 38 = .ok (.lload_n 2, 1) := by decide +kernel
theorem dX8_extremeShift_39 : decode cX8_extremeShift 39 = .ok (.lconst 0, 1) := by decide +kernel
theorem dX8_extremeShift_40 : decode cX8_extremeShift 40 = .ok (.lcmp, 1) := by decide +kernel
theorem dX8_extremeShift_41 : decode cX8_extremeShift 41 = .ok (.ifCond .le 138, 3) := by decide +kernel
theorem dX8_extremeShift_44 : decode cX8_extremeShift 44 = .ok (.iload 8, 2) := by decide +kernel
theorem dX8_extremeShift_46 : decode cX8_extremeShift 46 = .ok (.iconst 4, 1) := by decide +kernel
theorem dX8_extremeShift_47 : decode cX8_extremeShift 47 = .ok (.idiv, 1) := by decide +kernel
theorem dX8_extremeShift_48 : decode cX8_extremeShift 48 = .ok (.istore 9, 2) := by decide +kernel
theorem dX8_extremeShift_50 : decode cX8_extremeShift 50 = .ok (.aload_n 0, 1) := by decide +kernel
theorem dX8_extremeShift_51 : decode cX8_extremeShift 51 = .ok (.getfield 29, 3) := by decide +kernel
theorem dX8_extremeShift_54 : decode cX8_extremeShift 54 = .ok (.getfield 349, 3) := by decide +kernel
theorem dX8_extremeShift_57 : decode cX8_extremeShift 57 = .ok (.iload 9, 2) := by decide +kernel
theorem dX8_extremeShift_59 : decode cX8_extremeShift 59 = .ok (.laload, 1) := by decide +kernel
theorem dX8_extremeShift_60 : decode cX8_extremeShift 60 = .ok (.iload 8, 2) := by decide +kernel
theorem dX8_extremeShift_62 : decode cX8_extremeShift 62 = .ok (.iconst 2, 1) := by decide +kernel
theorem dX8_extremeShift_63 : decode cX8_extremeShift 63 = .ok (.irem, 1) := by decide +kernel
theorem dX8_extremeShift_64 : decode cX8_extremeShift 64 = .ok (.ifCond .ne 7, 3) := by decide +kernel
theorem dX8_extremeShift_67 : decode cX8_extremeShift 67 = .ok (.lconst 0, 1) := by decide +kernel
theorem dX8_extremeShift_68 : decode cX8_extremeShift 68 = .ok (.goto 13, 3) := by decide +kernel
theorem dX8_extremeShift_71 : decode cX8_extremeShift 71 = .ok (.aload_n 0, 1) := by decide +kernel
theorem dX8_extremeShift_72 : decode cX8_extremeShift 72 = .ok (.getfield 29, 3) := by decide +kernel
theorem dX8_extremeShift_75 : decode cX8_extremeShift 75 = .ok (.getfield 352, 3) := by decide +kernel
theorem dX8_extremeShift_78 : decode cX8_extremeShift 78 = .ok (.iload 9, 2) := by decide +kernel
theorem dX8_extremeShift_80 : decode cX8_extremeShift 80 = .ok (.laload, 1) := by decide +kernel
theorem dX8_extremeShift_81 : decode cX8_extremeShift 81 = .ok (.ladd, 1) := by decide +kernel
theorem dX8_extremeShift_82 : decode cX8_extremeShift 82 = .ok (.lstore 10, 2) := by decide +kernel
theorem dX8_extremeShift_84 : decode cX8_extremeShift 84 = .ok (.aload_n 0, 1) := by decide +kernel
theorem dX8_extremeShift_85 : decode cX8_extremeShift 85 = .ok (.getfield 33, 3) := by decide +kernel
theorem dX8_extremeShift_88 : decode cX8_extremeShift 88 = .ok (.getfield 349, 3) := by decide +kernel
theorem dX8_extremeShift_91 : decode cX8_extremeShift 91 = .ok (.iload 9, 2) := by decide +kernel
theorem dX8_extremeShift_93 : decode cX8_extremeShift 93 = .ok (.laload, 1) := by decide +kernel
theorem dX8_extremeShift_94 : decode cX8_extremeShift 94 = .ok (.iload 8, 2) := by decide +kernel
theorem dX8_extremeShift_96 : decode cX8_extremeShift 96 = .ok (.iconst 4, 1) := by decide +kernel
theorem dX8_extremeShift_97 : decode cX8_extremeShift 97 = .ok (.irem, 1) := by decide +kernel
theorem dX8_extremeShift_98 : decode cX8_extremeShift 98 = .ok (.iconst 2, 1) := by decide +kernel
theorem dX8_extremeShift_99 : decode cX8_extremeShift 99 = .ok (.if_icmp .ge 7, 3) := by decide +kernel
theorem dX8_extremeShift_102 : decode cX8_extremeShift 102 = .ok (.lconst 0, 1) := by decide +kernel
theorem dX8_extremeShift_103 : decode cX8_extremeShift 103 = .ok (.goto 13, 3) := by decide +kernel
theorem dX8_extremeShift_106 : decode cX8_extremeShift 106 = .ok (.aload_n 0, 1) := by decide +kernel
theorem dX8_extremeShift_107 : decode cX8_extremeShift 107 = .ok (.getfield 33, 3) := by decide +kernel
theorem dX8_extremeShift_110 : decode cX8_extremeShift 110 = .ok (.getfield 352, 3) := by decide +kernel
theorem dX8_extremeShift_113 : decode cX8_extremeShift 113 = .ok (.iload 9, 2) := by decide +kernel
theorem dX8_extremeShift_115 : decode cX8_extremeShift 115 = .ok (.laload, 1) := by decide +kernel
theorem dX8_extremeShift_116 : decode cX8_extremeShift 116 = .ok (.ladd, 1) := by decide +kernel
theorem dX8_extremeShift_117 : decode cX8_extremeShift 117 = .ok (.lstore 12, 2) := by decide +kernel
theorem dX8_extremeShift_119 : decode cX8_extremeShift 119 = .ok (.lload 10, 2) := by decide +kernel
theorem dX8_extremeShift_121 : decode cX8_extremeShift 121 = .ok (.lload 12, 2) := by decide +kernel
theorem dX8_extremeShift_123 : decode cX8_extremeShift 123 = .ok (.lsub, 1) := by decide +kernel
theorem dX8_extremeShift_124 : decode cX8_extremeShift 124 = .ok (.lload_n 2, 1) := by decide +kernel
theorem dX8_extremeShift_125 : decode cX8_extremeShift 125 = .ok (.invokestatic 358, 3) := by decide +kernel
theorem dX8_extremeShift_128 : decode cX8_extremeShift 128 = .ok (.lstore 14, 2) := by decide +kernel
theorem dX8_extremeShift_130 : decode cX8_extremeShift 130 = .ok (.iload_n 1, 1) := by decide +kernel
theorem dX8_extremeShift_131 : decode cX8_extremeShift 131 = .ok (.i2l, 1) := by decide +kernel
theorem dX8_extremeShift_132 : decode cX8_extremeShift 132 = .ok (.aload_n 0, 1) := by decide +kernel
theorem dX8_extremeShift_133 : decode cX8_extremeShift 133 = .ok (.lload 14, 2) := by decide +kernel
theorem dX8_extremeShift_135 : decode cX8_extremeShift 135 = .ok (.invokevirtual 236, 3) := by decide +kernel
theorem dX8_extremeShift_138 : decode cX8_extremeShift 138 = .ok (.lmul, 1) := by decide +kernel
theorem dX8_extremeShift_139 : decode cX8_extremeShift 139 = .ok (.lstore 16, 2) := by decide +kernel
theorem dX8_extremeShift_141 : decode cX8_extremeShift 141 = .ok (.lload 16, 2) := by decide +kernel
theorem dX8_extremeShift_143 : decode cX8_extremeShift 143 = .ok (.lload 6, 2) := by decide +kernel
theorem dX8_extremeShift_145 : decode cX8_extremeShift 145 = .ok (.lcmp, 1) := by decide +kernel
theorem dX8_extremeShift_146 : decode cX8_extremeShift 146 = .ok (.ifCond .gt 19, 3) := by decide +kernel
theorem dX8_extremeShift_149 : decode cX8_extremeShift 149 = .ok (.lload 16, 2) := by decide +kernel
theorem dX8_extremeShift_151 : decode cX8_extremeShift 151 = .ok (.lload 6, 2) := by decide +kernel
theorem dX8_extremeShift_153 : decode cX8_extremeShift 153 = .ok (.lcmp, 1) := by decide +kernel
theorem dX8_extremeShift_154 : decode cX8_extremeShift 154 = .ok (.ifCond .ne 19, 3) := by decide +kernel
theorem dX8_extremeShift_157 : decode cX8_extremeShift 157 = .ok (.lload 14, 2) := by decide +kernel
theorem dX8_extremeShift_159 : decode cX8_extremeShift 159 = .ok (.lload 4, 2) := by decide +kernel
theorem dX8_extremeShift_161 : decode cX8_extremeShift 161 = .ok (.lcmp, 1) := by decide +kernel
theorem dX8_extremeShift_162 : decode cX8_extremeShift 162 = .ok (.ifCond .ge 11, 3) := by decide +kernel
theorem dX8_extremeShift_165 : decode cX8_extremeShift 165 = .ok (.lload 16, 2) := by decide +kernel
theorem dX8_extremeShift_167 : decode cX8_extremeShift 167 = .ok (.lstore 6, 2) := by decide +kernel
theorem dX8_extremeShift_169 : decode cX8_extremeShift 169 = .ok (.lload 14, 2) := by decide +kernel
theorem dX8_extremeShift_171 : decode cX8_extremeShift 171 = .ok (.lstore 4, 2) := by decide +kernel
theorem dX8_extremeShift_173 : decode cX8_extremeShift 173 = .ok (.iinc 8 1, 3) := by decide +kernel
theorem dX8_extremeShift_176 : decode cX8_extremeShift 176 = .ok (.goto (-152), 3) := by decide +kernel
theorem dX8_extremeShift_179 : decode cX8_extremeShift 179 = .ok (.lload 4, 2) := by decide +kernel
theorem dX8_extremeShift_181 : decode cX8_extremeShift 181 = .ok (.lreturn, 1) := by decide +kernel
theorem dX8_meeting_0 : decode cX8_meeting 0 = .ok (.lconst 0, 1) := by decide +kernel
theorem dX8_meeting_1 : decode cX8_meeting 1 = .ok (.lstore 10, 2) := by decide +kernel
theorem dX8_meeting_3 : decode cX8_meeting 3 = .ok (.iconst (-1), 1) := by decide +kernel
theorem dX8_meeting_4 : decode cX8_meeting 4 = .ok (.istore 12, 2) := by decide +kernel
theorem dX8_meeting_6 : decode cX8_meeting 6 = .ok (.iload 12, 2) := by decide +kernel
theorem dX8_meeting_8 : decode cX8_meeting 8 = .ok (.iconst 1, 1) := by decide +kernel
theorem dX8_meeting_9 : decode cX8_meeting 9 = .ok (.if_icmp .gt 51, 3) := by decide +kernel
theorem dX8_meeting_12 : decode cX8_meeting 12 = .ok (.lload 4, 2) := by decide +kernel
theorem dX8_meeting_14 : decode cX8_meeting 14 = .ok (.iload 12, 2) := by decide +kernel
theorem dX8_meeting_16 : decode cX8_meeting 16 = .ok (.i2l, 1) := by decide +kernel
theorem dX8_meeting_17 : decode cX8_meeting 17 = .ok (.lload 8, 2) := by decide +kernel
theorem dX8_meeting_19 : decode cX8_meeting 19 = .ok (.lmul, 1) := by decide +kernel
theorem dX8_meeting_20 : decode cX8_meeting 20 = .ok (.ladd, 1) := by decide +kernel
theorem dX8_meeting_21 : decode cX8_meeting 21 = .ok (.lstore 13, 2) := by decide +kernel
theorem dX8_meeting_23 : decode cX8_meeting 23 = .ok (.lload_n 0, 1) := by decide +kernel
theorem dX8_meeting_24 : decode cX8_meeting 24 = .ok (.lload_n 2, 1) := by decide +kernel
theorem dX8_meeting_25 : decode cX8_meeting 25 = .ok (.ladd, 1) := by decide +kernel
theorem dX8_meeting_26 : decode cX8_meeting 26 = .ok (.lload 13, 2) := by decide +kernel
theorem dX8_meeting_28 : decode cX8_meeting 28 = .ok (.lload 6, 2) := by decide +kernel
theorem dX8_meeting_30 : decode cX8_meeting 30 = .ok (.ladd, 1) := by decide +kernel
theorem dX8_meeting_31 : decode cX8_meeting 31 = .ok (.invokestatic 364, 3) := by decide +kernel
theorem dX8_meeting_34 : decode cX8_meeting 34 = .ok (.lload_n 0, 1) := by decide +kernel
theorem dX8_meeting_35 : decode cX8_meeting 35 = .ok (.lload 13, 2) := by decide +kernel
theorem dX8_meeting_37 : decode cX8_meeting 37 = .ok (.invokestatic 367, 3) := by decide +kernel
theorem dX8_meeting_40 : decode cX8_meeting 40 = .ok (.lsub, 1) := by decide +kernel
theorem dX8_meeting_41 : decode cX8_meeting 41 = .ok (.lstore 15, 2) := by decide +kernel
theorem dX8_meeting_43 : decode cX8_meeting 43 = .ok (.lload 10, 2) := by decide +kernel
theorem dX8_meeting_45 : decode cX8_meeting 45 = .ok (.lconst 0, 1) := by decide +kernel
theorem dX8_meeting_46 : decode cX8_meeting 46 = .ok (.lload 15, 2) := by decide +kernel
theorem dX8_meeting_48 : decode cX8_meeting 48 = .ok (.invokestatic 367, 3) := by decide +kernel
theorem dX8_meeting_51 : decode cX8_meeting 51 = .ok (.ladd, 1) := by decide +kernel
theorem dX8_meeting_52 : decode cX8_meeting 52 = .ok (.lstore 10, 2) := by decide +kernel
theorem dX8_meeting_54 : decode cX8_meeting 54 = .ok (.iinc 12 1, 3) := by decide +kernel
theorem dX8_meeting_57 : decode cX8_meeting 57 = .ok (.goto (-51), 3) := by decide +kernel
theorem dX8_meeting_60 : decode cX8_meeting 60 = .ok (.lload 10, 2) := by decide +kernel
theorem dX8_meeting_62 : decode cX8_meeting 62 = .ok (.lreturn, 1) := by decide +kernel
theorem dX8_doClauses_0 : decode cX8_doClauses 0 = .ok (.aload_n 0, 1) := by decide +kernel
theorem dX8_doClauses_1 : decode cX8_doClauses 1 = .ok (.getfield 19, 3) := by decide +kernel
theorem dX8_doClauses_4 : decode cX8_doClauses 4 = .ok (.aload_n 0, 1) := by decide +kernel
theorem dX8_doClauses_5 : decode cX8_doClauses 5 = .ok (.getfield 12, 3) := by decide +kernel
theorem dX8_doClauses_8 : decode cX8_doClauses 8 = .ok (.invokevirtual 308, 3) := by decide +kernel
theorem dX8_doClauses_11 : decode cX8_doClauses 11 = .ok (.iconst 0, 1) := by decide +kernel
theorem dX8_doClauses_12 : decode cX8_doClauses 12 = .ok (.istore_n 1, 1) := by decide +kernel
theorem dX8_doClauses_13 : decode cX8_doClauses 13 = .ok (.iconst 0, 1) := by decide +kernel
theorem dX8_doClauses_14 : decode cX8_doClauses 14 = .ok (.istore_n 2, 1) := by decide +kernel
theorem dX8_doClauses_15 : decode cX8_doClauses 15 = .ok (.iload_n 1, 1) := by decide +kernel
theorem dX8_doClauses_16 : decode cX8_doClauses 16 = .ok (.bipush 120, 2) := by decide +kernel
theorem dX8_doClauses_18 : decode cX8_doClauses 18 = .ok (.if_icmp .ge 80, 3) := by decide +kernel
theorem dX8_doClauses_21 : decode cX8_doClauses 21 = .ok (.iload_n 2, 1) := by decide +kernel
theorem dX8_doClauses_22 : decode cX8_doClauses 22 = .ok (.aload_n 0, 1) := by decide +kernel
theorem dX8_doClauses_23 : decode cX8_doClauses 23 = .ok (.getfield 66, 3) := by decide +kernel
theorem dX8_doClauses_26 : decode cX8_doClauses 26 = .ok (.getfield 278, 3) := by decide +kernel
theorem dX8_doClauses_29 : decode cX8_doClauses 29 = .ok (.if_icmp .ge 69, 3) := by decide +kernel
theorem dX8_doClauses_32 : decode cX8_doClauses 32 = .ok (.aload_n 0, 1) := by decide +kernel
theorem dX8_doClauses_33 : decode cX8_doClauses 33 = .ok (.getfield 66, 3) := by decide +kernel
theorem dX8_doClauses_36 : decode cX8_doClauses 36 = .ok (.iload_n 2, 1) := by decide +kernel
theorem dX8_doClauses_37 : decode cX8_doClauses 37 = .ok (.invokevirtual 370, 3) := by decide +kernel
theorem dX8_doClauses_40 : decode cX8_doClauses 40 = .ok (.pop, 1) := by decide +kernel
theorem dX8_doClauses_41 : decode cX8_doClauses 41 = .ok (.aload_n 0, 1) := by decide +kernel
theorem dX8_doClauses_42 : decode cX8_doClauses 42 = .ok (.invokevirtual 373, 3) := by decide +kernel
theorem dX8_doClauses_45 : decode cX8_doClauses 45 = .ok (.istore_n 3, 1) := by decide +kernel
theorem dX8_doClauses_46 : decode cX8_doClauses 46 = .ok (.iload_n 3, 1) := by decide +kernel
theorem dX8_doClauses_47 : decode cX8_doClauses 47 = .ok (.ifCond .ge 35, 3) := by decide +kernel
theorem dX8_doClauses_50 : decode cX8_doClauses 50 = .ok (.aload_n 0, 1) := by decide +kernel
theorem dX8_doClauses_51 : decode cX8_doClauses 51 = .ok (.getfield 12, 3) := by decide +kernel
theorem dX8_doClauses_54 : decode cX8_doClauses 54 = .ok (.aload_n 0, 1) := by decide +kernel
theorem dX8_doClauses_55 : decode cX8_doClauses 55 = .ok (.getfield 19, 3) := by decide +kernel
theorem dX8_doClauses_58 : decode cX8_doClauses 58 = .ok (.invokevirtual 308, 3) := by decide +kernel
theorem dX8_doClauses_61 : decode cX8_doClauses 61 = .ok (.aload_n 0, 1) := by decide +kernel
theorem dX8_doClauses_62 : decode cX8_doClauses 62 = .ok (.getfield 73, 3) := by decide +kernel
theorem dX8_doClauses_65 : decode cX8_doClauses 65 = .ok (.sipush (-300), 3) := by decide +kernel
theorem dX8_doClauses_68 : decode cX8_doClauses 68 = .ok (.iload_n 2, 1) := by decide +kernel
theorem dX8_doClauses_69 : decode cX8_doClauses 69 = .ok (.isub, 1) := by decide +kernel
theorem dX8_doClauses_70 : decode cX8_doClauses 70 = .ok (.iconst 1, 1) := by decide +kernel
theorem dX8_doClauses_71 : decode cX8_doClauses 71 = .ok (.iload_n 3, 1) := by decide +kernel
theorem dX8_doClauses_72 : decode cX8_doClauses 72 = .ok (.iload_n 3, 1) := by decide +kernel
theorem dX8_doClauses_73 : decode cX8_doClauses 73 = .ok (.invokevirtual 318, 3) := by decide +kernel
theorem dX8_doClauses_76 : decode cX8_doClauses 76 = .ok (.sipush (-300), 3) := by decide +kernel
theorem dX8_doClauses_79 : decode cX8_doClauses 79 = .ok (.iload_n 2, 1) := by decide +kernel
theorem dX8_doClauses_80 : decode cX8_doClauses 80 = .ok (.isub, 1) := by decide +kernel
theorem dX8_doClauses_81 : decode cX8_doClauses 81 = .ok (.ireturn, 1) := by decide +kernel
theorem dX8_doClauses_82 : decode cX8_doClauses 82 = .ok (.aload_n 0, 1) := by decide +kernel
theorem dX8_doClauses_83 : decode cX8_doClauses 83 = .ok (.getfield 66, 3) := by decide +kernel
theorem dX8_doClauses_86 : decode cX8_doClauses 86 = .ok (.getfield 376, 3) := by decide +kernel
theorem dX8_doClauses_89 : decode cX8_doClauses 89 = .ok (.iconst 1, 1) := by decide +kernel
theorem dX8_doClauses_90 : decode cX8_doClauses 90 = .ok (.iadd, 1) := by decide +kernel
theorem dX8_doClauses_91 : decode cX8_doClauses 91 = .ok (.istore_n 2, 1) := by decide +kernel
theorem dX8_doClauses_92 : decode cX8_doClauses 92 = .ok (.iinc 1 1, 3) := by decide +kernel
theorem dX8_doClauses_95 : decode cX8_doClauses 95 = .ok (.goto (-80), 3) := by decide +kernel
theorem dX8_doClauses_98 : decode cX8_doClauses 98 = .ok (.aload_n 0, 1) := by decide +kernel
theorem dX8_doClauses_99 : decode cX8_doClauses 99 = .ok (.getfield 12, 3) := by decide +kernel
theorem dX8_doClauses_102 : decode cX8_doClauses 102 = .ok (.iconst 0, 1) := by decide +kernel
theorem dX8_doClauses_103 : decode cX8_doClauses 103 = .ok (.invokevirtual 154, 3) := by decide +kernel
theorem dX8_doClauses_106 : decode cX8_doClauses 106 = .ok (.lconst 1, 1) := by decide +kernel
theorem dX8_doClauses_107 : decode cX8_doClauses 107 = .ok (.lcmp, 1) := by decide +kernel
theorem dX8_doClauses_108 : decode cX8_doClauses 108 = .ok (.ifCond .ge 31, 3) := by decide +kernel
theorem dX8_doClauses_111 : decode cX8_doClauses 111 = .ok (.aload_n 0, 1) := by decide +kernel
theorem dX8_doClauses_112 : decode cX8_doClauses 112 = .ok (.getfield 12, 3) := by decide +kernel
theorem dX8_doClauses_115 : decode cX8_doClauses 115 = .ok (.aload_n 0, 1) := by decide +kernel
theorem dX8_doClauses_116 : decode cX8_doClauses 116 = .ok (.getfield 19, 3) := by decide +kernel
theorem dX8_doClauses_119 : decode cX8_doClauses 119 = .ok (.invokevirtual 308, 3) := by decide +kernel
theorem dX8_doClauses_122 : decode cX8_doClauses 122 = .ok (.aload_n 0, 1) := by decide +kernel
theorem dX8_doClauses_123 : decode cX8_doClauses 123 = .ok (.getfield 73, 3) := by decide +kernel
theorem dX8_doClauses_126 : decode cX8_doClauses 126 = .ok (.bipush (-7), 2) := by decide +kernel
theorem dX8_doClauses_128 : decode cX8_doClauses 128 = .ok (.iconst 2, 1) := by decide +kernel
theorem dX8_doClauses_129 : decode cX8_doClauses 129 = .ok (.bipush (-7), 2) := by decide +kernel
theorem dX8_doClauses_131 : decode cX8_doClauses 131 = .ok (.bipush (-9), 2) := by decide +kernel
theorem dX8_doClauses_133 : decode cX8_doClauses 133 = .ok (.invokevirtual 318, 3) := by decide +kernel
theorem dX8_doClauses_136 : decode cX8_doClauses 136 = .ok (.bipush (-7), 2) := by decide +kernel
theorem dX8_doClauses_138 : decode cX8_doClauses 138 = .ok (.ireturn, 1) := by decide +kernel
theorem dX8_doClauses_139 : decode cX8_doClauses 139 = .ok (.iload_n 1, 1) := by decide +kernel
theorem dX8_doClauses_140 : decode cX8_doClauses 140 = .ok (.ireturn, 1) := by decide +kernel
theorem dX8_doClause_0 : decode cX8_doClause 0 = .ok (.aload_n 0, 1) := by decide +kernel
theorem dX8_doClause_1 : decode cX8_doClause 1 = .ok (.getfield 66, 3) := by decide +kernel
theorem dX8_doClause_4 : decode cX8_doClause 4 = .ok (.getfield 379, 3) := by decide +kernel
theorem dX8_doClause_7 : decode cX8_doClause 7 = .ok (.astore_n 1, 1) := by decide +kernel
theorem dX8_doClause_8 : decode cX8_doClause 8 = .ok (.aload_n 0, 1) := by decide +kernel
theorem dX8_doClause_9 : decode cX8_doClause 9 = .ok (.getfield 66, 3) := by decide +kernel
theorem dX8_doClause_12 : decode cX8_doClause 12 = .ok (.getfield 382, 3) := by decide +kernel
theorem dX8_doClause_15 : decode cX8_doClause 15 = .ok (.tableswitch 141 110 117 #[83, 101, 141, 141, 112, 65, 141, 45], 45) := by decide +kernel
theorem dX8_doClause_60 : decode cX8_doClause 60 = .ok (.aload_n 0, 1) := by decide +kernel
theorem dX8_doClause_61 : decode cX8_doClause 61 = .ok (.getfield 12, 3) := by decide +kernel
theorem dX8_doClause_64 : decode cX8_doClause 64 = .ok (.aload_n 1, 1) := by decide +kernel
theorem dX8_doClause_65 : decode cX8_doClause 65 = .ok (.iconst 0, 1) := by decide +kernel
theorem dX8_doClause_66 : decode cX8_doClause 66 = .ok (.iaload, 1) := by decide +kernel
theorem dX8_doClause_67 : decode cX8_doClause 67 = .ok (.aload_n 1, 1) := by decide +kernel
theorem dX8_doClause_68 : decode cX8_doClause 68 = .ok (.iconst 1, 1) := by decide +kernel
theorem dX8_doClause_69 : decode cX8_doClause 69 = .ok (.iaload, 1) := by decide +kernel
theorem dX8_doClause_70 : decode cX8_doClause 70 = .ok (.aload_n 1, 1) := by decide +kernel
theorem dX8_doClause_71 : decode cX8_doClause 71 = .ok (.iconst 2, 1) := by decide +kernel
theorem dX8_doClause_72 : decode cX8_doClause 72 = .ok (.iaload, 1) := by decide +kernel
theorem dX8_doClause_73 : decode cX8_doClause 73 = .ok (.aload_n 1, 1) := by decide +kernel
theorem dX8_doClause_74 : decode cX8_doClause 74 = .ok (.iconst 3, 1) := by decide +kernel
theorem dX8_doClause_75 : decode cX8_doClause 75 = .ok (.iaload, 1) := by decide +kernel
theorem dX8_doClause_76 : decode cX8_doClause 76 = .ok (.invokevirtual 84, 3) := by decide +kernel
theorem dX8_doClause_79 : decode cX8_doClause 79 = .ok (.ireturn, 1) := by decide +kernel
theorem dX8_doClause_80 : decode cX8_doClause 80 = .ok (.aload_n 0, 1) := by decide +kernel
theorem dX8_doClause_81 : decode cX8_doClause 81 = .ok (.getfield 12, 3) := by decide +kernel
theorem dX8_doClause_84 : decode cX8_doClause 84 = .ok (.aload_n 1, 1) := by decide +kernel
theorem dX8_doClause_85 : decode cX8_doClause 85 = .ok (.iconst 0, 1) := by decide +kernel
theorem dX8_doClause_86 : decode cX8_doClause 86 = .ok (.iaload, 1) := by decide +kernel
theorem dX8_doClause_87 : decode cX8_doClause 87 = .ok (.iconst 1, 1) := by decide +kernel
theorem dX8_doClause_88 : decode cX8_doClause 88 = .ok (.aload_n 1, 1) := by decide +kernel
theorem dX8_doClause_89 : decode cX8_doClause 89 = .ok (.iconst 1, 1) := by decide +kernel
theorem dX8_doClause_90 : decode cX8_doClause 90 = .ok (.iaload, 1) := by decide +kernel
theorem dX8_doClause_91 : decode cX8_doClause 91 = .ok (.aload_n 1, 1) := by decide +kernel
theorem dX8_doClause_92 : decode cX8_doClause 92 = .ok (.iconst 2, 1) := by decide +kernel
theorem dX8_doClause_93 : decode cX8_doClause 93 = .ok (.iaload, 1) := by decide +kernel
theorem dX8_doClause_94 : decode cX8_doClause 94 = .ok (.invokevirtual 92, 3) := by decide +kernel
theorem dX8_doClause_97 : decode cX8_doClause 97 = .ok (.ireturn, 1) := by decide +kernel
theorem dX8_doClause_98 : decode cX8_doClause 98 = .ok (.aload_n 0, 1) := by decide +kernel
theorem dX8_doClause_99 : decode cX8_doClause 99 = .ok (.getfield 12, 3) := by decide +kernel
theorem dX8_doClause_102 : decode cX8_doClause 102 = .ok (.aload_n 1, 1) := by decide +kernel
theorem dX8_doClause_103 : decode cX8_doClause 103 = .ok (.iconst 0, 1) := by decide +kernel
theorem dX8_doClause_104 : decode cX8_doClause 104 = .ok (.iaload, 1) := by decide +kernel
theorem dX8_doClause_105 : decode cX8_doClause 105 = .ok (.iconst 2, 1) := by decide +kernel
theorem dX8_doClause_106 : decode cX8_doClause 106 = .ok (.aload_n 1, 1) := by decide +kernel
theorem dX8_doClause_107 : decode cX8_doClause 107 = .ok (.iconst 1, 1) := by decide +kernel
theorem dX8_doClause_108 : decode cX8_doClause 108 = .ok (.iaload, 1) := by decide +kernel
theorem dX8_doClause_109 : decode cX8_doClause 109 = .ok (.aload_n 1, 1) := by decide +kernel
theorem dX8_doClause_110 : decode cX8_doClause 110 = .ok (.iconst 2, 1) := by decide +kernel
theorem dX8_doClause_111 : decode cX8_doClause 111 = .ok (.iaload, 1) := by decide +kernel
theorem dX8_doClause_112 : decode cX8_doClause 112 = .ok (.invokevirtual 92, 3) := by decide +kernel
theorem dX8_doClause_115 : decode cX8_doClause 115 = .ok (.ireturn, 1) := by decide +kernel
theorem dX8_doClause_116 : decode cX8_doClause 116 = .ok (.aload_n 0, 1) := by decide +kernel
theorem dX8_doClause_117 : decode cX8_doClause 117 = .ok (.getfield 12, 3) := by decide +kernel
theorem dX8_doClause_120 : decode cX8_doClause 120 = .ok (.aload_n 1, 1) := by decide +kernel
theorem dX8_doClause_121 : decode cX8_doClause 121 = .ok (.iconst 0, 1) := by decide +kernel
theorem dX8_doClause_122 : decode cX8_doClause 122 = .ok (.iaload, 1) := by decide +kernel
theorem dX8_doClause_123 : decode cX8_doClause 123 = .ok (.invokevirtual 145, 3) := by decide +kernel
theorem dX8_doClause_126 : decode cX8_doClause 126 = .ok (.ireturn, 1) := by decide +kernel
theorem dX8_doClause_127 : decode cX8_doClause 127 = .ok (.aload_n 0, 1) := by decide +kernel
theorem dX8_doClause_128 : decode cX8_doClause 128 = .ok (.getfield 12, 3) := by decide +kernel
theorem dX8_doClause_131 : decode cX8_doClause 131 = .ok (.aload_n 1, 1) := by decide +kernel
theorem dX8_doClause_132 : decode cX8_doClause 132 = .ok (.iconst 0, 1) := by decide +kernel
theorem dX8_doClause_133 : decode cX8_doClause 133 = .ok (.iaload, 1) := by decide +kernel
theorem dX8_doClause_134 : decode cX8_doClause 134 = .ok (.aload_n 0, 1) := by decide +kernel
theorem dX8_doClause_135 : decode cX8_doClause 135 = .ok (.getfield 12, 3) := by decide +kernel
theorem dX8_doClause_138 : decode cX8_doClause 138 = .ok (.aload_n 1, 1) := by decide +kernel
theorem dX8_doClause_139 : decode cX8_doClause 139 = .ok (.iconst 0, 1) := by decide +kernel
theorem dX8_doClause_140 : decode cX8_doClause 140 = .ok (.iaload, 1) := by decide +kernel
theorem dX8_doClause_141 : decode cX8_doClause 141 = .ok (.invokevirtual 120, 3) := by decide +kernel
theorem dX8_doClause_144 : decode cX8_doClause 144 = .ok (.ifCond .eq 7, 3) := by decide +kernel
theorem dX8_doClause_147 : decode cX8_doClause 147 = .ok (.iconst 0, 1) := by decide +kernel
theorem dX8_doClause_148 : decode cX8_doClause 148 = .ok (.goto 4, 3) := by decide +kernel
theorem dX8_doClause_151 : decode cX8_doClause 151 = .ok (.iconst 1, 1) := by decide +kernel
theorem dX8_doClause_152 : decode cX8_doClause 152 = .ok (.invokevirtual 106, 3) := by decide +kernel
theorem dX8_doClause_155 : decode cX8_doClause 155 = .ok (.ireturn, 1) := by decide +kernel
theorem dX8_doClause_156 : decode cX8_doClause 156 = .ok (.aload_n 0, 1) := by decide +kernel
theorem dX8_doClause_157 : decode cX8_doClause 157 = .ok (.getfield 12, 3) := by decide +kernel
theorem dX8_doClause_160 : decode cX8_doClause 160 = .ok (.aload_n 1, 1) := by decide +kernel
theorem dX8_doClause_161 : decode cX8_doClause 161 = .ok (.iconst 0, 1) := by decide +kernel
theorem dX8_doClause_162 : decode cX8_doClause 162 = .ok (.iaload, 1) := by decide +kernel
theorem dX8_doClause_163 : decode cX8_doClause 163 = .ok (.aload_n 1, 1) := by decide +kernel
theorem dX8_doClause_164 : decode cX8_doClause 164 = .ok (.iconst 1, 1) := by decide +kernel
theorem dX8_doClause_165 : decode cX8_doClause 165 = .ok (.iaload, 1) := by decide +kernel
theorem dX8_doClause_166 : decode cX8_doClause 166 = .ok (.invokevirtual 151, 3) := by decide +kernel
theorem dX8_doClause_169 : decode cX8_doClause 169 = .ok (.ireturn, 1) := by decide +kernel
theorem dX9_init_0 : decode cX9_init 0 = .ok (.aload_n 0, 1) := by decide +kernel
theorem dX9_init_1 : decode cX9_init 1 = .ok (.invokespecial 1, 3) := by decide +kernel
theorem dX9_init_4 : decode cX9_init 4 = .ok (.aload_n 0, 1) := by decide +kernel
theorem dX9_init_5 : decode cX9_init 5 = .ok (.bipush 122, 2) := by decide +kernel
theorem dX9_init_7 : decode cX9_init 7 = .ok (.newarray .int, 2) := by decide +kernel
theorem dX9_init_9 : decode cX9_init 9 = .ok (.putfield 7, 3) := by decide +kernel
theorem dX9_init_12 : decode cX9_init 12 = .ok (.aload_n 0, 1) := by decide +kernel
theorem dX9_init_13 : decode cX9_init 13 = .ok (.bipush 122, 2) := by decide +kernel
theorem dX9_init_15 : decode cX9_init 15 = .ok (.newarray .int, 2) := by decide +kernel
theorem dX9_init_17 : decode cX9_init 17 = .ok (.putfield 13, 3) := by decide +kernel
theorem dX9_init_20 : decode cX9_init 20 = .ok (.aload_n 0, 1) := by decide +kernel
theorem dX9_init_21 : decode cX9_init 21 = .ok (.bipush 122, 2) := by decide +kernel
theorem dX9_init_23 : decode cX9_init 23 = .ok (.newarray .int, 2) := by decide +kernel
theorem dX9_init_25 : decode cX9_init 25 = .ok (.putfield 16, 3) := by decide +kernel
theorem dX9_init_28 : decode cX9_init 28 = .ok (.aload_n 0, 1) := by decide +kernel
theorem dX9_init_29 : decode cX9_init 29 = .ok (.iconst 4, 1) := by decide +kernel
theorem dX9_init_30 : decode cX9_init 30 = .ok (.newarray .int, 2) := by decide +kernel
theorem dX9_init_32 : decode cX9_init 32 = .ok (.putfield 19, 3) := by decide +kernel
theorem dX9_init_35 : decode cX9_init 35 = .ok (.aload_n 0, 1) := by decide +kernel
theorem dX9_init_36 : decode cX9_init 36 = .ok (.bipush 12, 2) := by decide +kernel
theorem dX9_init_38 : decode cX9_init 38 = .ok (.newarray .int, 2) := by decide +kernel
theorem dX9_init_40 : decode cX9_init 40 = .ok (.putfield 22, 3) := by decide +kernel
theorem dX9_init_43 : decode cX9_init 43 = .ok (.aload_n 0, 1) := by decide +kernel
theorem dX9_init_44 : decode cX9_init 44 = .ok (.bipush 12, 2) := by decide +kernel
theorem dX9_init_46 : decode cX9_init 46 = .ok (.newarray .long, 2) := by decide +kernel
theorem dX9_init_48 : decode cX9_init 48 = .ok (.putfield 25, 3) := by decide +kernel
theorem dX9_init_51 : decode cX9_init 51 = .ok (.aload_n 0, 1) := by decide +kernel
theorem dX9_init_52 : decode cX9_init 52 = .ok (.bipush 12, 2) := by decide +kernel
theorem dX9_init_54 : decode cX9_init 54 = .ok (.newarray .long, 2) := by decide +kernel
theorem dX9_init_56 : decode cX9_init 56 = .ok (.putfield 29, 3) := by decide +kernel
theorem dX9_init_59 : decode cX9_init 59 = .ok (.aload_n 0, 1) := by decide +kernel
theorem dX9_init_60 : decode cX9_init 60 = .ok (.bipush 12, 2) := by decide +kernel
theorem dX9_init_62 : decode cX9_init 62 = .ok (.newarray .long, 2) := by decide +kernel
theorem dX9_init_64 : decode cX9_init 64 = .ok (.putfield 32, 3) := by decide +kernel
theorem dX9_init_67 : decode cX9_init 67 = .ok (.aload_n 0, 1) := by decide +kernel
theorem dX9_init_68 : decode cX9_init 68 = .ok (.bipush 12, 2) := by decide +kernel
theorem dX9_init_70 : decode cX9_init 70 = .ok (.newarray .long, 2) := by decide +kernel
theorem dX9_init_72 : decode cX9_init 72 = .ok (.putfield 35, 3) := by decide +kernel
theorem dX9_init_75 : decode cX9_init 75 = .ok (.aload_n 0, 1) := by decide +kernel
theorem dX9_init_76 : decode cX9_init 76 = .ok (.bipush 26, 2) := by decide +kernel
theorem dX9_init_78 : decode cX9_init 78 = .ok (.newarray .long, 2) := by decide +kernel
theorem dX9_init_80 : decode cX9_init 80 = .ok (.putfield 38, 3) := by decide +kernel
theorem dX9_init_83 : decode cX9_init 83 = .ok (.aload_n 0, 1) := by decide +kernel
theorem dX9_init_84 : decode cX9_init 84 = .ok (.bipush 26, 2) := by decide +kernel
theorem dX9_init_86 : decode cX9_init 86 = .ok (.newarray .long, 2) := by decide +kernel
theorem dX9_init_88 : decode cX9_init 88 = .ok (.putfield 41, 3) := by decide +kernel
theorem dX9_init_91 : decode cX9_init 91 = .ok (.aload_n 0, 1) := by decide +kernel
theorem dX9_init_92 : decode cX9_init 92 = .ok (.bipush 26, 2) := by decide +kernel
theorem dX9_init_94 : decode cX9_init 94 = .ok (.newarray .int, 2) := by decide +kernel
theorem dX9_init_96 : decode cX9_init 96 = .ok (.putfield 44, 3) := by decide +kernel
theorem dX9_init_99 : decode cX9_init 99 = .ok (.aload_n 0, 1) := by decide +kernel
theorem dX9_init_100 : decode cX9_init 100 = .ok (.bipush 26, 2) := by decide +kernel
theorem dX9_init_102 : decode cX9_init 102 = .ok (.newarray .long, 2) := by decide +kernel
theorem dX9_init_104 : decode cX9_init 104 = .ok (.putfield 47, 3) := by decide +kernel
theorem dX9_init_107 : decode cX9_init 107 = .ok (.aload_n 0, 1) := by decide +kernel
theorem dX9_init_108 : decode cX9_init 108 = .ok (.bipush 12, 2) := by decide +kernel
theorem dX9_init_110 : decode cX9_init 110 = .ok (.newarray .int, 2) := by decide +kernel
theorem dX9_init_112 : decode cX9_init 112 = .ok (.putfield 50, 3) := by decide +kernel
theorem dX9_init_115 : decode cX9_init 115 = .ok (.aload_n 0, 1) := by decide +kernel
theorem dX9_init_116 : decode cX9_init 116 = .ok (.bipush 120, 2) := by decide +kernel
theorem dX9_init_118 : decode cX9_init 118 = .ok (.newarray .int, 2) := by decide +kernel
theorem dX9_init_120 : decode cX9_init 120 = .ok (.putfield 53, 3) := by decide +kernel
theorem dX9_init_123 : decode cX9_init 123 = .ok (.aload_n 0, 1) := by decide +kernel
theorem dX9_init_124 : decode cX9_init 124 = .ok (.sipush 305, 3) := by decide +kernel
theorem dX9_init_127 : decode cX9_init 127 = .ok (.newarray .int, 2) := by decide +kernel
theorem dX9_init_129 : decode cX9_init 129 = .ok (.putfield 56, 3) := by decide +kernel
theorem dX9_init_132 : decode cX9_init 132 = .ok (.aload_n 0, 1) := by decide +kernel
theorem dX9_init_133 : decode cX9_init 133 = .ok (.iconst 3, 1) := by decide +kernel
theorem dX9_init_134 : decode cX9_init 134 = .ok (.newarray .int, 2) := by decide +kernel
theorem dX9_init_136 : decode cX9_init 136 = .ok (.putfield 59, 3) := by decide +kernel
theorem dX9_init_139 : decode cX9_init 139 = .ok (.aload_n 0, 1) := by decide +kernel
theorem dX9_init_140 : decode cX9_init 140 = .ok (.bipush 45, 2) := by decide +kernel
theorem dX9_init_142 : decode cX9_init 142 = .ok (.newarray .long, 2) := by decide +kernel
theorem dX9_init_144 : decode cX9_init 144 = .ok (.putfield 62, 3) := by decide +kernel
theorem dX9_init_147 : decode cX9_init 147 = .ok (.iconst 0, 1) := by decide +kernel
theorem dX9_init_148 : decode cX9_init 148 = .ok (.istore_n 1, 1) := by decide +kernel
theorem dX9_init_149 : decode cX9_init 149 = .ok (.iload_n 1, 1) := by decide +kernel
theorem dX9_init_150 : decode cX9_init 150 = .ok (.bipush 36, 2) := by decide +kernel
theorem dX9_init_152 : decode cX9_init 152 = .ok (.if_icmp .ge 29, 3) := by decide +kernel
theorem dX9_init_155 : decode cX9_init 155 = .ok (.aload_n 0, 1) := by decide +kernel
theorem dX9_init_156 : decode cX9_init 156 = .ok (.getfield 7, 3) := by decide +kernel
theorem dX9_init_159 : decode cX9_init 159 = .ok (.bipush 50, 2) := by decide +kernel
theorem dX9_init_161 : decode cX9_init 161 = .ok (.iload_n 1, 1) := by decide +kernel
theorem dX9_init_162 : decode cX9_init 162 = .ok (.iadd, 1) := by decide +kernel
theorem dX9_init_163 : decode cX9_init 163 = .ok (.iconst 1, 1) := by decide +kernel
theorem dX9_init_164 : decode cX9_init 164 = .ok (.iastore, 1) := by decide +kernel
theorem dX9_init_165 : decode cX9_init 165 = .ok (.aload_n 0, 1) := by decide +kernel
theorem dX9_init_166 : decode cX9_init 166 = .ok (.getfield 7, 3) := by decide +kernel
theorem dX9_init_169 : decode cX9_init 169 = .ok (.bipush 86, 2) := by decide +kernel
theorem dX9_init_171 : decode cX9_init 171 = .ok (.iload_n 1, 1) := by decide +kernel
theorem dX9_init_172 : decode cX9_init 172 = .ok (.iadd, 1) := by decide +kernel
theorem dX9_init_173 : decode cX9_init 173 = .ok (.iconst 1, 1) := by decide +kernel
theorem dX9_init_174 : decode cX9_init 174 = .ok (.iastore, 1) := by decide +kernel
theorem dX9_init_175 : decode cX9_init 175 = .ok (.iinc 1 1, 3) := by decide +kernel
theorem dX9_init_178 : decode cX9_init 178 = .ok (.goto (-29), 3) := by decide +kernel
theorem dX9_init_181 : decode cX9_init 181 = .ok (.return_, 1) := by decide +kernel
theorem dX9_within_0 : decode cX9_within 0 = .ok (.iload_n 0, 1) := by decide +kernel
theorem dX9_within_1 : decode cX9_within 1 = .ok (.iload_n 1, 1) := by decide +kernel
theorem dX9_within_2 : decode cX9_within 2 = .ok (.if_icmp .lt 12, 3) := by decide +kernel
theorem dX9_within_5 : decode cX9_within 5 = .ok (.iload_n 0, 1) := by decide +kernel
theorem dX9_within_6 : decode cX9_within 6 = .ok (.iload_n 2, 1) := by decide +kernel
theorem dX9_within_7 : decode cX9_within 7 = .ok (.if_icmp .gt 7, 3) := by decide +kernel
theorem dX9_within_10 : decode cX9_within 10 = .ok (.iconst 1, 1) := by decide +kernel
theorem dX9_within_11 : decode cX9_within 11 = .ok (.goto 4, 3) := by decide +kernel
theorem dX9_within_14 : decode cX9_within 14 = .ok (.iconst 0, 1) := by decide +kernel
theorem dX9_within_15 : decode cX9_within 15 = .ok (.ireturn, 1) := by decide +kernel
theorem dX9_refused_0 : decode cX9_refused 0 = .ok (.aload_n 0, 1) := by decide +kernel
theorem dX9_refused_1 : decode cX9_refused 1 = .ok (.getfield 19, 3) := by decide +kernel
theorem dX9_refused_4 : decode cX9_refused 4 = .ok (.iconst 0, 1) := by decide +kernel
theorem dX9_refused_5 : decode cX9_refused 5 = .ok (.iload_n 1, 1) := by decide +kernel
theorem dX9_refused_6 : decode cX9_refused 6 = .ok (.iastore, 1) := by decide +kernel
theorem dX9_refused_7 : decode cX9_refused 7 = .ok (.aload_n 0, 1) := by decide +kernel
theorem dX9_refused_8 : decode cX9_refused 8 = .ok (.getfield 19, 3) := by decide +kernel
theorem dX9_refused_11 : decode cX9_refused 11 = .ok (.iconst 1, 1) := by decide +kernel
theorem dX9_refused_12 : decode cX9_refused 12 = .ok (.iload_n 2, 1) := by decide +kernel
theorem dX9_refused_13 : decode cX9_refused 13 = .ok (.iastore, 1) := by decide +kernel
theorem dX9_refused_14 : decode cX9_refused 14 = .ok (.aload_n 0, 1) := by decide +kernel
theorem dX9_refused_15 : decode cX9_refused 15 = .ok (.getfield 19, 3) := by decide +kernel
theorem dX9_refused_18 : decode cX9_refused 18 = .ok (.iconst 2, 1) := by decide +kernel
theorem dX9_refused_19 : decode cX9_refused 19 = .ok (.iload_n 3, 1) := by decide +kernel
theorem dX9_refused_20 : decode cX9_refused 20 = .ok (.iastore, 1) := by decide +kernel
theorem dX9_refused_21 : decode cX9_refused 21 = .ok (.aload_n 0, 1) := by decide +kernel
theorem dX9_refused_22 : decode cX9_refused 22 = .ok (.getfield 19, 3) := by decide +kernel
theorem dX9_refused_25 : decode cX9_refused 25 = .ok (.iconst 3, 1) := by decide +kernel
theorem dX9_refused_26 : decode cX9_refused 26 = .ok (.iload 4, 2) := by decide +kernel
theorem dX9_refused_28 : decode cX9_refused 28 = .ok (.iastore, 1) := by decide +kernel
theorem dX9_refused_29 : decode cX9_refused 29 = .ok (.iload_n 1, 1) := by decide +kernel
theorem dX9_refused_30 : decode cX9_refused 30 = .ok (.ireturn, 1) := by decide +kernel
theorem dX9_no_0 : decode cX9_no 0 = .ok (.iload_n 1, 1) := by decide +kernel
theorem dX9_no_1 : decode cX9_no 1 = .ok (.bipush (-7), 2) := by decide +kernel
theorem dX9_no_3 : decode cX9_no 3 = .ok (.if_icmp .ne 16, 3) := by decide +kernel
theorem dX9_no_6 : decode cX9_no 6 = .ok (.aload_n 0, 1) := by decide +kernel
theorem dX9_no_7 : decode cX9_no 7 = .ok (.iload_n 1, 1) := by decide +kernel
theorem dX9_no_8 : decode cX9_no 8 = .ok (.iconst 1, 1) := by decide +kernel
theorem dX9_no_9 : decode cX9_no 9 = .ok (.bipush (-9), 2) := by decide +kernel
theorem dX9_no_11 : decode cX9_no 11 = .ok (.bipush (-9), 2) := by decide +kernel
theorem dX9_no_13 : decode cX9_no 13 = .ok (.invokevirtual 65, 3) := by decide +kernel
theorem dX9_no_16 : decode cX9_no 16 = .ok (.goto 11, 3) := by decide +kernel
theorem dX9_no_19 : decode cX9_no 19 = .ok (.aload_n 0, 1) := by decide +kernel
theorem dX9_no_20 : decode cX9_no 20 = .ok (.iload_n 1, 1) := by decide +kernel
theorem dX9_no_21 : decode cX9_no 21 = .ok (.iconst 0, 1) := by decide +kernel
theorem dX9_no_22 : decode cX9_no 22 = .ok (.iconst 0, 1) := by decide +kernel
theorem dX9_no_23 : decode cX9_no 23 = .ok (.iconst 0, 1) := by decide +kernel
theorem dX9_no_24 : decode cX9_no 24 = .ok (.invokevirtual 65, 3) := by decide +kernel
theorem dX9_no_27 : decode cX9_no 27 = .ok (.ireturn, 1) := by decide +kernel
theorem dX9_noLong_0 : decode cX9_noLong 0 = .ok (.ldc2_w 69, 3) := by decide +kernel
theorem dX9_noLong_3 : decode cX9_noLong 3 = .ok (.aload_n 0, 1) := by decide +kernel
theorem dX9_noLong_4 : decode cX9_noLong 4 = .ok (.iload_n 1, 1) := by decide +kernel
theorem dX9_noLong_5 : decode cX9_noLong 5 = .ok (.invokevirtual 71, 3) := by decide +kernel
theorem dX9_noLong_8 : decode cX9_noLong 8 = .ok (.i2l, 1) := by decide +kernel
theorem dX9_noLong_9 : decode cX9_noLong 9 = .ok (.lsub, 1) := by decide +kernel
theorem dX9_noLong_10 : decode cX9_noLong 10 = .ok (.lreturn, 1) := by decide +kernel
theorem dX9_isUnit_0 : decode cX9_isUnit 0 = .ok (.iload_n 1, 1) := by decide +kernel
theorem dX9_isUnit_1 : decode cX9_isUnit 1 = .ok (.iconst 0, 1) := by decide +kernel
theorem dX9_isUnit_2 : decode cX9_isUnit 2 = .ok (.aload_n 0, 1) := by decide +kernel
theorem dX9_isUnit_3 : decode cX9_isUnit 3 = .ok (.getfield 7, 3) := by decide +kernel
theorem dX9_isUnit_6 : decode cX9_isUnit 6 = .ok (.iconst 0, 1) := by decide +kernel
theorem dX9_isUnit_7 : decode cX9_isUnit 7 = .ok (.iaload, 1) := by decide +kernel
theorem dX9_isUnit_8 : decode cX9_isUnit 8 = .ok (.iconst 1, 1) := by decide +kernel
theorem dX9_isUnit_9 : decode cX9_isUnit 9 = .ok (.isub, 1) := by decide +kernel
theorem dX9_isUnit_10 : decode cX9_isUnit 10 = .ok (.invokestatic 75, 3) := by decide +kernel
theorem dX9_isUnit_13 : decode cX9_isUnit 13 = .ok (.ireturn, 1) := by decide +kernel
theorem dX9_isOdds_0 : decode cX9_isOdds 0 = .ok (.iload_n 2, 1) := by decide +kernel
theorem dX9_isOdds_1 : decode cX9_isOdds 1 = .ok (.iconst 1, 1) := by decide +kernel
theorem dX9_isOdds_2 : decode cX9_isOdds 2 = .ok (.bipush 60, 2) := by decide +kernel
theorem dX9_isOdds_4 : decode cX9_isOdds 4 = .ok (.invokestatic 75, 3) := by decide +kernel
theorem dX9_isOdds_7 : decode cX9_isOdds 7 = .ok (.ifCond .eq 24, 3) := by decide +kernel
theorem dX9_isOdds_10 : decode cX9_isOdds 10 = .ok (.iload_n 1, 1) := by decide +kernel
theorem dX9_isOdds_11 : decode cX9_isOdds 11 = .ok (.iload_n 0, 1) := by decide +kernel
theorem dX9_isOdds_12 : decode cX9_isOdds 12 = .ok (.ifCond .ne 7, 3) := by decide +kernel
theorem dX9_isOdds_15 : decode cX9_isOdds 15 = .ok (.iconst 1, 1) := by decide +kernel
theorem dX9_isOdds_16 : decode cX9_isOdds 16 = .ok (.goto 4, 3) := by decide +kernel
theorem dX9_isOdds_19 : decode cX9_isOdds 19 = .ok (.iconst 0, 1) := by decide +kernel
theorem dX9_isOdds_20 : decode cX9_isOdds 20 = .ok (.iload_n 2, 1) := by decide +kernel
theorem dX9_isOdds_21 : decode cX9_isOdds 21 = .ok (.invokestatic 75, 3) := by decide +kernel
theorem dX9_isOdds_24 : decode cX9_isOdds 24 = .ok (.ifCond .eq 7, 3) := by decide +kernel
theorem dX9_isOdds_27 : decode cX9_isOdds 27 = .ok (.iconst 1, 1) := by decide +kernel
theorem dX9_isOdds_28 : decode cX9_isOdds 28 = .ok (.goto 4, 3) := by decide +kernel
theorem dX9_isOdds_31 : decode cX9_isOdds 31 = .ok (.iconst 0, 1) := by decide +kernel
theorem dX9_isOdds_32 : decode cX9_isOdds 32 = .ok (.ireturn, 1) := by decide +kernel
theorem dX9_comes_0 : decode cX9_comes 0 = .ok (.iconst 0, 1) := by decide +kernel
theorem dX9_comes_1 : decode cX9_comes 1 = .ok (.iload_n 1, 1) := by decide +kernel
theorem dX9_comes_2 : decode cX9_comes 2 = .ok (.iload_n 2, 1) := by decide +kernel
theorem dX9_comes_3 : decode cX9_comes 3 = .ok (.invokestatic 79, 3) := by decide +kernel
theorem dX9_comes_6 : decode cX9_comes 6 = .ok (.ifCond .eq 24, 3) := by decide +kernel
theorem dX9_comes_9 : decode cX9_comes 9 = .ok (.iload_n 3, 1) := by decide +kernel
theorem dX9_comes_10 : decode cX9_comes 10 = .ok (.iconst 0, 1) := by decide +kernel
theorem dX9_comes_11 : decode cX9_comes 11 = .ok (.iconst 3, 1) := by decide +kernel
theorem dX9_comes_12 : decode cX9_comes 12 = .ok (.invokestatic 75, 3) := by decide +kernel
theorem dX9_comes_15 : decode cX9_comes 15 = .ok (.ifCond .eq 15, 3) := by decide +kernel
theorem dX9_comes_18 : decode cX9_comes 18 = .ok (.iload 4, 2) := by decide +kernel
theorem dX9_comes_20 : decode cX9_comes 20 = .ok (.bipush (-99), 2) := by decide +kernel
theorem dX9_comes_22 : decode cX9_comes 22 = .ok (.bipush 99, 2) := by decide +kernel
theorem dX9_comes_24 : decode cX9_comes 24 = .ok (.invokestatic 75, 3) := by decide +kernel
theorem dX9_comes_27 : decode cX9_comes 27 = .ok (.ifCond .ne 6, 3) := by decide +kernel
theorem dX9_comes_30 : decode cX9_comes 30 = .ok (.bipush (-2), 2) := by decide +kernel
theorem dX9_comes_32 : decode cX9_comes 32 = .ok (.ireturn, 1) := by decide +kernel
theorem dX9_comes_33 : decode cX9_comes 33 = .ok (.aload_n 0, 1) := by decide +kernel
theorem dX9_comes_34 : decode cX9_comes 34 = .ok (.getfield 7, 3) := by decide +kernel
theorem dX9_comes_37 : decode cX9_comes 37 = .ok (.iconst 0, 1) := by decide +kernel
theorem dX9_comes_38 : decode cX9_comes 38 = .ok (.iaload, 1) := by decide +kernel
theorem dX9_comes_39 : decode cX9_comes 39 = .ok (.bipush 12, 2) := by decide +kernel
theorem dX9_comes_41 : decode cX9_comes 41 = .ok (.if_icmp .ne 6, 3) := by decide +kernel
theorem dX9_comes_44 : decode cX9_comes 44 = .ok (.bipush (-4), 2) := by decide +kernel
theorem dX9_comes_46 : decode cX9_comes 46 = .ok (.ireturn, 1) := by decide +kernel
theorem dX9_comes_47 : decode cX9_comes 47 = .ok (.aload_n 0, 1) := by decide +kernel
theorem dX9_comes_48 : decode cX9_comes 48 = .ok (.getfield 7, 3) := by decide +kernel
theorem dX9_comes_51 : decode cX9_comes 51 = .ok (.iconst 0, 1) := by decide +kernel
theorem dX9_comes_52 : decode cX9_comes 52 = .ok (.dup2, 1) := by decide +kernel
theorem dX9_comes_53 : decode cX9_comes 53 = .ok (.iaload, 1) := by decide +kernel
theorem dX9_comes_54 : decode cX9_comes 54 = .ok (.dup_x2, 1) := by decide +kernel
theorem dX9_comes_55 : decode cX9_comes 55 = .ok (.iconst 1, 1) := by decide +kernel
theorem dX9_comes_56 : decode cX9_comes 56 = .ok (.iadd, 1) := by decide +kernel
theorem dX9_comes_57 : decode cX9_comes 57 = .ok (.iastore, 1) := by decide +kernel
theorem dX9_comes_58 : decode cX9_comes 58 = .ok (.istore 5, 2) := by decide +kernel
theorem dX9_comes_60 : decode cX9_comes 60 = .ok (.aload_n 0, 1) := by decide +kernel
theorem dX9_comes_61 : decode cX9_comes 61 = .ok (.getfield 7, 3) := by decide +kernel
theorem dX9_comes_64 : decode cX9_comes 64 = .ok (.iconst 2, 1) := by decide +kernel
theorem dX9_comes_65 : decode cX9_comes 65 = .ok (.iload 5, 2) := by decide +kernel
theorem dX9_comes_67 : decode cX9_comes 67 = .ok (.iadd, 1) := by decide +kernel
theorem dX9_comes_68 : decode cX9_comes 68 = .ok (.iload 5, 2) := by decide +kernel
theorem dX9_comes_70 : decode cX9_comes 70 = .ok (.iastore, 1) := by decide +kernel
theorem dX9_comes_71 : decode cX9_comes 71 = .ok (.aload_n 0, 1) := by decide +kernel
theorem dX9_comes_72 : decode cX9_comes 72 = .ok (.getfield 7, 3) := by decide +kernel
theorem dX9_comes_75 : decode cX9_comes 75 = .ok (.bipush 14, 2) := by decide +kernel
theorem dX9_comes_77 : decode cX9_comes 77 = .ok (.iload 5, 2) := by decide +kernel
theorem dX9_comes_79 : decode cX9_comes 79 = .ok (.iadd, 1) := by decide +kernel
theorem dX9_comes_80 : decode cX9_comes 80 = .ok (.iload_n 3, 1) := by decide +kernel
theorem dX9_comes_81 : decode cX9_comes 81 = .ok (.iastore, 1) := by decide +kernel
theorem dX9_comes_82 : decode cX9_comes 82 = .ok (.aload_n 0, 1) := by decide +kernel
theorem dX9_comes_83 : decode cX9_comes 83 = .ok (.getfield 7, 3) := by decide +kernel
theorem dX9_comes_86 : decode cX9_comes 86 = .ok (.bipush 26, 2) := by decide +kernel
theorem dX9_comes_88 : decode cX9_comes 88 = .ok (.iload 5, 2) := by decide +kernel
theorem dX9_comes_90 : decode cX9_comes 90 = .ok (.iadd, 1) := by decide +kernel
theorem dX9_comes_91 : decode cX9_comes 91 = .ok (.iload 4, 2) := by decide +kernel
theorem dX9_comes_93 : decode cX9_comes 93 = .ok (.iastore, 1) := by decide +kernel
theorem dX9_comes_94 : decode cX9_comes 94 = .ok (.aload_n 0, 1) := by decide +kernel
theorem dX9_comes_95 : decode cX9_comes 95 = .ok (.getfield 7, 3) := by decide +kernel
theorem dX9_comes_98 : decode cX9_comes 98 = .ok (.bipush 38, 2) := by decide +kernel
theorem dX9_comes_100 : decode cX9_comes 100 = .ok (.iload 5, 2) := by decide +kernel
theorem dX9_comes_102 : decode cX9_comes 102 = .ok (.iadd, 1) := by decide +kernel
theorem dX9_comes_103 : decode cX9_comes 103 = .ok (.iconst 0, 1) := by decide +kernel
theorem dX9_comes_104 : decode cX9_comes 104 = .ok (.iastore, 1) := by decide +kernel
theorem dX9_comes_105 : decode cX9_comes 105 = .ok (.iconst 0, 1) := by decide +kernel
theorem dX9_comes_106 : decode cX9_comes 106 = .ok (.istore 6, 2) := by decide +kernel
theorem dX9_comes_108 : decode cX9_comes 108 = .ok (.iload 6, 2) := by decide +kernel
theorem dX9_comes_110 : decode cX9_comes 110 = .ok (.iconst 3, 1) := by decide +kernel
theorem dX9_comes_111 : decode cX9_comes 111 = .ok (.if_icmp .ge 61, 3) := by decide +kernel
theorem dX9_comes_114 : decode cX9_comes 114 = .ok (.aload_n 0, 1) := by decide +kernel
theorem dX9_comes_115 : decode cX9_comes 115 = .ok (.getfield 7, 3) := by decide +kernel
theorem dX9_comes_118 : decode cX9_comes 118 = .ok (.bipush 50, 2) := by decide +kernel
theorem dX9_comes_120 : decode cX9_comes 120 = .ok (.bipush 12, 2) := by decide +kernel
theorem dX9_comes_122 : decode cX9_comes 122 = .ok (.iload 6, 2) := by decide +kernel
theorem dX9_comes_124 : decode cX9_comes 124 = .ok (.imul, 1) := by decide +kernel
theorem dX9_comes_125 : decode cX9_comes 125 = .ok (.iadd, 1) := by decide +kernel
theorem dX9_comes_126 : decode cX9_comes 126 = .ok (.iload 5, 2) := by decide +kernel
theorem dX9_comes_128 : decode cX9_comes 128 = .ok (.iadd, 1) := by decide +kernel
theorem dX9_comes_129 : decode cX9_comes 129 = .ok (.iload 6, 2) := by decide +kernel
theorem dX9_comes_131 : decode cX9_comes 131 = .ok (.ifCond .ne 7, 3) := by decide +kernel
theorem dX9_comes_134 : decode cX9_comes 134 = .ok (.iload_n 1, 1) := by decide +kernel
theorem dX9_comes_135 : decode cX9_comes 135 = .ok (.goto 4, 3) := by decide +kernel
theorem dX9_comes_138 : decode cX9_comes 138 = .ok (.iconst 1, 1) := by decide +kernel
theorem dX9_comes_139 : decode cX9_comes 139 = .ok (.iastore, 1) := by decide +kernel
theorem dX9_comes_140 : decode cX9_comes 140 = .ok (.aload_n 0, 1) := by decide +kernel
theorem dX9_comes_141 : decode cX9_comes 141 = .ok (.getfield 7, 3) := by decide +kernel
theorem dX9_comes_144 : decode cX9_comes 144 = .ok (.bipush 86, 2) := by decide +kernel
theorem dX9_comes_146 : decode cX9_comes 146 = .ok (.bipush 12, 2) := by decide +kernel
theorem dX9_comes_148 : decode cX9_comes 148 = .ok (.iload 6, 2) := by decide +kernel
theorem dX9_comes_150 : decode cX9_comes 150 = .ok (.imul, 1) := by decide +kernel
theorem dX9_comes_151 : decode cX9_comes 151 = .ok (.iadd, 1) := by decide +kernel
theorem dX9_comes_152 : decode cX9_comes 152 = .ok (.iload 5, 2) := by decide +kernel
theorem dX9_comes_154 : decode cX9_comes 154 = .ok (.iadd, 1) := by decide +kernel
theorem dX9_comes_155 : decode cX9_comes 155 = .ok (.iload 6, 2) := by decide +kernel
theorem dX9_comes_157 : decode cX9_comes 157 = .ok (.ifCond .ne 7, 3) := by decide +kernel
theorem dX9_comes_160 : decode cX9_comes 160 = .ok (.iload_n 2, 1) := by decide +kernel
theorem dX9_comes_161 : decode cX9_comes 161 = .ok (.goto 4, 3) := by decide +kernel
theorem dX9_comes_164 : decode cX9_comes 164 = .ok (.iconst 1, 1) := by decide +kernel
theorem dX9_comes_165 : decode cX9_comes 165 = .ok (.iastore, 1) := by decide +kernel
theorem dX9_comes_166 : decode cX9_comes 166 = .ok (.iinc 6 1, 3) := by decide +kernel
theorem dX9_comes_169 : decode cX9_comes 169 = .ok (.goto (-61), 3) := by decide +kernel
theorem dX9_comes_172 : decode cX9_comes 172 = .ok (.iload 5, 2) := by decide +kernel
theorem dX9_comes_174 : decode cX9_comes 174 = .ok (.ireturn, 1) := by decide +kernel
theorem dX9_unit_0 : decode cX9_unit 0 = .ok (.aload_n 0, 1) := by decide +kernel
theorem dX9_unit_1 : decode cX9_unit 1 = .ok (.iload_n 1, 1) := by decide +kernel
theorem dX9_unit_2 : decode cX9_unit 2 = .ok (.iload_n 2, 1) := by decide +kernel
theorem dX9_unit_3 : decode cX9_unit 3 = .ok (.iload_n 3, 1) := by decide +kernel
theorem dX9_unit_4 : decode cX9_unit 4 = .ok (.iload 4, 2) := by decide +kernel
theorem dX9_unit_6 : decode cX9_unit 6 = .ok (.invokevirtual 82, 3) := by decide +kernel
theorem dX9_unit_9 : decode cX9_unit 9 = .ok (.istore 5, 2) := by decide +kernel
theorem dX9_unit_11 : decode cX9_unit 11 = .ok (.iload 5, 2) := by decide +kernel
theorem dX9_unit_13 : decode cX9_unit 13 = .ok (.ifCond .ge 12, 3) := by decide +kernel
theorem dX9_unit_16 : decode cX9_unit 16 = .ok (.aload_n 0, 1) := by decide +kernel
theorem dX9_unit_17 : decode cX9_unit 17 = .ok (.iload 5, 2) := by decide +kernel
theorem dX9_unit_19 : decode cX9_unit 19 = .ok (.invokevirtual 71, 3) := by decide +kernel
theorem dX9_unit_22 : decode cX9_unit 22 = .ok (.goto 5, 3) := by decide +kernel
theorem dX9_unit_25 : decode cX9_unit 25 = .ok (.iload 5, 2) := by decide +kernel
theorem dX9_unit_27 : decode cX9_unit 27 = .ok (.ireturn, 1) := by decide +kernel
theorem dX9_becomes_0 : decode cX9_becomes 0 = .ok (.aload_n 0, 1) := by decide +kernel
theorem dX9_becomes_1 : decode cX9_becomes 1 = .ok (.iload_n 1, 1) := by decide +kernel
theorem dX9_becomes_2 : decode cX9_becomes 2 = .ok (.invokevirtual 85, 3) := by decide +kernel
theorem dX9_becomes_5 : decode cX9_becomes 5 = .ok (.ifCond .eq 12, 3) := by decide +kernel
theorem dX9_becomes_8 : decode cX9_becomes 8 = .ok (.iload_n 2, 1) := by decide +kernel
theorem dX9_becomes_9 : decode cX9_becomes 9 = .ok (.iconst 0, 1) := by decide +kernel
theorem dX9_becomes_10 : decode cX9_becomes 10 = .ok (.iconst 2, 1) := by decide +kernel
theorem dX9_becomes_11 : decode cX9_becomes 11 = .ok (.invokestatic 75, 3) := by decide +kernel
theorem dX9_becomes_14 : decode cX9_becomes 14 = .ok (.ifCond .ne 5, 3) := by decide +kernel
theorem dX9_becomes_17 : decode cX9_becomes 17 = .ok (.iconst (-1), 1) := by decide +kernel
theorem dX9_becomes_18 : decode cX9_becomes 18 = .ok (.ireturn, 1) := by decide +kernel
theorem dX9_becomes_19 : decode cX9_becomes 19 = .ok (.iload_n 2, 1) := by decide +kernel
theorem dX9_becomes_20 : decode cX9_becomes 20 = .ok (.iload_n 3, 1) := by decide +kernel
theorem dX9_becomes_21 : decode cX9_becomes 21 = .ok (.iload 4, 2) := by decide +kernel
theorem dX9_becomes_23 : decode cX9_becomes 23 = .ok (.invokestatic 79, 3) := by decide +kernel
theorem dX9_becomes_26 : decode cX9_becomes 26 = .ok (.ifCond .ne 6, 3) := by decide +kernel
theorem dX9_becomes_29 : decode cX9_becomes 29 = .ok (.bipush (-2), 2) := by decide +kernel
theorem dX9_becomes_31 : decode cX9_becomes 31 = .ok (.ireturn, 1) := by decide +kernel
theorem dX9_becomes_32 : decode cX9_becomes 32 = .ok (.bipush 12, 2) := by decide +kernel
theorem dX9_becomes_34 : decode cX9_becomes 34 = .ok (.iload_n 2, 1) := by decide +kernel
theorem dX9_becomes_35 : decode cX9_becomes 35 = .ok (.imul, 1) := by decide +kernel
theorem dX9_becomes_36 : decode cX9_becomes 36 = .ok (.iload_n 1, 1) := by decide +kernel
theorem dX9_becomes_37 : decode cX9_becomes 37 = .ok (.iadd, 1) := by decide +kernel
theorem dX9_becomes_38 : decode cX9_becomes 38 = .ok (.istore 5, 2) := by decide +kernel
theorem dX9_becomes_40 : decode cX9_becomes 40 = .ok (.bipush 100, 2) := by decide +kernel
theorem dX9_becomes_42 : decode cX9_becomes 42 = .ok (.aload_n 0, 1) := by decide +kernel
theorem dX9_becomes_43 : decode cX9_becomes 43 = .ok (.getfield 7, 3) := by decide +kernel
theorem dX9_becomes_46 : decode cX9_becomes 46 = .ok (.bipush 50, 2) := by decide +kernel
theorem dX9_becomes_48 : decode cX9_becomes 48 = .ok (.iload 5, 2) := by decide +kernel
theorem dX9_becomes_50 : decode cX9_becomes 50 = .ok (.iadd, 1) := by decide +kernel
theorem dX9_becomes_51 : decode cX9_becomes 51 = .ok (.iaload, 1) := by decide +kernel
theorem dX9_becomes_52 : decode cX9_becomes 52 = .ok (.imul, 1) := by decide +kernel
theorem dX9_becomes_53 : decode cX9_becomes 53 = .ok (.aload_n 0, 1) := by decide +kernel
theorem dX9_becomes_54 : decode cX9_becomes 54 = .ok (.getfield 7, 3) := by decide +kernel
theorem dX9_becomes_57 : decode cX9_becomes 57 = .ok (.bipush 86, 2) := by decide +kernel
theorem dX9_becomes_59 : decode cX9_becomes 59 = .ok (.iload 5, 2) := by decide +kernel
theorem dX9_becomes_61 : decode cX9_becomes 61 = .ok (.iadd, 1) := by decide +kernel
theorem dX9_becomes_62 : decode cX9_becomes 62 = .ok (.iaload, 1) := by decide +kernel
theorem dX9_becomes_63 : decode cX9_becomes 63 = .ok (.iadd, 1) := by decide +kernel
theorem dX9_becomes_64 : decode cX9_becomes 64 = .ok (.istore 6, 2) := by decide +kernel
theorem dX9_becomes_66 : decode cX9_becomes 66 = .ok (.aload_n 0, 1) := by decide +kernel
theorem dX9_becomes_67 : decode cX9_becomes 67 = .ok (.getfield 7, 3) := by decide +kernel
theorem dX9_becomes_70 : decode cX9_becomes 70 = .ok (.bipush 50, 2) := by decide +kernel
theorem dX9_becomes_72 : decode cX9_becomes 72 = .ok (.iload 5, 2) := by decide +kernel
theorem dX9_becomes_74 : decode cX9_becomes 74 = .ok (.iadd, 1) := by decide +kernel
theorem dX9_becomes_75 : decode cX9_becomes 75 = .ok (.iload_n 3, 1) := by decide +kernel
theorem dX9_becomes_76 : decode cX9_becomes 76 = .ok (.iastore, 1) := by decide +kernel
theorem dX9_becomes_77 : decode cX9_becomes 77 = .ok (.aload_n 0, 1) := by decide +kernel
theorem dX9_becomes_78 : decode cX9_becomes 78 = .ok (.getfield 7, 3) := by decide +kernel
theorem dX9_becomes_81 : decode cX9_becomes 81 = .ok (.bipush 86, 2) := by decide +kernel
theorem dX9_becomes_83 : decode cX9_becomes 83 = .ok (.iload 5, 2) := by decide +kernel
theorem dX9_becomes_85 : decode cX9_becomes 85 = .ok (.iadd, 1) := by decide +kernel
theorem dX9_becomes_86 : decode cX9_becomes 86 = .ok (.iload 4, 2) := by decide +kernel
theorem dX9_becomes_88 : decode cX9_becomes 88 = .ok (.iastore, 1) := by decide +kernel
theorem dX9_becomes_89 : decode cX9_becomes 89 = .ok (.iload 6, 2) := by decide +kernel
theorem dX9_becomes_91 : decode cX9_becomes 91 = .ok (.ireturn, 1) := by decide +kernel
theorem dX9_odds_0 : decode cX9_odds 0 = .ok (.aload_n 0, 1) := by decide +kernel
theorem dX9_odds_1 : decode cX9_odds 1 = .ok (.iload_n 1, 1) := by decide +kernel
theorem dX9_odds_2 : decode cX9_odds 2 = .ok (.iload_n 2, 1) := by decide +kernel
theorem dX9_odds_3 : decode cX9_odds 3 = .ok (.iload_n 3, 1) := by decide +kernel
theorem dX9_odds_4 : decode cX9_odds 4 = .ok (.iload 4, 2) := by decide +kernel
theorem dX9_odds_6 : decode cX9_odds 6 = .ok (.invokevirtual 89, 3) := by decide +kernel
theorem dX9_odds_9 : decode cX9_odds 9 = .ok (.istore 5, 2) := by decide +kernel
theorem dX9_odds_11 : decode cX9_odds 11 = .ok (.iload 5, 2) := by decide +kernel
theorem dX9_odds_13 : decode cX9_odds 13 = .ok (.ifCond .ge 12, 3) := by decide +kernel
theorem dX9_odds_16 : decode cX9_odds 16 = .ok (.aload_n 0, 1) := by decide +kernel
theorem dX9_odds_17 : decode cX9_odds 17 = .ok (.iload 5, 2) := by decide +kernel
theorem dX9_odds_19 : decode cX9_odds 19 = .ok (.invokevirtual 71, 3) := by decide +kernel
theorem dX9_odds_22 : decode cX9_odds 22 = .ok (.goto 5, 3) := by decide +kernel
theorem dX9_odds_25 : decode cX9_odds 25 = .ok (.iload 5, 2) := by decide +kernel
theorem dX9_odds_27 : decode cX9_odds 27 = .ok (.ireturn, 1) := by decide +kernel
theorem dX9_set_0 : decode cX9_set 0 = .ok (.aload_n 0, 1) := by decide +kernel
theorem dX9_set_1 : decode cX9_set 1 = .ok (.iload_n 1, 1) := by decide +kernel
theorem dX9_set_2 : decode cX9_set 2 = .ok (.invokevirtual 85, 3) := by decide +kernel
theorem dX9_set_5 : decode cX9_set 5 = .ok (.ifCond .eq 12, 3) := by decide +kernel
theorem dX9_set_8 : decode cX9_set 8 = .ok (.iload_n 2, 1) := by decide +kernel
theorem dX9_set_9 : decode cX9_set 9 = .ok (.iconst 0, 1) := by decide +kernel
theorem dX9_set_10 : decode cX9_set 10 = .ok (.iconst 1, 1) := by decide +kernel
theorem dX9_set_11 : decode cX9_set 11 = .ok (.invokestatic 75, 3) := by decide +kernel
theorem dX9_set_14 : decode cX9_set 14 = .ok (.ifCond .ne 9, 3) := by decide +kernel
theorem dX9_set_17 : decode cX9_set 17 = .ok (.aload_n 0, 1) := by decide +kernel
theorem dX9_set_18 : decode cX9_set 18 = .ok (.iconst (-1), 1) := by decide +kernel
theorem dX9_set_19 : decode cX9_set 19 = .ok (.invokevirtual 71, 3) := by decide +kernel
theorem dX9_set_22 : decode cX9_set 22 = .ok (.ireturn, 1) := by decide +kernel
theorem dX9_set_23 : decode cX9_set 23 = .ok (.iload_n 3, 1) := by decide +kernel
theorem dX9_set_24 : decode cX9_set 24 = .ok (.iconst 0, 1) := by decide +kernel
theorem dX9_set_25 : decode cX9_set 25 = .ok (.iload_n 2, 1) := by decide +kernel
theorem dX9_set_26 : decode cX9_set 26 = .ok (.ifCond .ne 7, 3) := by decide +kernel
theorem dX9_set_29 : decode cX9_set 29 = .ok (.iconst 3, 1) := by decide +kernel
theorem dX9_set_30 : decode cX9_set 30 = .ok (.goto 4, 3) := by decide +kernel
theorem dX9_set_33 : decode cX9_set 33 = .ok (.iconst 1, 1) := by decide +kernel
theorem dX9_set_34 : decode cX9_set 34 = .ok (.invokestatic 75, 3) := by decide +kernel
theorem dX9_set_37 : decode cX9_set 37 = .ok (.ifCond .ne 10, 3) := by decide +kernel
theorem dX9_set_40 : decode cX9_set 40 = .ok (.aload_n 0, 1) := by decide +kernel
theorem dX9_set_41 : decode cX9_set 41 = .ok (.bipush (-2), 2) := by decide +kernel
theorem dX9_set_43 : decode cX9_set 43 = .ok (.invokevirtual 71, 3) := by decide +kernel
theorem dX9_set_46 : decode cX9_set 46 = .ok (.ireturn, 1) := by decide +kernel
theorem dX9_set_47 : decode cX9_set 47 = .ok (.iload_n 2, 1) := by decide +kernel
theorem dX9_set_48 : decode cX9_set 48 = .ok (.ifCond .ne 8, 3) := by decide +kernel
theorem dX9_set_51 : decode cX9_set 51 = .ok (.bipush 14, 2) := by decide +kernel
theorem dX9_set_53 : decode cX9_set 53 = .ok (.goto 5, 3) := by decide +kernel
theorem dX9_set_56 : decode cX9_set 56 = .ok (.bipush 38, 2) := by decide +kernel
theorem dX9_set_58 : decode cX9_set 58 = .ok (.iload_n 1, 1) := by decide +kernel
theorem dX9_set_59 : decode cX9_set 59 = .ok (.iadd, 1) := by decide +kernel
theorem dX9_set_60 : decode cX9_set 60 = .ok (.istore 4, 2) := by decide +kernel
theorem dX9_set_62 : decode cX9_set 62 = .ok (.aload_n 0, 1) := by decide +kernel
theorem dX9_set_63 : decode cX9_set 63 = .ok (.getfield 7, 3) := by decide +kernel
theorem dX9_set_66 : decode cX9_set 66 = .ok (.iload 4, 2) := by decide +kernel
theorem dX9_set_68 : decode cX9_set 68 = .ok (.iaload, 1) := by decide +kernel
theorem dX9_set_69 : decode cX9_set 69 = .ok (.istore 5, 2) := by decide +kernel
theorem dX9_set_71 : decode cX9_set 71 = .ok (.aload_n 0, 1) := by decide +kernel
theorem dX9_set_72 : decode cX9_set 72 = .ok (.getfield 7, 3) := by decide +kernel
theorem dX9_set_75 : decode cX9_set 75 = .ok (.iload 4, 2) := by decide +kernel
theorem dX9_set_77 : decode cX9_set 77 = .ok (.iload_n 3, 1) := by decide +kernel
theorem dX9_set_78 : decode cX9_set 78 = .ok (.iastore, 1) := by decide +kernel
theorem dX9_set_79 : decode cX9_set 79 = .ok (.iload 5, 2) := by decide +kernel
theorem dX9_set_81 : decode cX9_set 81 = .ok (.ireturn, 1) := by decide +kernel
theorem dX9_mark_0 : decode cX9_mark 0 = .ok (.aload_n 0, 1) := by decide +kernel
theorem dX9_mark_1 : decode cX9_mark 1 = .ok (.iload_n 1, 1) := by decide +kernel
theorem dX9_mark_2 : decode cX9_mark 2 = .ok (.invokevirtual 85, 3) := by decide +kernel
theorem dX9_mark_5 : decode cX9_mark 5 = .ok (.ifCond .ne 9, 3) := by decide +kernel
theorem dX9_mark_8 : decode cX9_mark 8 = .ok (.aload_n 0, 1) := by decide +kernel
theorem dX9_mark_9 : decode cX9_mark 9 = .ok (.iconst (-1), 1) := by decide +kernel
theorem dX9_mark_10 : decode cX9_mark 10 = .ok (.invokevirtual 71, 3) := by decide +kernel
theorem dX9_mark_13 : decode cX9_mark 13 = .ok (.ireturn, 1) := by decide +kernel
theorem dX9_mark_14 : decode cX9_mark 14 = .ok (.iload_n 2, 1) := by decide +kernel
theorem dX9_mark_15 : decode cX9_mark 15 = .ok (.bipush (-99), 2) := by decide +kernel
theorem dX9_mark_17 : decode cX9_mark 17 = .ok (.bipush 99, 2) := by decide +kernel
theorem dX9_mark_19 : decode cX9_mark 19 = .ok (.invokestatic 75, 3) := by decide +kernel
theorem dX9_mark_22 : decode cX9_mark 22 = .ok (.ifCond .ne 10, 3) := by decide +kernel
theorem dX9_mark_25 : decode cX9_mark 25 = .ok (.aload_n 0, 1) := by decide +kernel
theorem dX9_mark_26 : decode cX9_mark 26 = .ok (.bipush (-2), 2) := by decide +kernel
theorem dX9_mark_28 : decode cX9_mark 28 = .ok (.invokevirtual 71, 3) := by decide +kernel
theorem dX9_mark_31 : decode cX9_mark 31 = .ok (.ireturn, 1) := by decide +kernel
theorem dX9_mark_32 : decode cX9_mark 32 = .ok (.aload_n 0, 1) := by decide +kernel
theorem dX9_mark_33 : decode cX9_mark 33 = .ok (.getfield 7, 3) := by decide +kernel
theorem dX9_mark_36 : decode cX9_mark 36 = .ok (.bipush 26, 2) := by decide +kernel
theorem dX9_mark_38 : decode cX9_mark 38 = .ok (.iload_n 1, 1) := by decide +kernel
theorem dX9_mark_39 : decode cX9_mark 39 = .ok (.iadd, 1) := by decide +kernel
theorem dX9_mark_40 : decode cX9_mark 40 = .ok (.iload_n 2, 1) := by decide +kernel
theorem dX9_mark_41 : decode cX9_mark 41 = .ok (.iastore, 1) := by decide +kernel
theorem dX9_mark_42 : decode cX9_mark 42 = .ok (.iconst 1, 1) := by decide +kernel
theorem dX9_mark_43 : decode cX9_mark 43 = .ok (.ireturn, 1) := by decide +kernel
theorem dX9_of_0 : decode cX9_of 0 = .ok (.aload_n 0, 1) := by decide +kernel
theorem dX9_of_1 : decode cX9_of 1 = .ok (.iload_n 1, 1) := by decide +kernel
theorem dX9_of_2 : decode cX9_of 2 = .ok (.invokevirtual 85, 3) := by decide +kernel
theorem dX9_of_5 : decode cX9_of 5 = .ok (.ifCond .eq 12, 3) := by decide +kernel
theorem dX9_of_8 : decode cX9_of 8 = .ok (.iload_n 2, 1) := by decide +kernel
theorem dX9_of_9 : decode cX9_of 9 = .ok (.iconst 0, 1) := by decide +kernel
theorem dX9_of_10 : decode cX9_of 10 = .ok (.iconst 3, 1) := by decide +kernel
theorem dX9_of_11 : decode cX9_of 11 = .ok (.invokestatic 75, 3) := by decide +kernel
theorem dX9_of_14 : decode cX9_of 14 = .ok (.ifCond .ne 9, 3) := by decide +kernel
theorem dX9_of_17 : decode cX9_of 17 = .ok (.aload_n 0, 1) := by decide +kernel
theorem dX9_of_18 : decode cX9_of 18 = .ok (.iconst (-1), 1) := by decide +kernel
theorem dX9_of_19 : decode cX9_of 19 = .ok (.invokevirtual 92, 3) := by decide +kernel
theorem dX9_of_22 : decode cX9_of 22 = .ok (.lreturn, 1) := by decide +kernel
theorem dX9_of_23 : decode cX9_of 23 = .ok (.iload_n 2, 1) := by decide +kernel
theorem dX9_of_24 : decode cX9_of 24 = .ok (.iconst 3, 1) := by decide +kernel
theorem dX9_of_25 : decode cX9_of 25 = .ok (.if_icmp .ge 33, 3) := by decide +kernel
theorem dX9_of_28 : decode cX9_of 28 = .ok (.aload_n 0, 1) := by decide +kernel
theorem dX9_of_29 : decode cX9_of 29 = .ok (.getfield 7, 3) := by decide +kernel
theorem dX9_of_32 : decode cX9_of 32 = .ok (.iload_n 2, 1) := by decide +kernel
theorem dX9_of_33 : decode cX9_of 33 = .ok (.ifCond .ne 8, 3) := by decide +kernel
theorem dX9_of_36 : decode cX9_of 36 = .ok (.bipush 14, 2) := by decide +kernel
theorem dX9_of_38 : decode cX9_of 38 = .ok (.goto 15, 3) := by decide +kernel
theorem dX9_of_41 : decode cX9_of 41 = .ok (.iload_n 2, 1) := by decide +kernel
theorem dX9_of_42 : decode cX9_of 42 = .ok (.iconst 1, 1) := by decide +kernel
theorem dX9_of_43 : decode cX9_of 43 = .ok (.if_icmp .ne 8, 3) := by decide +kernel
theorem dX9_of_46 : decode cX9_of 46 = .ok (.bipush 38, 2) := by decide +kernel
theorem dX9_of_48 : decode cX9_of 48 = .ok (.goto 5, 3) := by decide +kernel
theorem dX9_of_51 : decode cX9_of 51 = .ok (.bipush 26, 2) := by decide +kernel
theorem dX9_of_53 : decode cX9_of 53 = .ok (.iload_n 1, 1) := by decide +kernel
theorem dX9_of_54 : decode cX9_of 54 = .ok (.iadd, 1) := by decide +kernel
theorem dX9_of_55 : decode cX9_of 55 = .ok (.iaload, 1) := by decide +kernel
theorem dX9_of_56 : decode cX9_of 56 = .ok (.i2l, 1) := by decide +kernel
theorem dX9_of_57 : decode cX9_of 57 = .ok (.lreturn, 1) := by decide +kernel
theorem dX9_of_58 : decode cX9_of 58 = .ok (.aload_n 0, 1) := by decide +kernel
theorem dX9_of_59 : decode cX9_of 59 = .ok (.invokevirtual 96, 3) := by decide +kernel
theorem dX9_of_62 : decode cX9_of 62 = .ok (.aload_n 0, 1) := by decide +kernel
theorem dX9_of_63 : decode cX9_of 63 = .ok (.iload_n 1, 1) := by decide +kernel
theorem dX9_of_64 : decode cX9_of 64 = .ok (.invokevirtual 99, 3) := by decide +kernel
theorem dX9_of_67 : decode cX9_of 67 = .ok (.i2l, 1) := by decide +kernel
theorem dX9_of_68 : decode cX9_of 68 = .ok (.lreturn, 1) := by decide +kernel
theorem dX9_divisor_0 : decode cX9_divisor 0 = .ok (.lload_n 0, 1) := by decide +kernel
theorem dX9_divisor_1 : decode cX9_divisor 1 = .ok (.lstore 4, 2) := by decide +kernel
theorem dX9_divisor_3 : decode cX9_divisor 3 = .ok (.lload_n 2, 1) := by decide +kernel
theorem dX9_divisor_4 : decode cX9_divisor 4 = .ok (.lstore 6, 2) := by decide +kernel
theorem dX9_divisor_6 : decode cX9_divisor 6 = .ok (.lload 6, 2) := by decide +kernel
theorem dX9_divisor_8 : decode cX9_divisor 8 = .ok (.lconst 0, 1) := by decide +kernel
theorem dX9_divisor_9 : decode cX9_divisor 9 = .ok (.lcmp, 1) := by decide +kernel
theorem dX9_divisor_10 : decode cX9_divisor 10 = .ok (.ifCond .eq 21, 3) := by decide +kernel
theorem dX9_divisor_13 : decode cX9_divisor 13 = .ok (.lload 4, 2) := by decide +kernel
theorem dX9_divisor_15 : decode cX9_divisor 15 = .ok (.lload 6, 2) := by decide +kernel
theorem dX9_divisor_17 : decode cX9_divisor 17 = .ok (.lrem, 1) := by decide +kernel
theorem dX9_divisor_18 : decode cX9_divisor 18 = .ok (.lstore 8, 2) := by decide +kernel
theorem dX9_divisor_20 : decode cX9_divisor 20 = .ok (.lload 6, 2) := by decide +kernel
theorem dX9_divisor_22 : decode cX9_divisor 22 = .ok (.lstore 4, 2) := by decide +kernel
theorem dX9_divisor_24 : decode cX9_divisor 24 = .ok (.lload 8, 2) := by decide +kernel
theorem dX9_divisor_26 : decode cX9_divisor 26 = .ok (.lstore 6, 2) := by decide +kernel
theorem dX9_divisor_28 : decode cX9_divisor 28 = .ok (.goto (-22), 3) := by decide +kernel
theorem dX9_divisor_31 : decode cX9_divisor 31 = .ok (.lload 4, 2) := by decide +kernel
theorem dX9_divisor_33 : decode cX9_divisor 33 = .ok (.lconst 0, 1) := by decide +kernel
theorem dX9_divisor_34 : decode cX9_divisor 34 = .ok (.lcmp, 1) := by decide +kernel
theorem dX9_divisor_35 : decode cX9_divisor 35 = .ok (.ifCond .ge 9, 3) := by decide +kernel
theorem dX9_divisor_38 : decode cX9_divisor 38 = .ok (.lload 4, 2) := by decide +kernel
theorem dX9_divisor_40 : decode cX9_divisor 40 = .ok (.lneg, 1) := by decide +kernel
theorem dX9_divisor_41 : decode cX9_divisor 41 = .ok (.goto 5, 3) := by decide +kernel
theorem dX9_divisor_44 : decode cX9_divisor 44 = .ok (.lload 4, 2) := by decide +kernel
theorem dX9_divisor_46 : decode cX9_divisor 46 = .ok (.lreturn, 1) := by decide +kernel
theorem dX9_lowest_0 : decode cX9_lowest 0 = .ok (.iload 4, 2) := by decide +kernel
theorem dX9_lowest_2 : decode cX9_lowest 2 = .ok (.ifCond .ne 7, 3) := by decide +kernel
theorem dX9_lowest_5 : decode cX9_lowest 5 = .ok (.lload_n 0, 1) := by decide +kernel
theorem dX9_lowest_6 : decode cX9_lowest 6 = .ok (.goto 4, 3) := by decide +kernel
theorem dX9_lowest_9 : decode cX9_lowest 9 = .ok (.lload_n 2, 1) := by decide +kernel
theorem dX9_lowest_10 : decode cX9_lowest 10 = .ok (.lload_n 0, 1) := by decide +kernel
theorem dX9_lowest_11 : decode cX9_lowest 11 = .ok (.lload_n 2, 1) := by decide +kernel
theorem dX9_lowest_12 : decode cX9_lowest 12 = .ok (.invokestatic 102, 3) := by decide +kernel
theorem dX9_lowest_15 : decode cX9_lowest 15 = .ok (.ldiv, 1) := by decide +kernel
theorem dX9_lowest_16 : decode cX9_lowest 16 = .ok (.lreturn, 1) := by decide +kernel
theorem dX9_isPart_0 : decode cX9_isPart 0 = .ok (.iload_n 0, 1) := by decide +kernel
theorem dX9_isPart_1 : decode cX9_isPart 1 = .ok (.iconst 0, 1) := by decide +kernel
theorem dX9_isPart_2 : decode cX9_isPart 2 = .ok (.iconst 1, 1) := by decide +kernel
theorem dX9_isPart_3 : decode cX9_isPart 3 = .ok (.invokestatic 75, 3) := by decide +kernel
theorem dX9_isPart_6 : decode cX9_isPart 6 = .ok (.ireturn, 1) := by decide +kernel
theorem dX9_fraction_0 : decode cX9_fraction 0 = .ok (.aload_n 0, 1) := by decide +kernel
theorem dX9_fraction_1 : decode cX9_fraction 1 = .ok (.iload_n 1, 1) := by decide +kernel
theorem dX9_fraction_2 : decode cX9_fraction 2 = .ok (.invokevirtual 85, 3) := by decide +kernel
theorem dX9_fraction_5 : decode cX9_fraction 5 = .ok (.ifCond .eq 12, 3) := by decide +kernel
theorem dX9_fraction_8 : decode cX9_fraction 8 = .ok (.iload_n 2, 1) := by decide +kernel
theorem dX9_fraction_9 : decode cX9_fraction 9 = .ok (.iconst 0, 1) := by decide +kernel
theorem dX9_fraction_10 : decode cX9_fraction 10 = .ok (.iconst 2, 1) := by decide +kernel
theorem dX9_fraction_11 : decode cX9_fraction 11 = .ok (.invokestatic 75, 3) := by decide +kernel
theorem dX9_fraction_14 : decode cX9_fraction 14 = .ok (.ifCond .ne 9, 3) := by decide +kernel
theorem dX9_fraction_17 : decode cX9_fraction 17 = .ok (.aload_n 0, 1) := by decide +kernel
theorem dX9_fraction_18 : decode cX9_fraction 18 = .ok (.iconst (-1), 1) := by decide +kernel
theorem dX9_fraction_19 : decode cX9_fraction 19 = .ok (.invokevirtual 92, 3) := by decide +kernel
theorem dX9_fraction_22 : decode cX9_fraction 22 = .ok (.lreturn, 1) := by decide +kernel
theorem dX9_fraction_23 : decode cX9_fraction 23 = .ok (.iload_n 3, 1) := by decide +kernel
theorem dX9_fraction_24 : decode cX9_fraction 24 = .ok (.invokestatic 106, 3) := by decide +kernel
theorem dX9_fraction_27 : decode cX9_fraction 27 = .ok (.ifCond .eq 40, 3) := by decide +kernel
theorem dX9_fraction_30 : decode cX9_fraction 30 = .ok (.aload_n 0, 1) := by decide +kernel
theorem dX9_fraction_31 : decode cX9_fraction 31 = .ok (.getfield 7, 3) := by decide +kernel
theorem dX9_fraction_34 : decode cX9_fraction 34 = .ok (.bipush 50, 2) := by decide +kernel
theorem dX9_fraction_36 : decode cX9_fraction 36 = .ok (.bipush 12, 2) := by decide +kernel
theorem dX9_fraction_38 : decode cX9_fraction 38 = .ok (.iload_n 2, 1) := by decide +kernel
theorem dX9_fraction_39 : decode cX9_fraction 39 = .ok (.imul, 1) := by decide +kernel
theorem dX9_fraction_40 : decode cX9_fraction 40 = .ok (.iadd, 1) := by decide +kernel
theorem dX9_fraction_41 : decode cX9_fraction 41 = .ok (.iload_n 1, 1) := by decide +kernel
theorem dX9_fraction_42 : decode cX9_fraction 42 = .ok (.iadd, 1) := by decide +kernel
theorem dX9_fraction_43 : decode cX9_fraction 43 = .ok (.iaload, 1) := by decide +kernel
theorem dX9_fraction_44 : decode cX9_fraction 44 = .ok (.i2l, 1) := by decide +kernel
theorem dX9_fraction_45 : decode cX9_fraction 45 = .ok (.aload_n 0, 1) := by decide +kernel
theorem dX9_fraction_46 : decode cX9_fraction 46 = .ok (.getfield 7, 3) := by decide +kernel
theorem dX9_fraction_49 : decode cX9_fraction 49 = .ok (.bipush 86, 2) := by decide +kernel
theorem dX9_fraction_51 : decode cX9_fraction 51 = .ok (.bipush 12, 2) := by decide +kernel
theorem dX9_fraction_53 : decode cX9_fraction 53 = .ok (.iload_n 2, 1) := by decide +kernel
theorem dX9_fraction_54 : decode cX9_fraction 54 = .ok (.imul, 1) := by decide +kernel
theorem dX9_fraction_55 : decode cX9_fraction 55 = .ok (.iadd, 1) := by decide +kernel
theorem dX9_fraction_56 : decode cX9_fraction 56 = .ok (.iload_n 1, 1) := by decide +kernel
theorem dX9_fraction_57 : decode cX9_fraction 57 = .ok (.iadd, 1) := by decide +kernel
theorem dX9_fraction_58 : decode cX9_fraction 58 = .ok (.iaload, 1) := by decide +kernel
theorem dX9_fraction_59 : decode cX9_fraction 59 = .ok (.i2l, 1) := by decide +kernel
theorem dX9_fraction_60 : decode cX9_fraction 60 = .ok (.iload_n 3, 1) := by decide +kernel
theorem dX9_fraction_61 : decode cX9_fraction 61 = .ok (.invokestatic 109, 3) := by decide +kernel
theorem dX9_fraction_64 : decode cX9_fraction 64 = .ok (.goto 9, 3) := by decide +kernel
theorem dX9_fraction_67 : decode cX9_fraction 67 = .ok (.aload_n 0, 1) := by decide +kernel
theorem dX9_fraction_68 : decode cX9_fraction 68 = .ok (.bipush (-2), 2) := by decide +kernel
theorem dX9_fraction_70 : decode cX9_fraction 70 = .ok (.invokevirtual 92, 3) := by decide +kernel
theorem dX9_fraction_73 : decode cX9_fraction 73 = .ok (.lreturn, 1) := by decide +kernel
theorem dX9_order_0 : decode cX9_order 0 = .ok (.iload_n 1, 1) := by decide +kernel
theorem dX9_order_1 : decode cX9_order 1 = .ok (.iconst 0, 1) := by decide +kernel
theorem dX9_order_2 : decode cX9_order 2 = .ok (.iconst 5, 1) := by decide +kernel
theorem dX9_order_3 : decode cX9_order 3 = .ok (.invokestatic 75, 3) := by decide +kernel
theorem dX9_order_6 : decode cX9_order 6 = .ok (.ifCond .ne 10, 3) := by decide +kernel
theorem dX9_order_9 : decode cX9_order 9 = .ok (.aload_n 0, 1) := by decide +kernel
theorem dX9_order_10 : decode cX9_order 10 = .ok (.bipush (-2), 2) := by decide +kernel
theorem dX9_order_12 : decode cX9_order 12 = .ok (.invokevirtual 71, 3) := by decide +kernel
theorem dX9_order_15 : decode cX9_order 15 = .ok (.ireturn, 1) := by decide +kernel
theorem dX9_order_16 : decode cX9_order 16 = .ok (.aload_n 0, 1) := by decide +kernel
theorem dX9_order_17 : decode cX9_order 17 = .ok (.getfield 7, 3) := by decide +kernel
theorem dX9_order_20 : decode cX9_order 20 = .ok (.iconst 1, 1) := by decide +kernel
theorem dX9_order_21 : decode cX9_order 21 = .ok (.iaload, 1) := by decide +kernel
theorem dX9_order_22 : decode cX9_order 22 = .ok (.istore_n 2, 1) := by decide +kernel
theorem dX9_order_23 : decode cX9_order 23 = .ok (.aload_n 0, 1) := by decide +kernel
theorem dX9_order_24 : decode cX9_order 24 = .ok (.getfield 7, 3) := by decide +kernel
theorem dX9_order_27 : decode cX9_order 27 = .ok (.iconst 1, 1) := by decide +kernel
theorem dX9_order_28 : decode cX9_order 28 = .ok (.iload_n 1, 1) := by decide +kernel
theorem dX9_order_29 : decode cX9_order 29 = .ok (.iastore, 1) := by decide +kernel
theorem dX9_order_30 : decode cX9_order 30 = .ok (.iload_n 2, 1) := by decide +kernel
theorem dX9_order_31 : decode cX9_order 31 = .ok (.ireturn, 1) := by decide +kernel
theorem dX9_more_0 : decode cX9_more 0 = .ok (.aload_n 0, 1) := by decide +kernel
theorem dX9_more_1 : decode cX9_more 1 = .ok (.getfield 7, 3) := by decide +kernel
theorem dX9_more_4 : decode cX9_more 4 = .ok (.iload_n 1, 1) := by decide +kernel
theorem dX9_more_5 : decode cX9_more 5 = .ok (.iaload, 1) := by decide +kernel
theorem dX9_more_6 : decode cX9_more 6 = .ok (.aload_n 0, 1) := by decide +kernel
theorem dX9_more_7 : decode cX9_more 7 = .ok (.getfield 7, 3) := by decide +kernel
theorem dX9_more_10 : decode cX9_more 10 = .ok (.iload_n 2, 1) := by decide +kernel
theorem dX9_more_11 : decode cX9_more 11 = .ok (.iaload, 1) := by decide +kernel
theorem dX9_more_12 : decode cX9_more 12 = .ok (.isub, 1) := by decide +kernel
theorem dX9_more_13 : decode cX9_more 13 = .ok (.ireturn, 1) := by decide +kernel
theorem dX9_isAhead_0 : decode cX9_isAhead 0 = .ok (.aload_n 0, 1) := by decide +kernel
theorem dX9_isAhead_1 : decode cX9_isAhead 1 = .ok (.getfield 7, 3) := by decide +kernel
theorem dX9_isAhead_4 : decode cX9_isAhead 4 = .ok (.iconst 1, 1) := by decide +kernel
theorem dX9_isAhead_5 : decode cX9_isAhead 5 = .ok (.iaload, 1) := by decide +kernel
theorem dX9_isAhead_6 : decode cX9_isAhead 6 = .ok (.tableswitch 198 1 4 #[30, 77, 98, 119], 30) := by decide +kernel
theorem dX9_isAhead_36 : decode cX9_isAhead 36 = .ok (.aload_n 0, 1) := by decide +kernel
theorem dX9_isAhead_37 : decode cX9_isAhead 37 = .ok (.getfield 7, 3) := by decide +kernel
theorem dX9_isAhead_40 : decode cX9_isAhead 40 = .ok (.bipush 50, 2) := by decide +kernel
theorem dX9_isAhead_42 : decode cX9_isAhead 42 = .ok (.iload_n 1, 1) := by decide +kernel
theorem dX9_isAhead_43 : decode cX9_isAhead 43 = .ok (.iadd, 1) := by decide +kernel
theorem dX9_isAhead_44 : decode cX9_isAhead 44 = .ok (.iaload, 1) := by decide +kernel
theorem dX9_isAhead_45 : decode cX9_isAhead 45 = .ok (.aload_n 0, 1) := by decide +kernel
theorem dX9_isAhead_46 : decode cX9_isAhead 46 = .ok (.getfield 7, 3) := by decide +kernel
theorem dX9_isAhead_49 : decode cX9_isAhead 49 = .ok (.bipush 86, 2) := by decide +kernel
theorem dX9_isAhead_51 : decode cX9_isAhead 51 = .ok (.iload_n 2, 1) := by decide +kernel
theorem dX9_isAhead_52 : decode cX9_isAhead 52 = .ok (.iadd, 1) := by decide +kernel
theorem dX9_isAhead_53 : decode cX9_isAhead 53 = .ok (.iaload, 1) := by decide +kernel
theorem dX9_isAhead_54 : decode cX9_isAhead 54 = .ok (.imul, 1) := by decide +kernel
theorem dX9_isAhead_55 : decode cX9_isAhead 55 = .ok (.aload_n 0, 1) := by decide +kernel
theorem dX9_isAhead_56 : decode cX9_isAhead 56 = .ok (.getfield 7, 3) := by decide +kernel
theorem dX9_isAhead_59 : decode cX9_isAhead 59 = .ok (.bipush 50, 2) := by decide +kernel
theorem dX9_isAhead_61 : decode cX9_isAhead 61 = .ok (.iload_n 2, 1) := by decide +kernel
theorem dX9_isAhead_62 : decode cX9_isAhead 62 = .ok (.iadd, 1) := by decide +kernel
theorem dX9_isAhead_63 : decode cX9_isAhead 63 = .ok (.iaload, 1) := by decide +kernel
theorem dX9_isAhead_64 : decode cX9_isAhead 64 = .ok (.aload_n 0, 1) := by decide +kernel
theorem dX9_isAhead_65 : decode cX9_isAhead 65 = .ok (.getfield 7, 3) := by decide +kernel
theorem dX9_isAhead_68 : decode cX9_isAhead 68 = .ok (.bipush 86, 2) := by decide +kernel
theorem dX9_isAhead_70 : decode cX9_isAhead 70 = .ok (.iload_n 1, 1) := by decide +kernel
theorem dX9_isAhead_71 : decode cX9_isAhead 71 = .ok (.iadd, 1) := by decide +kernel
theorem dX9_isAhead_72 : decode cX9_isAhead 72 = .ok (.iaload, 1) := by decide +kernel
theorem dX9_isAhead_73 : decode cX9_isAhead 73 = .ok (.imul, 1) := by decide +kernel
theorem dX9_isAhead_74 : decode cX9_isAhead 74 = .ok (.if_icmp .le 7, 3) := by decide +kernel
theorem dX9_isAhead_77 : decode cX9_isAhead 77 = .ok (.iconst 1, 1) := by decide +kernel
theorem dX9_isAhead_78 : decode cX9_isAhead 78 = .ok (.goto 4, 3) := by decide +kernel
theorem dX9_isAhead_81 : decode cX9_isAhead 81 = .ok (.iconst 0, 1) := by decide +kernel
theorem dX9_isAhead_82 : decode cX9_isAhead 82 = .ok (.ireturn, 1) := by decide +kernel
theorem dX9_isAhead_83 : decode cX9_isAhead 83 = .ok (.aload_n 0, 1) := by decide +kernel
theorem dX9_isAhead_84 : decode cX9_isAhead 84 = .ok (.bipush 14, 2) := by decide +kernel
theorem dX9_isAhead_86 : decode cX9_isAhead 86 = .ok (.iload_n 1, 1) := by decide +kernel
theorem dX9_isAhead_87 : decode cX9_isAhead 87 = .ok (.iadd, 1) := by decide +kernel
theorem dX9_isAhead_88 : decode cX9_isAhead 88 = .ok (.bipush 14, 2) := by decide +kernel
theorem dX9_isAhead_90 : decode cX9_isAhead 90 = .ok (.iload_n 2, 1) := by decide +kernel
theorem dX9_isAhead_91 : decode cX9_isAhead 91 = .ok (.iadd, 1) := by decide +kernel
theorem dX9_isAhead_92 : decode cX9_isAhead 92 = .ok (.invokevirtual 113, 3) := by decide +kernel
theorem dX9_isAhead_95 : decode cX9_isAhead 95 = .ok (.ifCond .ge 7, 3) := by decide +kernel
theorem dX9_isAhead_98 : decode cX9_isAhead 98 = .ok (.iconst 1, 1) := by decide +kernel
theorem dX9_isAhead_99 : decode cX9_isAhead 99 = .ok (.goto 4, 3) := by decide +kernel
theorem dX9_isAhead_102 : decode cX9_isAhead 102 = .ok (.iconst 0, 1) := by decide +kernel
theorem dX9_isAhead_103 : decode cX9_isAhead 103 = .ok (.ireturn, 1) := by decide +kernel
theorem dX9_isAhead_104 : decode cX9_isAhead 104 = .ok (.aload_n 0, 1) := by decide +kernel
theorem dX9_isAhead_105 : decode cX9_isAhead 105 = .ok (.bipush 26, 2) := by decide +kernel
theorem dX9_isAhead_107 : decode cX9_isAhead 107 = .ok (.iload_n 1, 1) := by decide +kernel
theorem dX9_isAhead_108 : decode cX9_isAhead 108 = .ok (.iadd, 1) := by decide +kernel
theorem dX9_isAhead_109 : decode cX9_isAhead 109 = .ok (.bipush 26, 2) := by decide +kernel
theorem dX9_isAhead_111 : decode cX9_isAhead 111 = .ok (.iload_n 2, 1) := by decide +kernel
theorem dX9_isAhead_112 : decode cX9_isAhead 112 = .ok (.iadd, 1) := by decide +kernel
theorem dX9_isAhead_113 : decode cX9_isAhead 113 = .ok (.invokevirtual 113, 3) := by decide +kernel
theorem dX9_isAhead_116 : decode cX9_isAhead 116 = .ok (.ifCond .ge 7, 3) := by decide +kernel
theorem dX9_isAhead_119 : decode cX9_isAhead 119 = .ok (.iconst 1, 1) := by decide +kernel
theorem dX9_isAhead_120 : decode cX9_isAhead 120 = .ok (.goto 4, 3) := by decide +kernel
theorem dX9_isAhead_123 : decode cX9_isAhead 123 = .ok (.iconst 0, 1) := by decide +kernel
theorem dX9_isAhead_124 : decode cX9_isAhead 124 = .ok (.ireturn, 1) := by decide +kernel
theorem dX9_isAhead_125 : decode cX9_isAhead 125 = .ok (.aload_n 0, 1) := by decide +kernel
theorem dX9_isAhead_126 : decode cX9_isAhead 126 = .ok (.bipush 14, 2) := by decide +kernel
theorem dX9_isAhead_128 : decode cX9_isAhead 128 = .ok (.iload_n 1, 1) := by decide +kernel
theorem dX9_isAhead_129 : decode cX9_isAhead 129 = .ok (.iadd, 1) := by decide +kernel
theorem dX9_isAhead_130 : decode cX9_isAhead 130 = .ok (.bipush 14, 2) := by decide +kernel
theorem dX9_isAhead_132 : decode cX9_isAhead 132 = .ok (.iload_n 2, 1) := by decide +kernel
theorem dX9_isAhead_133 : decode cX9_isAhead 133 = .ok (.iadd, 1) := by decide +kernel
theorem dX9_isAhead_134 : decode cX9_isAhead 134 = .ok (.invokevirtual 113, 3) := by decide +kernel
theorem dX9_isAhead_137 : decode cX9_isAhead 137 = .ok (.istore_n 3, 1) := by decide +kernel
theorem dX9_isAhead_138 : decode cX9_isAhead 138 = .ok (.iload_n 3, 1) := by decide +kernel
theorem dX9_isAhead_139 : decode cX9_isAhead 139 = .ok (.ifCond .eq 13, 3) := by decide +kernel
theorem dX9_isAhead_142 : decode cX9_isAhead 142 = .ok (.iload_n 3, 1) := by decide +kernel
theorem dX9_isAhead_143 : decode cX9_isAhead 143 = .ok (.ifCond .ge 7, 3) := by decide +kernel
theorem dX9_isAhead_146 : decode cX9_isAhead 146 = .ok (.iconst 1, 1) := by decide +kernel
theorem dX9_isAhead_147 : decode cX9_isAhead 147 = .ok (.goto 4, 3) := by decide +kernel
theorem dX9_isAhead_150 : decode cX9_isAhead 150 = .ok (.iconst 0, 1) := by decide +kernel
theorem dX9_isAhead_151 : decode cX9_isAhead 151 = .ok (.ireturn, 1) := by decide +kernel
theorem dX9_isAhead_152 : decode cX9_isAhead 152 = .ok (.aload_n 0, 1) := by decide +kernel
theorem dX9_isAhead_153 : decode cX9_isAhead 153 = .ok (.bipush 26, 2) := by decide +kernel
theorem dX9_isAhead_155 : decode cX9_isAhead 155 = .ok (.iload_n 1, 1) := by decide +kernel
theorem dX9_isAhead_156 : decode cX9_isAhead 156 = .ok (.iadd, 1) := by decide +kernel
theorem dX9_isAhead_157 : decode cX9_isAhead 157 = .ok (.bipush 26, 2) := by decide +kernel
theorem dX9_isAhead_159 : decode cX9_isAhead 159 = .ok (.iload_n 2, 1) := by decide +kernel
theorem dX9_isAhead_160 : decode cX9_isAhead 160 = .ok (.iadd, 1) := by decide +kernel
theorem dX9_isAhead_161 : decode cX9_isAhead 161 = .ok (.invokevirtual 113, 3) := by decide +kernel
theorem dX9_isAhead_164 : decode cX9_isAhead 164 = .ok (.istore 4, 2) := by decide +kernel
theorem dX9_isAhead_166 : decode cX9_isAhead 166 = .ok (.aload_n 0, 1) := by decide +kernel
theorem dX9_isAhead_167 : decode cX9_isAhead 167 = .ok (.getfield 7, 3) := by decide +kernel
theorem dX9_isAhead_170 : decode cX9_isAhead 170 = .ok (.bipush 14, 2) := by decide +kernel
theorem dX9_isAhead_172 : decode cX9_isAhead 172 = .ok (.iload_n 1, 1) := by decide +kernel
theorem dX9_isAhead_173 : decode cX9_isAhead 173 = .ok (.iadd, 1) := by decide +kernel
theorem dX9_isAhead_174 : decode cX9_isAhead 174 = .ok (.iaload, 1) := by decide +kernel
theorem dX9_isAhead_175 : decode cX9_isAhead 175 = .ok (.iconst 2, 1) := by decide +kernel
theorem dX9_isAhead_176 : decode cX9_isAhead 176 = .ok (.irem, 1) := by decide +kernel
theorem dX9_isAhead_177 : decode cX9_isAhead 177 = .ok (.ifCond .ne 16, 3) := by decide +kernel
theorem dX9_isAhead_180 : decode cX9_isAhead 180 = .ok (.iload 4, 2) := by decide +kernel
theorem dX9_isAhead_182 : decode cX9_isAhead 182 = .ok (.ifCond .ge 7, 3) := by decide +kernel
theorem dX9_isAhead_185 : decode cX9_isAhead 185 = .ok (.iconst 1, 1) := by decide +kernel
theorem dX9_isAhead_186 : decode cX9_isAhead 186 = .ok (.goto 17, 3) := by decide +kernel
theorem dX9_isAhead_189 : decode cX9_isAhead 189 = .ok (.iconst 0, 1) := by decide +kernel
theorem dX9_isAhead_190 : decode cX9_isAhead 190 = .ok (.goto 13, 3) := by decide +kernel
theorem dX9_isAhead_193 : decode cX9_isAhead 193 = .ok (.iload 4, 2) := by decide +kernel
theorem dX9_isAhead_195 : decode cX9_isAhead 195 = .ok (.ifCond .le 7, 3) := by decide +kernel
theorem dX9_isAhead_198 : decode cX9_isAhead 198 = .ok (.iconst 1, 1) := by decide +kernel
theorem dX9_isAhead_199 : decode cX9_isAhead 199 = .ok (.goto 4, 3) := by decide +kernel
theorem dX9_isAhead_202 : decode cX9_isAhead 202 = .ok (.iconst 0, 1) := by decide +kernel
theorem dX9_isAhead_203 : decode cX9_isAhead 203 = .ok (.ireturn, 1) := by decide +kernel
theorem dX9_isAhead_204 : decode cX9_isAhead 204 = .ok (.iconst 0, 1) := by decide +kernel
theorem dX9_isAhead_205 : decode cX9_isAhead 205 = .ok (.ireturn, 1) := by decide +kernel
theorem dX9_inOrder_0 : decode cX9_inOrder 0 = .ok (.iconst 0, 1) := by decide +kernel
theorem dX9_inOrder_1 : decode cX9_inOrder 1 = .ok (.istore_n 1, 1) := by decide +kernel
theorem dX9_inOrder_2 : decode cX9_inOrder 2 = .ok (.iload_n 1, 1) := by decide +kernel
theorem dX9_inOrder_3 : decode cX9_inOrder 3 = .ok (.aload_n 0, 1) := by decide +kernel
theorem dX9_inOrder_4 : decode cX9_inOrder 4 = .ok (.getfield 7, 3) := by decide +kernel
theorem dX9_inOrder_7 : decode cX9_inOrder 7 = .ok (.iconst 0, 1) := by decide +kernel
theorem dX9_inOrder_8 : decode cX9_inOrder 8 = .ok (.iaload, 1) := by decide +kernel
theorem dX9_inOrder_9 : decode cX9_inOrder 9 = .ok (.if_icmp .ge 89, 3) := by decide +kernel
theorem dX9_inOrder_12 : decode cX9_inOrder 12 = .ok (.iload_n 1, 1) := by decide +kernel
theorem dX9_inOrder_13 : decode cX9_inOrder 13 = .ok (.istore_n 2, 1) := by decide +kernel
theorem dX9_inOrder_14 : decode cX9_inOrder 14 = .ok (.aload_n 0, 1) := by decide +kernel
theorem dX9_inOrder_15 : decode cX9_inOrder 15 = .ok (.getfield 7, 3) := by decide +kernel
theorem dX9_inOrder_18 : decode cX9_inOrder 18 = .ok (.iconst 1, 1) := by decide +kernel
theorem dX9_inOrder_19 : decode cX9_inOrder 19 = .ok (.iaload, 1) := by decide +kernel
theorem dX9_inOrder_20 : decode cX9_inOrder 20 = .ok (.iconst 5, 1) := by decide +kernel
theorem dX9_inOrder_21 : decode cX9_inOrder 21 = .ok (.if_icmp .eq 43, 3) := by decide +kernel
theorem dX9_inOrder_24 : decode cX9_inOrder 24 = .ok (.iload_n 2, 1) := by decide +kernel
theorem dX9_inOrder_25 : decode cX9_inOrder 25 = .ok (.ifCond .le 39, 3) := by decide +kernel
theorem dX9_inOrder_28 : decode cX9_inOrder 28 = .ok (.aload_n 0, 1) := by decide +kernel
theorem dX9_inOrder_29 : decode cX9_inOrder 29 = .ok (.iload_n 1, 1) := by decide +kernel
theorem dX9_inOrder_30 : decode cX9_inOrder 30 = .ok (.aload_n 0, 1) := by decide +kernel
theorem dX9_inOrder_31 : decode cX9_inOrder 31 = .ok (.getfield 22, 3) := by decide +kernel
theorem dX9_inOrder_34 : decode cX9_inOrder 34 = .ok (.iload_n 2, 1) := by decide +kernel
theorem dX9_inOrder_35 : decode cX9_inOrder 35 = .ok (.iconst 1, 1) := by decide +kernel
theorem dX9_inOrder_36 : decode cX9_inOrder 36 = .ok (.isub, 1) := by decide +kernel
theorem dX9_inOrder_37 : decode cX9_inOrder 37 = .ok (.iaload, 1) := by decide +kernel
theorem dX9_inOrder_38 : decode cX9_inOrder 38 = .ok (.invokevirtual 117, 3) := by decide +kernel
theorem dX9_inOrder_41 : decode cX9_inOrder 41 = .ok (.ifCond .eq 23, 3) := by decide +kernel
theorem dX9_inOrder_44 : decode cX9_inOrder 44 = .ok (.aload_n 0, 1) := by decide +kernel
theorem dX9_inOrder_45 : decode cX9_inOrder 45 = .ok (.getfield 22, 3) := by decide +kernel
theorem dX9_inOrder_48 : decode cX9_inOrder 48 = .ok (.iload_n 2, 1) := by decide +kernel
theorem dX9_inOrder_49 : decode cX9_inOrder 49 = .ok (.aload_n 0, 1) := by decide +kernel
theorem dX9_inOrder_50 : decode cX9_inOrder 50 = .ok (.getfield 22, 3) := by decide +kernel
theorem dX9_inOrder_53 : decode cX9_inOrder 53 = .ok (.iload_n 2, 1) := by decide +kernel
theorem dX9_inOrder_54 : decode cX9_inOrder 54 = .ok (.iconst 1, 1) := by decide +kernel
theorem dX9_inOrder_55 : decode cX9_inOrder 55 = .ok (.isub, 1) := by decide +kernel
theorem dX9_inOrder_56 : decode cX9_inOrder 56 = .ok (.iaload, 1) := by decide +kernel
theorem dX9_inOrder_57 : decode cX9_inOrder 57 = .ok (.iastore, 1) := by decide +kernel
theorem dX9_inOrder_58 : decode cX9_inOrder 58 = .ok (.iinc 2 (-1), 3) := by decide +kernel
theorem dX9_inOrder_61 : decode cX9_inOrder 61 = .ok (.goto (-47), 3) := by decide +kernel
theorem dX9_inOrder_64 : decode cX9_inOrder 64 = .ok (.aload_n 0, 1) := by decide +kernel
theorem dX9_inOrder_65 : decode cX9_inOrder 65 = .ok (.getfield 22, 3) := by decide +kernel
theorem dX9_inOrder_68 : decode cX9_inOrder 68 = .ok (.iload_n 2, 1) := by decide +kernel
theorem dX9_inOrder_69 : decode cX9_inOrder 69 = .ok (.aload_n 0, 1) := by decide +kernel
theorem dX9_inOrder_70 : decode cX9_inOrder 70 = .ok (.getfield 7, 3) := by decide +kernel
theorem dX9_inOrder_73 : decode cX9_inOrder 73 = .ok (.iconst 1, 1) := by decide +kernel
theorem dX9_inOrder_74 : decode cX9_inOrder 74 = .ok (.iaload, 1) := by decide +kernel
theorem dX9_inOrder_75 : decode cX9_inOrder 75 = .ok (.iconst 5, 1) := by decide +kernel
theorem dX9_inOrder_76 : decode cX9_inOrder 76 = .ok (.if_icmp .ne 14, 3) := by decide +kernel
theorem dX9_inOrder_79 : decode cX9_inOrder 79 = .ok (.aload_n 0, 1) := by decide +kernel
theorem dX9_inOrder_80 : decode cX9_inOrder 80 = .ok (.getfield 7, 3) := by decide +kernel
theorem dX9_inOrder_83 : decode cX9_inOrder 83 = .ok (.iconst 2, 1) := by decide +kernel
theorem dX9_inOrder_84 : decode cX9_inOrder 84 = .ok (.iload_n 1, 1) := by decide +kernel
theorem dX9_inOrder_85 : decode cX9_inOrder 85 = .ok (.iadd, 1) := by decide +kernel
theorem dX9_inOrder_86 : decode cX9_inOrder 86 = .ok (.iaload, 1) := by decide +kernel
theorem dX9_inOrder_87 : decode cX9_inOrder 87 = .ok (.goto 4, 3) := by decide +kernel
theorem dX9_inOrder_90 : decode cX9_inOrder 90 = .ok (.iload_n 1, 1) := by decide +kernel
theorem dX9_inOrder_91 : decode cX9_inOrder 91 = .ok (.iastore, 1) := by decide +kernel
theorem dX9_inOrder_92 : decode cX9_inOrder 92 = .ok (.iinc 1 1, 3) := by decide +kernel
theorem dX9_inOrder_95 : decode cX9_inOrder 95 = .ok (.goto (-93), 3) := by decide +kernel
theorem dX9_inOrder_98 : decode cX9_inOrder 98 = .ok (.return_, 1) := by decide +kernel
theorem dX9_place_0 : decode cX9_place 0 = .ok (.iconst 0, 1) := by decide +kernel
theorem dX9_place_1 : decode cX9_place 1 = .ok (.istore_n 2, 1) := by decide +kernel
theorem dX9_place_2 : decode cX9_place 2 = .ok (.aload_n 0, 1) := by decide +kernel
theorem dX9_place_3 : decode cX9_place 3 = .ok (.getfield 22, 3) := by decide +kernel
theorem dX9_place_6 : decode cX9_place 6 = .ok (.iload_n 2, 1) := by decide +kernel
theorem dX9_place_7 : decode cX9_place 7 = .ok (.iaload, 1) := by decide +kernel
theorem dX9_place_8 : decode cX9_place 8 = .ok (.iload_n 1, 1) := by decide +kernel
theorem dX9_place_9 : decode cX9_place 9 = .ok (.if_icmp .eq 9, 3) := by decide +kernel
theorem dX9_place_12 : decode cX9_place 12 = .ok (.iinc 2 1, 3) := by decide +kernel
theorem dX9_place_15 : decode cX9_place 15 = .ok (.goto (-13), 3) := by decide +kernel
theorem dX9_place_18 : decode cX9_place 18 = .ok (.iload_n 2, 1) := by decide +kernel
theorem dX9_place_19 : decode cX9_place 19 = .ok (.ireturn, 1) := by decide +kernel
theorem dX9_at_0 : decode cX9_at 0 = .ok (.aload_n 0, 1) := by decide +kernel
theorem dX9_at_1 : decode cX9_at 1 = .ok (.iload_n 1, 1) := by decide +kernel
theorem dX9_at_2 : decode cX9_at 2 = .ok (.invokevirtual 85, 3) := by decide +kernel
theorem dX9_at_5 : decode cX9_at 5 = .ok (.ifCond .ne 9, 3) := by decide +kernel
theorem dX9_at_8 : decode cX9_at 8 = .ok (.aload_n 0, 1) := by decide +kernel
theorem dX9_at_9 : decode cX9_at 9 = .ok (.iconst (-1), 1) := by decide +kernel
theorem dX9_at_10 : decode cX9_at 10 = .ok (.invokevirtual 71, 3) := by decide +kernel
theorem dX9_at_13 : decode cX9_at 13 = .ok (.ireturn, 1) := by decide +kernel
theorem dX9_at_14 : decode cX9_at 14 = .ok (.aload_n 0, 1) := by decide +kernel
theorem dX9_at_15 : decode cX9_at 15 = .ok (.invokevirtual 96, 3) := by decide +kernel
theorem dX9_at_18 : decode cX9_at 18 = .ok (.aload_n 0, 1) := by decide +kernel
theorem dX9_at_19 : decode cX9_at 19 = .ok (.getfield 22, 3) := by decide +kernel
theorem dX9_at_22 : decode cX9_at 22 = .ok (.iload_n 1, 1) := by decide +kernel
theorem dX9_at_23 : decode cX9_at 23 = .ok (.iaload, 1) := by decide +kernel
theorem dX9_at_24 : decode cX9_at 24 = .ok (.ireturn, 1) := by decide +kernel
theorem dX9_swaps_0 : decode cX9_swaps 0 = .ok (.aload_n 0, 1) := by decide +kernel
theorem dX9_swaps_1 : decode cX9_swaps 1 = .ok (.iload_n 1, 1) := by decide +kernel
theorem dX9_swaps_2 : decode cX9_swaps 2 = .ok (.invokevirtual 85, 3) := by decide +kernel
theorem dX9_swaps_5 : decode cX9_swaps 5 = .ok (.ifCond .eq 11, 3) := by decide +kernel
theorem dX9_swaps_8 : decode cX9_swaps 8 = .ok (.aload_n 0, 1) := by decide +kernel
theorem dX9_swaps_9 : decode cX9_swaps 9 = .ok (.iload_n 2, 1) := by decide +kernel
theorem dX9_swaps_10 : decode cX9_swaps 10 = .ok (.invokevirtual 85, 3) := by decide +kernel
theorem dX9_swaps_13 : decode cX9_swaps 13 = .ok (.ifCond .ne 5, 3) := by decide +kernel
theorem dX9_swaps_16 : decode cX9_swaps 16 = .ok (.iconst (-1), 1) := by decide +kernel
theorem dX9_swaps_17 : decode cX9_swaps 17 = .ok (.ireturn, 1) := by decide +kernel
theorem dX9_swaps_18 : decode cX9_swaps 18 = .ok (.iload_n 1, 1) := by decide +kernel
theorem dX9_swaps_19 : decode cX9_swaps 19 = .ok (.iload_n 2, 1) := by decide +kernel
theorem dX9_swaps_20 : decode cX9_swaps 20 = .ok (.if_icmp .ne 6, 3) := by decide +kernel
theorem dX9_swaps_23 : decode cX9_swaps 23 = .ok (.bipush (-5), 2) := by decide +kernel
theorem dX9_swaps_25 : decode cX9_swaps 25 = .ok (.ireturn, 1) := by decide +kernel
theorem dX9_swaps_26 : decode cX9_swaps 26 = .ok (.aload_n 0, 1) := by decide +kernel
theorem dX9_swaps_27 : decode cX9_swaps 27 = .ok (.getfield 7, 3) := by decide +kernel
theorem dX9_swaps_30 : decode cX9_swaps 30 = .ok (.iconst 2, 1) := by decide +kernel
theorem dX9_swaps_31 : decode cX9_swaps 31 = .ok (.iload_n 1, 1) := by decide +kernel
theorem dX9_swaps_32 : decode cX9_swaps 32 = .ok (.iadd, 1) := by decide +kernel
theorem dX9_swaps_33 : decode cX9_swaps 33 = .ok (.iaload, 1) := by decide +kernel
theorem dX9_swaps_34 : decode cX9_swaps 34 = .ok (.istore_n 3, 1) := by decide +kernel
theorem dX9_swaps_35 : decode cX9_swaps 35 = .ok (.aload_n 0, 1) := by decide +kernel
theorem dX9_swaps_36 : decode cX9_swaps 36 = .ok (.getfield 7, 3) := by decide +kernel
theorem dX9_swaps_39 : decode cX9_swaps 39 = .ok (.iconst 2, 1) := by decide +kernel
theorem dX9_swaps_40 : decode cX9_swaps 40 = .ok (.iload_n 1, 1) := by decide +kernel
theorem dX9_swaps_41 : decode cX9_swaps 41 = .ok (.iadd, 1) := by decide +kernel
theorem dX9_swaps_42 : decode cX9_swaps 42 = .ok (.aload_n 0, 1) := by decide +kernel
theorem dX9_swaps_43 : decode cX9_swaps 43 = .ok (.getfield 7, 3) := by decide +kernel
theorem dX9_swaps_46 : decode cX9_swaps 46 = .ok (.iconst 2, 1) := by decide +kernel
theorem dX9_swaps_47 : decode cX9_swaps 47 = .ok (.iload_n 2, 1) := by decide +kernel
theorem dX9_swaps_48 : decode cX9_swaps 48 = .ok (.iadd, 1) := by decide +kernel
theorem dX9_swaps_49 : decode cX9_swaps 49 = .ok (.iaload, 1) := by decide +kernel
theorem dX9_swaps_50 : decode cX9_swaps 50 = .ok (.iastore, 1) := by decide +kernel
theorem dX9_swaps_51 : decode cX9_swaps 51 = .ok (.aload_n 0, 1) := by decide +kernel
theorem dX9_swaps_52 : decode cX9_swaps 52 = .ok (.getfield 7, 3) := by decide +kernel
theorem dX9_swaps_55 : decode cX9_swaps 55 = .ok (.iconst 2, 1) := by decide +kernel
theorem dX9_swaps_56 : decode cX9_swaps 56 = .ok (.iload_n 2, 1) := by decide +kernel
theorem dX9_swaps_57 : decode cX9_swaps 57 = .ok (.iadd, 1) := by decide +kernel
theorem dX9_swaps_58 : decode cX9_swaps 58 = .ok (.iload_n 3, 1) := by decide +kernel
theorem dX9_swaps_59 : decode cX9_swaps 59 = .ok (.iastore, 1) := by decide +kernel
theorem dX9_swaps_60 : decode cX9_swaps 60 = .ok (.aload_n 0, 1) := by decide +kernel
theorem dX9_swaps_61 : decode cX9_swaps 61 = .ok (.getfield 7, 3) := by decide +kernel
theorem dX9_swaps_64 : decode cX9_swaps 64 = .ok (.iconst 2, 1) := by decide +kernel
theorem dX9_swaps_65 : decode cX9_swaps 65 = .ok (.iload_n 1, 1) := by decide +kernel
theorem dX9_swaps_66 : decode cX9_swaps 66 = .ok (.iadd, 1) := by decide +kernel
theorem dX9_swaps_67 : decode cX9_swaps 67 = .ok (.iaload, 1) := by decide +kernel
theorem dX9_swaps_68 : decode cX9_swaps 68 = .ok (.ireturn, 1) := by decide +kernel
theorem dX9_swap_0 : decode cX9_swap 0 = .ok (.aload_n 0, 1) := by decide +kernel
theorem dX9_swap_1 : decode cX9_swap 1 = .ok (.iload_n 1, 1) := by decide +kernel
theorem dX9_swap_2 : decode cX9_swap 2 = .ok (.iload_n 2, 1) := by decide +kernel
theorem dX9_swap_3 : decode cX9_swap 3 = .ok (.invokevirtual 121, 3) := by decide +kernel
theorem dX9_swap_6 : decode cX9_swap 6 = .ok (.istore_n 3, 1) := by decide +kernel
theorem dX9_swap_7 : decode cX9_swap 7 = .ok (.iload_n 3, 1) := by decide +kernel
theorem dX9_swap_8 : decode cX9_swap 8 = .ok (.ifCond .ge 11, 3) := by decide +kernel
theorem dX9_swap_11 : decode cX9_swap 11 = .ok (.aload_n 0, 1) := by decide +kernel
theorem dX9_swap_12 : decode cX9_swap 12 = .ok (.iload_n 3, 1) := by decide +kernel
theorem dX9_swap_13 : decode cX9_swap 13 = .ok (.invokevirtual 71, 3) := by decide +kernel
theorem dX9_swap_16 : decode cX9_swap 16 = .ok (.goto 4, 3) := by decide +kernel
theorem dX9_swap_19 : decode cX9_swap 19 = .ok (.iload_n 3, 1) := by decide +kernel
theorem dX9_swap_20 : decode cX9_swap 20 = .ok (.ireturn, 1) := by decide +kernel
theorem dX9_meets_0 : decode cX9_meets 0 = .ok (.iconst 0, 1) := by decide +kernel
theorem dX9_meets_1 : decode cX9_meets 1 = .ok (.istore_n 2, 1) := by decide +kernel
theorem dX9_meets_2 : decode cX9_meets 2 = .ok (.iload_n 2, 1) := by decide +kernel
theorem dX9_meets_3 : decode cX9_meets 3 = .ok (.aload_n 0, 1) := by decide +kernel
theorem dX9_meets_4 : decode cX9_meets 4 = .ok (.getfield 7, 3) := by decide +kernel
theorem dX9_meets_7 : decode cX9_meets 7 = .ok (.iconst 0, 1) := by decide +kernel
theorem dX9_meets_8 : decode cX9_meets 8 = .ok (.iaload, 1) := by decide +kernel
theorem dX9_meets_9 : decode cX9_meets 9 = .ok (.if_icmp .ge 55, 3) := by decide +kernel
theorem dX9_meets_12 : decode cX9_meets 12 = .ok (.aload_n 0, 1) := by decide +kernel
theorem dX9_meets_13 : decode cX9_meets 13 = .ok (.getfield 124, 3) := by decide +kernel
theorem dX9_meets_16 : decode cX9_meets 16 = .ok (.ldc2_w 128, 3) := by decide +kernel
theorem dX9_meets_19 : decode cX9_meets 19 = .ok (.lcmp, 1) := by decide +kernel
theorem dX9_meets_20 : decode cX9_meets 20 = .ok (.ifCond .gt 44, 3) := by decide +kernel
theorem dX9_meets_23 : decode cX9_meets 23 = .ok (.aload_n 0, 1) := by decide +kernel
theorem dX9_meets_24 : decode cX9_meets 24 = .ok (.getfield 7, 3) := by decide +kernel
theorem dX9_meets_27 : decode cX9_meets 27 = .ok (.bipush 86, 2) := by decide +kernel
theorem dX9_meets_29 : decode cX9_meets 29 = .ok (.bipush 12, 2) := by decide +kernel
theorem dX9_meets_31 : decode cX9_meets 31 = .ok (.iload_n 1, 1) := by decide +kernel
theorem dX9_meets_32 : decode cX9_meets 32 = .ok (.imul, 1) := by decide +kernel
theorem dX9_meets_33 : decode cX9_meets 33 = .ok (.iadd, 1) := by decide +kernel
theorem dX9_meets_34 : decode cX9_meets 34 = .ok (.iload_n 2, 1) := by decide +kernel
theorem dX9_meets_35 : decode cX9_meets 35 = .ok (.iadd, 1) := by decide +kernel
theorem dX9_meets_36 : decode cX9_meets 36 = .ok (.iaload, 1) := by decide +kernel
theorem dX9_meets_37 : decode cX9_meets 37 = .ok (.i2l, 1) := by decide +kernel
theorem dX9_meets_38 : decode cX9_meets 38 = .ok (.lstore_n 3, 1) := by decide +kernel
theorem dX9_meets_39 : decode cX9_meets 39 = .ok (.aload_n 0, 1) := by decide +kernel
theorem dX9_meets_40 : decode cX9_meets 40 = .ok (.aload_n 0, 1) := by decide +kernel
theorem dX9_meets_41 : decode cX9_meets 41 = .ok (.getfield 124, 3) := by decide +kernel
theorem dX9_meets_44 : decode cX9_meets 44 = .ok (.aload_n 0, 1) := by decide +kernel
theorem dX9_meets_45 : decode cX9_meets 45 = .ok (.getfield 124, 3) := by decide +kernel
theorem dX9_meets_48 : decode cX9_meets 48 = .ok (.lload_n 3, 1) := by decide +kernel
theorem dX9_meets_49 : decode cX9_meets 49 = .ok (.invokestatic 102, 3) := by decide +kernel
theorem dX9_meets_52 : decode cX9_meets 52 = .ok (.ldiv, 1) := by decide +kernel
theorem dX9_meets_53 : decode cX9_meets 53 = .ok (.lload_n 3, 1) := by decide +kernel
theorem dX9_meets_54 : decode cX9_meets 54 = .ok (.lmul, 1) := by decide +kernel
theorem dX9_meets_55 : decode cX9_meets 55 = .ok (.putfield 124, 3) := by decide +kernel
theorem dX9_meets_58 : decode cX9_meets 58 = .ok (.iinc 2 1, 3) := by decide +kernel
theorem dX9_meets_61 : decode cX9_meets 61 = .ok (.goto (-59), 3) := by decide +kernel
theorem dX9_meets_64 : decode cX9_meets 64 = .ok (.aload_n 0, 1) := by decide +kernel
theorem dX9_meets_65 : decode cX9_meets 65 = .ok (.getfield 124, 3) := by decide +kernel
theorem dX9_meets_68 : decode cX9_meets 68 = .ok (.ldc2_w 128, 3) := by decide +kernel
theorem dX9_meets_71 : decode cX9_meets 71 = .ok (.lcmp, 1) := by decide +kernel
theorem dX9_meets_72 : decode cX9_meets 72 = .ok (.ifCond .gt 7, 3) := by decide +kernel
theorem dX9_meets_75 : decode cX9_meets 75 = .ok (.iconst 1, 1) := by decide +kernel
theorem dX9_meets_76 : decode cX9_meets 76 = .ok (.goto 4, 3) := by decide +kernel
theorem dX9_meets_79 : decode cX9_meets 79 = .ok (.iconst 0, 1) := by decide +kernel
theorem dX9_meets_80 : decode cX9_meets 80 = .ok (.ireturn, 1) := by decide +kernel
theorem dX9_arcs_0 : decode cX9_arcs 0 = .ok (.aload_n 0, 1) := by decide +kernel
theorem dX9_arcs_1 : decode cX9_arcs 1 = .ok (.lconst 0, 1) := by decide +kernel
theorem dX9_arcs_2 : decode cX9_arcs 2 = .ok (.putfield 130, 3) := by decide +kernel
theorem dX9_arcs_5 : decode cX9_arcs 5 = .ok (.iconst 0, 1) := by decide +kernel
theorem dX9_arcs_6 : decode cX9_arcs 6 = .ok (.istore 5, 2) := by decide +kernel
theorem dX9_arcs_8 : decode cX9_arcs 8 = .ok (.iload 5, 2) := by decide +kernel
theorem dX9_arcs_10 : decode cX9_arcs 10 = .ok (.aload_n 0, 1) := by decide +kernel
theorem dX9_arcs_11 : decode cX9_arcs 11 = .ok (.getfield 7, 3) := by decide +kernel
theorem dX9_arcs_14 : decode cX9_arcs 14 = .ok (.iconst 0, 1) := by decide +kernel
theorem dX9_arcs_15 : decode cX9_arcs 15 = .ok (.iaload, 1) := by decide +kernel
theorem dX9_arcs_16 : decode cX9_arcs 16 = .ok (.if_icmp .ge 109, 3) := by decide +kernel
theorem dX9_arcs_19 : decode cX9_arcs 19 = .ok (.aload_n 0, 1) := by decide +kernel
theorem dX9_arcs_20 : decode cX9_arcs 20 = .ok (.getfield 22, 3) := by decide +kernel
theorem dX9_arcs_23 : decode cX9_arcs 23 = .ok (.iload 5, 2) := by decide +kernel
theorem dX9_arcs_25 : decode cX9_arcs 25 = .ok (.iaload, 1) := by decide +kernel
theorem dX9_arcs_26 : decode cX9_arcs 26 = .ok (.istore 6, 2) := by decide +kernel
theorem dX9_arcs_28 : decode cX9_arcs 28 = .ok (.aload_n 2, 1) := by decide +kernel
theorem dX9_arcs_29 : decode cX9_arcs 29 = .ok (.iload 6, 2) := by decide +kernel
theorem dX9_arcs_31 : decode cX9_arcs 31 = .ok (.lconst 0, 1) := by decide +kernel
theorem dX9_arcs_32 : decode cX9_arcs 32 = .ok (.lastore, 1) := by decide +kernel
theorem dX9_arcs_33 : decode cX9_arcs 33 = .ok (.aload_n 3, 1) := by decide +kernel
theorem dX9_arcs_34 : decode cX9_arcs 34 = .ok (.iload 6, 2) := by decide +kernel
theorem dX9_arcs_36 : decode cX9_arcs 36 = .ok (.lconst 0, 1) := by decide +kernel
theorem dX9_arcs_37 : decode cX9_arcs 37 = .ok (.lastore, 1) := by decide +kernel
theorem dX9_arcs_38 : decode cX9_arcs 38 = .ok (.iload 4, 2) := by decide +kernel
theorem dX9_arcs_40 : decode cX9_arcs 40 = .ok (.iload 6, 2) := by decide +kernel
theorem dX9_arcs_42 : decode cX9_arcs 42 = .ok (.ishr, 1) := by decide +kernel
theorem dX9_arcs_43 : decode cX9_arcs 43 = .ok (.iconst 1, 1) := by decide +kernel
theorem dX9_arcs_44 : decode cX9_arcs 44 = .ok (.iand, 1) := by decide +kernel
theorem dX9_arcs_45 : decode cX9_arcs 45 = .ok (.ifCond .ne 6, 3) := by decide +kernel
theorem dX9_arcs_48 : decode cX9_arcs 48 = .ok (.goto 71, 3) := by decide +kernel
theorem dX9_arcs_51 : decode cX9_arcs 51 = .ok (.aload_n 2, 1) := by decide +kernel
theorem dX9_arcs_52 : decode cX9_arcs 52 = .ok (.iload 6, 2) := by decide +kernel
theorem dX9_arcs_54 : decode cX9_arcs 54 = .ok (.aload_n 0, 1) := by decide +kernel
theorem dX9_arcs_55 : decode cX9_arcs 55 = .ok (.getfield 130, 3) := by decide +kernel
theorem dX9_arcs_58 : decode cX9_arcs 58 = .ok (.aload_n 0, 1) := by decide +kernel
theorem dX9_arcs_59 : decode cX9_arcs 59 = .ok (.getfield 124, 3) := by decide +kernel
theorem dX9_arcs_62 : decode cX9_arcs 62 = .ok (.lrem, 1) := by decide +kernel
theorem dX9_arcs_63 : decode cX9_arcs 63 = .ok (.lastore, 1) := by decide +kernel
theorem dX9_arcs_64 : decode cX9_arcs 64 = .ok (.aload_n 3, 1) := by decide +kernel
theorem dX9_arcs_65 : decode cX9_arcs 65 = .ok (.iload 6, 2) := by decide +kernel
theorem dX9_arcs_67 : decode cX9_arcs 67 = .ok (.aload_n 0, 1) := by decide +kernel
theorem dX9_arcs_68 : decode cX9_arcs 68 = .ok (.getfield 7, 3) := by decide +kernel
theorem dX9_arcs_71 : decode cX9_arcs 71 = .ok (.bipush 50, 2) := by decide +kernel
theorem dX9_arcs_73 : decode cX9_arcs 73 = .ok (.bipush 12, 2) := by decide +kernel
theorem dX9_arcs_75 : decode cX9_arcs 75 = .ok (.iload_n 1, 1) := by decide +kernel
theorem dX9_arcs_76 : decode cX9_arcs 76 = .ok (.imul, 1) := by decide +kernel
theorem dX9_arcs_77 : decode cX9_arcs 77 = .ok (.iadd, 1) := by decide +kernel
theorem dX9_arcs_78 : decode cX9_arcs 78 = .ok (.iload 6, 2) := by decide +kernel
theorem dX9_arcs_80 : decode cX9_arcs 80 = .ok (.iadd, 1) := by decide +kernel
theorem dX9_arcs_81 : decode cX9_arcs 81 = .ok (.iaload, 1) := by decide +kernel
theorem dX9_arcs_82 : decode cX9_arcs 82 = .ok (.i2l, 1) := by decide +kernel
theorem dX9_arcs_83 : decode cX9_arcs 83 = .ok (.aload_n 0, 1) := by decide +kernel
theorem dX9_arcs_84 : decode cX9_arcs 84 = .ok (.getfield 124, 3) := by decide +kernel
theorem dX9_arcs_87 : decode cX9_arcs 87 = .ok (.aload_n 0, 1) := by decide +kernel
theorem dX9_arcs_88 : decode cX9_arcs 88 = .ok (.getfield 7, 3) := by decide +kernel
theorem dX9_arcs_91 : decode cX9_arcs 91 = .ok (.bipush 86, 2) := by decide +kernel
theorem dX9_arcs_93 : decode cX9_arcs 93 = .ok (.bipush 12, 2) := by decide +kernel
theorem dX9_arcs_95 : decode cX9_arcs 95 = .ok (.iload_n 1, 1) := by decide +kernel
theorem dX9_arcs_96 : decode cX9_arcs 96 = .ok (.imul, 1) := by decide +kernel
theorem dX9_arcs_97 : decode cX9_arcs 97 = .ok (.iadd, 1) := by decide +kernel
theorem dX9_arcs_98 : decode cX9_arcs 98 = .ok (.iload 6, 2) := by decide +kernel
theorem dX9_arcs_100 : decode cX9_arcs 100 = .ok (.iadd, 1) := by decide +kernel
theorem dX9_arcs_101 : decode cX9_arcs 101 = .ok (.iaload, 1) := by decide +kernel
theorem dX9_arcs_102 : decode cX9_arcs 102 = .ok (.i2l, 1) := by decide +kernel
theorem dX9_arcs_103 : decode cX9_arcs 103 = .ok (.ldiv, 1) := by decide +kernel
theorem dX9_arcs_104 : decode cX9_arcs 104 = .ok (.lmul, 1) := by decide +kernel
theorem dX9_arcs_105 : decode cX9_arcs 105 = .ok (.lastore, 1) := by decide +kernel
theorem dX9_arcs_106 : decode cX9_arcs 106 = .ok (.aload_n 0, 1) := by decide +kernel
theorem dX9_arcs_107 : decode cX9_arcs 107 = .ok (.dup, 1) := by decide +kernel
theorem dX9_arcs_108 : decode cX9_arcs 108 = .ok (.getfield 130, 3) := by decide +kernel
theorem dX9_arcs_111 : decode cX9_arcs 111 = .ok (.aload_n 3, 1) := by decide +kernel
theorem dX9_arcs_112 : decode cX9_arcs 112 = .ok (.iload 6, 2) := by decide +kernel
theorem dX9_arcs_114 : decode cX9_arcs 114 = .ok (.laload, 1) := by decide +kernel
theorem dX9_arcs_115 : decode cX9_arcs 115 = .ok (.ladd, 1) := by decide +kernel
theorem dX9_arcs_116 : decode cX9_arcs 116 = .ok (.putfield 130, 3) := by decide +kernel
theorem dX9_arcs_119 : decode cX9_arcs 119 = .ok (.iinc 5 1, 3) := by decide +kernel
theorem dX9_arcs_122 : decode cX9_arcs 122 = .ok (.goto (-114), 3) := by decide +kernel
theorem dX9_arcs_125 : decode cX9_arcs 125 = .ok (.aload_n 0, 1) := by decide +kernel
theorem dX9_arcs_126 : decode cX9_arcs 126 = .ok (.getfield 130, 3) := by decide +kernel
theorem dX9_arcs_129 : decode cX9_arcs 129 = .ok (.ldc2_w 128, 3) := by decide +kernel
theorem dX9_arcs_132 : decode cX9_arcs 132 = .ok (.lcmp, 1) := by decide +kernel
theorem dX9_arcs_133 : decode cX9_arcs 133 = .ok (.ifCond .gt 7, 3) := by decide +kernel
theorem dX9_arcs_136 : decode cX9_arcs 136 = .ok (.iconst 1, 1) := by decide +kernel
theorem dX9_arcs_137 : decode cX9_arcs 137 = .ok (.goto 4, 3) := by decide +kernel
theorem dX9_arcs_140 : decode cX9_arcs 140 = .ok (.iconst 0, 1) := by decide +kernel
theorem dX9_arcs_141 : decode cX9_arcs 141 = .ok (.ireturn, 1) := by decide +kernel
theorem dX9_everyone_0 : decode cX9_everyone 0 = .ok (.iconst 1, 1) := by decide +kernel
theorem dX9_everyone_1 : decode cX9_everyone 1 = .ok (.aload_n 0, 1) := by decide +kernel
theorem dX9_everyone_2 : decode cX9_everyone 2 = .ok (.getfield 7, 3) := by decide +kernel
theorem dX9_everyone_5 : decode cX9_everyone 5 = .ok (.iconst 0, 1) := by decide +kernel
theorem dX9_everyone_6 : decode cX9_everyone 6 = .ok (.iaload, 1) := by decide +kernel
theorem dX9_everyone_7 : decode cX9_everyone 7 = .ok (.ishl, 1) := by decide +kernel
theorem dX9_everyone_8 : decode cX9_everyone 8 = .ok (.iconst 1, 1) := by decide +kernel
theorem dX9_everyone_9 : decode cX9_everyone 9 = .ok (.isub, 1) := by decide +kernel
theorem dX9_everyone_10 : decode cX9_everyone 10 = .ok (.ireturn, 1) := by decide +kernel
theorem dX9_lays_0 : decode cX9_lays 0 = .ok (.aload_n 0, 1) := by decide +kernel
theorem dX9_lays_1 : decode cX9_lays 1 = .ok (.invokevirtual 96, 3) := by decide +kernel
theorem dX9_lays_4 : decode cX9_lays 4 = .ok (.aload_n 0, 1) := by decide +kernel
theorem dX9_lays_5 : decode cX9_lays 5 = .ok (.lconst 1, 1) := by decide +kernel
theorem dX9_lays_6 : decode cX9_lays 6 = .ok (.putfield 124, 3) := by decide +kernel
theorem dX9_lays_9 : decode cX9_lays 9 = .ok (.aload_n 0, 1) := by decide +kernel
theorem dX9_lays_10 : decode cX9_lays 10 = .ok (.iload_n 1, 1) := by decide +kernel
theorem dX9_lays_11 : decode cX9_lays 11 = .ok (.iconst 2, 1) := by decide +kernel
theorem dX9_lays_12 : decode cX9_lays 12 = .ok (.if_icmp .ne 7, 3) := by decide +kernel
theorem dX9_lays_15 : decode cX9_lays 15 = .ok (.iconst 0, 1) := by decide +kernel
theorem dX9_lays_16 : decode cX9_lays 16 = .ok (.goto 4, 3) := by decide +kernel
theorem dX9_lays_19 : decode cX9_lays 19 = .ok (.iload_n 1, 1) := by decide +kernel
theorem dX9_lays_20 : decode cX9_lays 20 = .ok (.invokevirtual 133, 3) := by decide +kernel
theorem dX9_lays_23 : decode cX9_lays 23 = .ok (.ifCond .eq 16, 3) := by decide +kernel
theorem dX9_lays_26 : decode cX9_lays 26 = .ok (.iload_n 1, 1) := by decide +kernel
theorem dX9_lays_27 : decode cX9_lays 27 = .ok (.iconst 2, 1) := by decide +kernel
theorem dX9_lays_28 : decode cX9_lays 28 = .ok (.if_icmp .ne 13, 3) := by decide +kernel
theorem dX9_lays_31 : decode cX9_lays 31 = .ok (.aload_n 0, 1) := by decide +kernel
theorem dX9_lays_32 : decode cX9_lays 32 = .ok (.iconst 2, 1) := by decide +kernel
theorem dX9_lays_33 : decode cX9_lays 33 = .ok (.invokevirtual 133, 3) := by decide +kernel
theorem dX9_lays_36 : decode cX9_lays 36 = .ok (.ifCond .ne 5, 3) := by decide +kernel
theorem dX9_lays_39 : decode cX9_lays 39 = .ok (.iconst 0, 1) := by decide +kernel
theorem dX9_lays_40 : decode cX9_lays 40 = .ok (.ireturn, 1) := by decide +kernel
theorem dX9_lays_41 : decode cX9_lays 41 = .ok (.iload_n 1, 1) := by decide +kernel
theorem dX9_lays_42 : decode cX9_lays 42 = .ok (.iconst 2, 1) := by decide +kernel
theorem dX9_lays_43 : decode cX9_lays 43 = .ok (.if_icmp .ne 25, 3) := by decide +kernel
theorem dX9_lays_46 : decode cX9_lays 46 = .ok (.aload_n 0, 1) := by decide +kernel
theorem dX9_lays_47 : decode cX9_lays 47 = .ok (.iconst 2, 1) := by decide +kernel
theorem dX9_lays_48 : decode cX9_lays 48 = .ok (.aload_n 0, 1) := by decide +kernel
theorem dX9_lays_49 : decode cX9_lays 49 = .ok (.getfield 32, 3) := by decide +kernel
theorem dX9_lays_52 : decode cX9_lays 52 = .ok (.aload_n 0, 1) := by decide +kernel
theorem dX9_lays_53 : decode cX9_lays 53 = .ok (.getfield 35, 3) := by decide +kernel
theorem dX9_lays_56 : decode cX9_lays 56 = .ok (.aload_n 0, 1) := by decide +kernel
theorem dX9_lays_57 : decode cX9_lays 57 = .ok (.invokevirtual 136, 3) := by decide +kernel
theorem dX9_lays_60 : decode cX9_lays 60 = .ok (.invokevirtual 140, 3) := by decide +kernel
theorem dX9_lays_63 : decode cX9_lays 63 = .ok (.ifCond .ne 5, 3) := by decide +kernel
theorem dX9_lays_66 : decode cX9_lays 66 = .ok (.iconst 0, 1) := by decide +kernel
theorem dX9_lays_67 : decode cX9_lays 67 = .ok (.ireturn, 1) := by decide +kernel
theorem dX9_lays_68 : decode cX9_lays 68 = .ok (.aload_n 0, 1) := by decide +kernel
theorem dX9_lays_69 : decode cX9_lays 69 = .ok (.iload_n 1, 1) := by decide +kernel
theorem dX9_lays_70 : decode cX9_lays 70 = .ok (.iconst 2, 1) := by decide +kernel
theorem dX9_lays_71 : decode cX9_lays 71 = .ok (.if_icmp .ne 7, 3) := by decide +kernel
theorem dX9_lays_74 : decode cX9_lays 74 = .ok (.iconst 0, 1) := by decide +kernel
theorem dX9_lays_75 : decode cX9_lays 75 = .ok (.goto 4, 3) := by decide +kernel
theorem dX9_lays_78 : decode cX9_lays 78 = .ok (.iload_n 1, 1) := by decide +kernel
theorem dX9_lays_79 : decode cX9_lays 79 = .ok (.aload_n 0, 1) := by decide +kernel
theorem dX9_lays_80 : decode cX9_lays 80 = .ok (.getfield 25, 3) := by decide +kernel
theorem dX9_lays_83 : decode cX9_lays 83 = .ok (.aload_n 0, 1) := by decide +kernel
theorem dX9_lays_84 : decode cX9_lays 84 = .ok (.getfield 29, 3) := by decide +kernel
theorem dX9_lays_87 : decode cX9_lays 87 = .ok (.aload_n 0, 1) := by decide +kernel
theorem dX9_lays_88 : decode cX9_lays 88 = .ok (.invokevirtual 136, 3) := by decide +kernel
theorem dX9_lays_91 : decode cX9_lays 91 = .ok (.invokevirtual 140, 3) := by decide +kernel
theorem dX9_lays_94 : decode cX9_lays 94 = .ok (.ireturn, 1) := by decide +kernel
theorem dX9_common_0 : decode cX9_common 0 = .ok (.iload_n 1, 1) := by decide +kernel
theorem dX9_common_1 : decode cX9_common 1 = .ok (.iconst 0, 1) := by decide +kernel
theorem dX9_common_2 : decode cX9_common 2 = .ok (.iconst 2, 1) := by decide +kernel
theorem dX9_common_3 : decode cX9_common 3 = .ok (.invokestatic 75, 3) := by decide +kernel
theorem dX9_common_6 : decode cX9_common 6 = .ok (.ifCond .ne 9, 3) := by decide +kernel
theorem dX9_common_9 : decode cX9_common 9 = .ok (.aload_n 0, 1) := by decide +kernel
theorem dX9_common_10 : decode cX9_common 10 = .ok (.iconst (-1), 1) := by decide +kernel
theorem dX9_common_11 : decode cX9_common 11 = .ok (.invokevirtual 71, 3) := by decide +kernel
theorem dX9_common_14 : decode cX9_common 14 = .ok (.ireturn, 1) := by decide +kernel
theorem dX9_common_15 : decode cX9_common 15 = .ok (.aload_n 0, 1) := by decide +kernel
theorem dX9_common_16 : decode cX9_common 16 = .ok (.iload_n 1, 1) := by decide +kernel
theorem dX9_common_17 : decode cX9_common 17 = .ok (.invokevirtual 144, 3) := by decide +kernel
theorem dX9_common_20 : decode cX9_common 20 = .ok (.ifCond .eq 11, 3) := by decide +kernel
theorem dX9_common_23 : decode cX9_common 23 = .ok (.aload_n 0, 1) := by decide +kernel
theorem dX9_common_24 : decode cX9_common 24 = .ok (.getfield 124, 3) := by decide +kernel
theorem dX9_common_27 : decode cX9_common 27 = .ok (.l2i, 1) := by decide +kernel
theorem dX9_common_28 : decode cX9_common 28 = .ok (.goto 9, 3) := by decide +kernel
theorem dX9_common_31 : decode cX9_common 31 = .ok (.aload_n 0, 1) := by decide +kernel
theorem dX9_common_32 : decode cX9_common 32 = .ok (.bipush (-7), 2) := by decide +kernel
theorem dX9_common_34 : decode cX9_common 34 = .ok (.invokevirtual 71, 3) := by decide +kernel
theorem dX9_common_37 : decode cX9_common 37 = .ok (.ireturn, 1) := by decide +kernel
theorem dX9_parts_0 : decode cX9_parts 0 = .ok (.aload_n 0, 1) := by decide +kernel
theorem dX9_parts_1 : decode cX9_parts 1 = .ok (.iload_n 1, 1) := by decide +kernel
theorem dX9_parts_2 : decode cX9_parts 2 = .ok (.invokevirtual 85, 3) := by decide +kernel
theorem dX9_parts_5 : decode cX9_parts 5 = .ok (.ifCond .ne 9, 3) := by decide +kernel
theorem dX9_parts_8 : decode cX9_parts 8 = .ok (.aload_n 0, 1) := by decide +kernel
theorem dX9_parts_9 : decode cX9_parts 9 = .ok (.iconst (-1), 1) := by decide +kernel
theorem dX9_parts_10 : decode cX9_parts 10 = .ok (.invokevirtual 71, 3) := by decide +kernel
theorem dX9_parts_13 : decode cX9_parts 13 = .ok (.ireturn, 1) := by decide +kernel
theorem dX9_parts_14 : decode cX9_parts 14 = .ok (.aload_n 0, 1) := by decide +kernel
theorem dX9_parts_15 : decode cX9_parts 15 = .ok (.iconst 0, 1) := by decide +kernel
theorem dX9_parts_16 : decode cX9_parts 16 = .ok (.invokevirtual 144, 3) := by decide +kernel
theorem dX9_parts_19 : decode cX9_parts 19 = .ok (.ifCond .eq 13, 3) := by decide +kernel
theorem dX9_parts_22 : decode cX9_parts 22 = .ok (.aload_n 0, 1) := by decide +kernel
theorem dX9_parts_23 : decode cX9_parts 23 = .ok (.getfield 29, 3) := by decide +kernel
theorem dX9_parts_26 : decode cX9_parts 26 = .ok (.iload_n 1, 1) := by decide +kernel
theorem dX9_parts_27 : decode cX9_parts 27 = .ok (.laload, 1) := by decide +kernel
theorem dX9_parts_28 : decode cX9_parts 28 = .ok (.l2i, 1) := by decide +kernel
theorem dX9_parts_29 : decode cX9_parts 29 = .ok (.goto 9, 3) := by decide +kernel
theorem dX9_parts_32 : decode cX9_parts 32 = .ok (.aload_n 0, 1) := by decide +kernel
theorem dX9_parts_33 : decode cX9_parts 33 = .ok (.bipush (-7), 2) := by decide +kernel
theorem dX9_parts_35 : decode cX9_parts 35 = .ok (.invokevirtual 71, 3) := by decide +kernel
theorem dX9_parts_38 : decode cX9_parts 38 = .ok (.ireturn, 1) := by decide +kernel
theorem dX9_size_0 : decode cX9_size 0 = .ok (.iload_n 1, 1) := by decide +kernel
theorem dX9_size_1 : decode cX9_size 1 = .ok (.iconst 0, 1) := by decide +kernel
theorem dX9_size_2 : decode cX9_size 2 = .ok (.iconst 1, 1) := by decide +kernel
theorem dX9_size_3 : decode cX9_size 3 = .ok (.invokestatic 75, 3) := by decide +kernel
theorem dX9_size_6 : decode cX9_size 6 = .ok (.ifCond .ne 9, 3) := by decide +kernel
theorem dX9_size_9 : decode cX9_size 9 = .ok (.aload_n 0, 1) := by decide +kernel
theorem dX9_size_10 : decode cX9_size 10 = .ok (.iconst (-1), 1) := by decide +kernel
theorem dX9_size_11 : decode cX9_size 11 = .ok (.invokevirtual 71, 3) := by decide +kernel
theorem dX9_size_14 : decode cX9_size 14 = .ok (.ireturn, 1) := by decide +kernel
theorem dX9_size_15 : decode cX9_size 15 = .ok (.aload_n 0, 1) := by decide +kernel
theorem dX9_size_16 : decode cX9_size 16 = .ok (.iconst 0, 1) := by decide +kernel
theorem dX9_size_17 : decode cX9_size 17 = .ok (.invokevirtual 144, 3) := by decide +kernel
theorem dX9_size_20 : decode cX9_size 20 = .ok (.ifCond .ne 10, 3) := by decide +kernel
theorem dX9_size_23 : decode cX9_size 23 = .ok (.aload_n 0, 1) := by decide +kernel
theorem dX9_size_24 : decode cX9_size 24 = .ok (.bipush (-7), 2) := by decide +kernel
theorem dX9_size_26 : decode cX9_size 26 = .ok (.invokevirtual 71, 3) := by decide +kernel
theorem dX9_size_29 : decode cX9_size 29 = .ok (.ireturn, 1) := by decide +kernel
theorem dX9_size_30 : decode cX9_size 30 = .ok (.iload_n 1, 1) := by decide +kernel
theorem dX9_size_31 : decode cX9_size 31 = .ok (.ifCond .ne 10, 3) := by decide +kernel
theorem dX9_size_34 : decode cX9_size 34 = .ok (.aload_n 0, 1) := by decide +kernel
theorem dX9_size_35 : decode cX9_size 35 = .ok (.getfield 130, 3) := by decide +kernel
theorem dX9_size_38 : decode cX9_size 38 = .ok (.goto 14, 3) := by decide +kernel
theorem dX9_size_41 : decode cX9_size 41 = .ok (.aload_n 0, 1) := by decide +kernel
theorem dX9_size_42 : decode cX9_size 42 = .ok (.getfield 130, 3) := by decide +kernel
theorem dX9_size_45 : decode cX9_size 45 = .ok (.aload_n 0, 1) := by decide +kernel
theorem dX9_size_46 : decode cX9_size 46 = .ok (.getfield 124, 3) := by decide +kernel
theorem dX9_size_49 : decode cX9_size 49 = .ok (.ladd, 1) := by decide +kernel
theorem dX9_size_50 : decode cX9_size 50 = .ok (.lconst 1, 1) := by decide +kernel
theorem dX9_size_51 : decode cX9_size 51 = .ok (.lsub, 1) := by decide +kernel
theorem dX9_size_52 : decode cX9_size 52 = .ok (.aload_n 0, 1) := by decide +kernel
theorem dX9_size_53 : decode cX9_size 53 = .ok (.getfield 124, 3) := by decide +kernel
theorem dX9_size_56 : decode cX9_size 56 = .ok (.ldiv, 1) := by decide +kernel
theorem dX9_size_57 : decode cX9_size 57 = .ok (.l2i, 1) := by decide +kernel
theorem dX9_size_58 : decode cX9_size 58 = .ok (.ireturn, 1) := by decide +kernel
theorem dX9_isOn_0 : decode cX9_isOn 0 = .ok (.lload_n 0, 1) := by decide +kernel
theorem dX9_isOn_1 : decode cX9_isOn 1 = .ok (.lload 6, 2) := by decide +kernel
theorem dX9_isOn_3 : decode cX9_isOn 3 = .ok (.ladd, 1) := by decide +kernel
theorem dX9_isOn_4 : decode cX9_isOn 4 = .ok (.lload_n 2, 1) := by decide +kernel
theorem dX9_isOn_5 : decode cX9_isOn 5 = .ok (.lsub, 1) := by decide +kernel
theorem dX9_isOn_6 : decode cX9_isOn 6 = .ok (.lload 6, 2) := by decide +kernel
theorem dX9_isOn_8 : decode cX9_isOn 8 = .ok (.lrem, 1) := by decide +kernel
theorem dX9_isOn_9 : decode cX9_isOn 9 = .ok (.lload 4, 2) := by decide +kernel
theorem dX9_isOn_11 : decode cX9_isOn 11 = .ok (.lcmp, 1) := by decide +kernel
theorem dX9_isOn_12 : decode cX9_isOn 12 = .ok (.ifCond .ge 7, 3) := by decide +kernel
theorem dX9_isOn_15 : decode cX9_isOn 15 = .ok (.iconst 1, 1) := by decide +kernel
theorem dX9_isOn_16 : decode cX9_isOn 16 = .ok (.goto 4, 3) := by decide +kernel
theorem dX9_isOn_19 : decode cX9_isOn 19 = .ok (.iconst 0, 1) := by decide +kernel
theorem dX9_isOn_20 : decode cX9_isOn 20 = .ok (.ireturn, 1) := by decide +kernel
theorem dX9_chosenBy_0 : decode cX9_chosenBy 0 = .ok (.iconst 0, 1) := by decide +kernel
theorem dX9_chosenBy_1 : decode cX9_chosenBy 1 = .ok (.istore_n 3, 1) := by decide +kernel
theorem dX9_chosenBy_2 : decode cX9_chosenBy 2 = .ok (.iconst 0, 1) := by decide +kernel
theorem dX9_chosenBy_3 : decode cX9_chosenBy 3 = .ok (.istore 4, 2) := by decide +kernel
theorem dX9_chosenBy_5 : decode cX9_chosenBy 5 = .ok (.iload 4, 2) := by decide +kernel
theorem dX9_chosenBy_7 : decode cX9_chosenBy 7 = .ok (.aload_n 0, 1) := by decide +kernel
theorem dX9_chosenBy_8 : decode cX9_chosenBy 8 = .ok (.getfield 7, 3) := by decide +kernel
theorem dX9_chosenBy_11 : decode cX9_chosenBy 11 = .ok (.iconst 0, 1) := by decide +kernel
theorem dX9_chosenBy_12 : decode cX9_chosenBy 12 = .ok (.iaload, 1) := by decide +kernel
theorem dX9_chosenBy_13 : decode cX9_chosenBy 13 = .ok (.if_icmp .ge 41, 3) := by decide +kernel
theorem dX9_chosenBy_16 : decode cX9_chosenBy 16 = .ok (.lload_n 1, 1) := by decide +kernel
theorem dX9_chosenBy_17 : decode cX9_chosenBy 17 = .ok (.aload_n 0, 1) := by decide +kernel
theorem dX9_chosenBy_18 : decode cX9_chosenBy 18 = .ok (.getfield 25, 3) := by decide +kernel
theorem dX9_chosenBy_21 : decode cX9_chosenBy 21 = .ok (.iload 4, 2) := by decide +kernel
theorem dX9_chosenBy_23 : decode cX9_chosenBy 23 = .ok (.laload, 1) := by decide +kernel
theorem dX9_chosenBy_24 : decode cX9_chosenBy 24 = .ok (.aload_n 0, 1) := by decide +kernel
theorem dX9_chosenBy_25 : decode cX9_chosenBy 25 = .ok (.getfield 29, 3) := by decide +kernel
theorem dX9_chosenBy_28 : decode cX9_chosenBy 28 = .ok (.iload 4, 2) := by decide +kernel
theorem dX9_chosenBy_30 : decode cX9_chosenBy 30 = .ok (.laload, 1) := by decide +kernel
theorem dX9_chosenBy_31 : decode cX9_chosenBy 31 = .ok (.aload_n 0, 1) := by decide +kernel
theorem dX9_chosenBy_32 : decode cX9_chosenBy 32 = .ok (.getfield 124, 3) := by decide +kernel
theorem dX9_chosenBy_35 : decode cX9_chosenBy 35 = .ok (.invokestatic 147, 3) := by decide +kernel
theorem dX9_chosenBy_38 : decode cX9_chosenBy 38 = .ok (.ifCond .eq 10, 3) := by decide +kernel
theorem dX9_chosenBy_41 : decode cX9_chosenBy 41 = .ok (.iload_n 3, 1) := by decide +kernel
theorem dX9_chosenBy_42 : decode cX9_chosenBy 42 = .ok (.iconst 1, 1) := by decide +kernel
theorem dX9_chosenBy_43 : decode cX9_chosenBy 43 = .ok (.iload 4, 2) := by decide +kernel
theorem dX9_chosenBy_45 : decode cX9_chosenBy 45 = .ok (.ishl, 1) := by decide +kernel
theorem dX9_chosenBy_46 : decode cX9_chosenBy 46 = .ok (.ior, 1) := by decide +kernel
theorem dX9_chosenBy_47 : decode cX9_chosenBy 47 = .ok (.istore_n 3, 1) := by decide +kernel
theorem dX9_chosenBy_48 : decode cX9_chosenBy 48 = .ok (.iinc 4 1, 3) := by decide +kernel
theorem dX9_chosenBy_51 : decode cX9_chosenBy 51 = .ok (.goto (-46), 3) := by decide +kernel
theorem dX9_chosenBy_54 : decode cX9_chosenBy 54 = .ok (.iload_n 3, 1) := by decide +kernel
theorem dX9_chosenBy_55 : decode cX9_chosenBy 55 = .ok (.ireturn, 1) := by decide +kernel
theorem dX9_isPlace_0 : decode cX9_isPlace 0 = .ok (.iload_n 1, 1) := by decide +kernel
theorem dX9_isPlace_1 : decode cX9_isPlace 1 = .ok (.ifCond .lt 17, 3) := by decide +kernel
theorem dX9_isPlace_4 : decode cX9_isPlace 4 = .ok (.iload_n 1, 1) := by decide +kernel
theorem dX9_isPlace_5 : decode cX9_isPlace 5 = .ok (.i2l, 1) := by decide +kernel
theorem dX9_isPlace_6 : decode cX9_isPlace 6 = .ok (.aload_n 0, 1) := by decide +kernel
theorem dX9_isPlace_7 : decode cX9_isPlace 7 = .ok (.getfield 124, 3) := by decide +kernel
theorem dX9_isPlace_10 : decode cX9_isPlace 10 = .ok (.lcmp, 1) := by decide +kernel
theorem dX9_isPlace_11 : decode cX9_isPlace 11 = .ok (.ifCond .ge 7, 3) := by decide +kernel
theorem dX9_isPlace_14 : decode cX9_isPlace 14 = .ok (.iconst 1, 1) := by decide +kernel
theorem dX9_isPlace_15 : decode cX9_isPlace 15 = .ok (.goto 4, 3) := by decide +kernel
theorem dX9_isPlace_18 : decode cX9_isPlace 18 = .ok (.iconst 0, 1) := by decide +kernel
theorem dX9_isPlace_19 : decode cX9_isPlace 19 = .ok (.ireturn, 1) := by decide +kernel
theorem dX9_chosen_0 : decode cX9_chosen 0 = .ok (.aload_n 0, 1) := by decide +kernel
theorem dX9_chosen_1 : decode cX9_chosen 1 = .ok (.iconst 0, 1) := by decide +kernel
theorem dX9_chosen_2 : decode cX9_chosen 2 = .ok (.invokevirtual 144, 3) := by decide +kernel
theorem dX9_chosen_5 : decode cX9_chosen 5 = .ok (.ifCond .ne 10, 3) := by decide +kernel
theorem dX9_chosen_8 : decode cX9_chosen 8 = .ok (.aload_n 0, 1) := by decide +kernel
theorem dX9_chosen_9 : decode cX9_chosen 9 = .ok (.bipush (-7), 2) := by decide +kernel
theorem dX9_chosen_11 : decode cX9_chosen 11 = .ok (.invokevirtual 71, 3) := by decide +kernel
theorem dX9_chosen_14 : decode cX9_chosen 14 = .ok (.ireturn, 1) := by decide +kernel
theorem dX9_chosen_15 : decode cX9_chosen 15 = .ok (.aload_n 0, 1) := by decide +kernel
theorem dX9_chosen_16 : decode cX9_chosen 16 = .ok (.iload_n 1, 1) := by decide +kernel
theorem dX9_chosen_17 : decode cX9_chosen 17 = .ok (.invokevirtual 151, 3) := by decide +kernel
theorem dX9_chosen_20 : decode cX9_chosen 20 = .ok (.ifCond .eq 12, 3) := by decide +kernel
theorem dX9_chosen_23 : decode cX9_chosen 23 = .ok (.aload_n 0, 1) := by decide +kernel
theorem dX9_chosen_24 : decode cX9_chosen 24 = .ok (.iload_n 1, 1) := by decide +kernel
theorem dX9_chosen_25 : decode cX9_chosen 25 = .ok (.i2l, 1) := by decide +kernel
theorem dX9_chosen_26 : decode cX9_chosen 26 = .ok (.invokevirtual 154, 3) := by decide +kernel
theorem dX9_chosen_29 : decode cX9_chosen 29 = .ok (.goto 9, 3) := by decide +kernel
theorem dX9_chosen_32 : decode cX9_chosen 32 = .ok (.aload_n 0, 1) := by decide +kernel
theorem dX9_chosen_33 : decode cX9_chosen 33 = .ok (.bipush (-2), 2) := by decide +kernel
theorem dX9_chosen_35 : decode cX9_chosen 35 = .ok (.invokevirtual 71, 3) := by decide +kernel
theorem dX9_chosen_38 : decode cX9_chosen 38 = .ok (.ireturn, 1) := by decide +kernel
theorem dX9_cutsAt_0 : decode cX9_cutsAt 0 = .ok (.iload_n 1, 1) := by decide +kernel
theorem dX9_cutsAt_1 : decode cX9_cutsAt 1 = .ok (.istore 4, 2) := by decide +kernel
theorem dX9_cutsAt_3 : decode cX9_cutsAt 3 = .ok (.iload 4, 2) := by decide +kernel
theorem dX9_cutsAt_5 : decode cX9_cutsAt 5 = .ok (.ifCond .le 39, 3) := by decide +kernel
theorem dX9_cutsAt_8 : decode cX9_cutsAt 8 = .ok (.aload_n 0, 1) := by decide +kernel
theorem dX9_cutsAt_9 : decode cX9_cutsAt 9 = .ok (.getfield 47, 3) := by decide +kernel
theorem dX9_cutsAt_12 : decode cX9_cutsAt 12 = .ok (.iload 4, 2) := by decide +kernel
theorem dX9_cutsAt_14 : decode cX9_cutsAt 14 = .ok (.iconst 1, 1) := by decide +kernel
theorem dX9_cutsAt_15 : decode cX9_cutsAt 15 = .ok (.isub, 1) := by decide +kernel
theorem dX9_cutsAt_16 : decode cX9_cutsAt 16 = .ok (.laload, 1) := by decide +kernel
theorem dX9_cutsAt_17 : decode cX9_cutsAt 17 = .ok (.lload_n 2, 1) := by decide +kernel
theorem dX9_cutsAt_18 : decode cX9_cutsAt 18 = .ok (.lcmp, 1) := by decide +kernel
theorem dX9_cutsAt_19 : decode cX9_cutsAt 19 = .ok (.ifCond .le 25, 3) := by decide +kernel
theorem dX9_cutsAt_22 : decode cX9_cutsAt 22 = .ok (.aload_n 0, 1) := by decide +kernel
theorem dX9_cutsAt_23 : decode cX9_cutsAt 23 = .ok (.getfield 47, 3) := by decide +kernel
theorem dX9_cutsAt_26 : decode cX9_cutsAt 26 = .ok (.iload 4, 2) := by decide +kernel
theorem dX9_cutsAt_28 : decode cX9_cutsAt 28 = .ok (.aload_n 0, 1) := by decide +kernel
theorem dX9_cutsAt_29 : decode cX9_cutsAt 29 = .ok (.getfield 47, 3) := by decide +kernel
theorem dX9_cutsAt_32 : decode cX9_cutsAt 32 = .ok (.iload 4, 2) := by decide +kernel
theorem dX9_cutsAt_34 : decode cX9_cutsAt 34 = .ok (.iconst 1, 1) := by decide +kernel
theorem dX9_cutsAt_35 : decode cX9_cutsAt 35 = .ok (.isub, 1) := by decide +kernel
theorem dX9_cutsAt_36 : decode cX9_cutsAt 36 = .ok (.laload, 1) := by decide +kernel
theorem dX9_cutsAt_37 : decode cX9_cutsAt 37 = .ok (.lastore, 1) := by decide +kernel
theorem dX9_cutsAt_38 : decode cX9_cutsAt 38 = .ok (.iinc 4 (-1), 3) := by decide +kernel
theorem dX9_cutsAt_41 : decode cX9_cutsAt 41 = .ok (.goto (-38), 3) := by decide +kernel
theorem dX9_cutsAt_44 : decode cX9_cutsAt 44 = .ok (.aload_n 0, 1) := by decide +kernel
theorem dX9_cutsAt_45 : decode cX9_cutsAt 45 = .ok (.getfield 47, 3) := by decide +kernel
theorem dX9_cutsAt_48 : decode cX9_cutsAt 48 = .ok (.iload 4, 2) := by decide +kernel
theorem dX9_cutsAt_50 : decode cX9_cutsAt 50 = .ok (.lload_n 2, 1) := by decide +kernel
theorem dX9_cutsAt_51 : decode cX9_cutsAt 51 = .ok (.lastore, 1) := by decide +kernel
theorem dX9_cutsAt_52 : decode cX9_cutsAt 52 = .ok (.iload_n 1, 1) := by decide +kernel
theorem dX9_cutsAt_53 : decode cX9_cutsAt 53 = .ok (.iconst 1, 1) := by decide +kernel
theorem dX9_cutsAt_54 : decode cX9_cutsAt 54 = .ok (.iadd, 1) := by decide +kernel
theorem dX9_cutsAt_55 : decode cX9_cutsAt 55 = .ok (.ireturn, 1) := by decide +kernel
theorem dX9_goesRound_0 : decode cX9_goesRound 0 = .ok (.aload_n 0, 1) := by decide +kernel
theorem dX9_goesRound_1 : decode cX9_goesRound 1 = .ok (.iconst 0, 1) := by decide +kernel
theorem dX9_goesRound_2 : decode cX9_goesRound 2 = .ok (.lconst 0, 1) := by decide +kernel
theorem dX9_goesRound_3 : decode cX9_goesRound 3 = .ok (.invokevirtual 158, 3) := by decide +kernel
theorem dX9_goesRound_6 : decode cX9_goesRound 6 = .ok (.istore_n 1, 1) := by decide +kernel
theorem dX9_goesRound_7 : decode cX9_goesRound 7 = .ok (.iconst 0, 1) := by decide +kernel
theorem dX9_goesRound_8 : decode cX9_goesRound 8 = .ok (.istore_n 2, 1) := by decide +kernel
theorem dX9_goesRound_9 : decode cX9_goesRound 9 = .ok (.iload_n 2, 1) := by decide +kernel
theorem dX9_goesRound_10 : decode cX9_goesRound 10 = .ok (.aload_n 0, 1) := by decide +kernel
theorem dX9_goesRound_11 : decode cX9_goesRound 11 = .ok (.getfield 7, 3) := by decide +kernel
theorem dX9_goesRound_14 : decode cX9_goesRound 14 = .ok (.iconst 0, 1) := by decide +kernel
theorem dX9_goesRound_15 : decode cX9_goesRound 15 = .ok (.iaload, 1) := by decide +kernel
theorem dX9_goesRound_16 : decode cX9_goesRound 16 = .ok (.if_icmp .ge 45, 3) := by decide +kernel
theorem dX9_goesRound_19 : decode cX9_goesRound 19 = .ok (.aload_n 0, 1) := by decide +kernel
theorem dX9_goesRound_20 : decode cX9_goesRound 20 = .ok (.iload_n 1, 1) := by decide +kernel
theorem dX9_goesRound_21 : decode cX9_goesRound 21 = .ok (.aload_n 0, 1) := by decide +kernel
theorem dX9_goesRound_22 : decode cX9_goesRound 22 = .ok (.getfield 25, 3) := by decide +kernel
theorem dX9_goesRound_25 : decode cX9_goesRound 25 = .ok (.iload_n 2, 1) := by decide +kernel
theorem dX9_goesRound_26 : decode cX9_goesRound 26 = .ok (.laload, 1) := by decide +kernel
theorem dX9_goesRound_27 : decode cX9_goesRound 27 = .ok (.invokevirtual 158, 3) := by decide +kernel
theorem dX9_goesRound_30 : decode cX9_goesRound 30 = .ok (.istore_n 1, 1) := by decide +kernel
theorem dX9_goesRound_31 : decode cX9_goesRound 31 = .ok (.aload_n 0, 1) := by decide +kernel
theorem dX9_goesRound_32 : decode cX9_goesRound 32 = .ok (.iload_n 1, 1) := by decide +kernel
theorem dX9_goesRound_33 : decode cX9_goesRound 33 = .ok (.aload_n 0, 1) := by decide +kernel
theorem dX9_goesRound_34 : decode cX9_goesRound 34 = .ok (.getfield 25, 3) := by decide +kernel
theorem dX9_goesRound_37 : decode cX9_goesRound 37 = .ok (.iload_n 2, 1) := by decide +kernel
theorem dX9_goesRound_38 : decode cX9_goesRound 38 = .ok (.laload, 1) := by decide +kernel
theorem dX9_goesRound_39 : decode cX9_goesRound 39 = .ok (.aload_n 0, 1) := by decide +kernel
theorem dX9_goesRound_40 : decode cX9_goesRound 40 = .ok (.getfield 29, 3) := by decide +kernel
theorem dX9_goesRound_43 : decode cX9_goesRound 43 = .ok (.iload_n 2, 1) := by decide +kernel
theorem dX9_goesRound_44 : decode cX9_goesRound 44 = .ok (.laload, 1) := by decide +kernel
theorem dX9_goesRound_45 : decode cX9_goesRound 45 = .ok (.ladd, 1) := by decide +kernel
theorem dX9_goesRound_46 : decode cX9_goesRound 46 = .ok (.aload_n 0, 1) := by decide +kernel
theorem dX9_goesRound_47 : decode cX9_goesRound 47 = .ok (.getfield 124, 3) := by decide +kernel
theorem dX9_goesRound_50 : decode cX9_goesRound 50 = .ok (.lrem, 1) := by decide +kernel
theorem dX9_goesRound_51 : decode cX9_goesRound 51 = .ok (.invokevirtual 158, 3) := by decide +kernel
theorem dX9_goesRound_54 : decode cX9_goesRound 54 = .ok (.istore_n 1, 1) := by decide +kernel
theorem dX9_goesRound_55 : decode cX9_goesRound 55 = .ok (.iinc 2 1, 3) := by decide +kernel
theorem dX9_goesRound_58 : decode cX9_goesRound 58 = .ok (.goto (-49), 3) := by decide +kernel
theorem dX9_goesRound_61 : decode cX9_goesRound 61 = .ok (.aload_n 0, 1) := by decide +kernel
theorem dX9_goesRound_62 : decode cX9_goesRound 62 = .ok (.iconst 0, 1) := by decide +kernel
theorem dX9_goesRound_63 : decode cX9_goesRound 63 = .ok (.putfield 162, 3) := by decide +kernel
theorem dX9_goesRound_66 : decode cX9_goesRound 66 = .ok (.iconst 0, 1) := by decide +kernel
theorem dX9_goesRound_67 : decode cX9_goesRound 67 = .ok (.istore_n 2, 1) := by decide +kernel
theorem dX9_goesRound_68 : decode cX9_goesRound 68 = .ok (.iload_n 2, 1) := by decide +kernel
theorem dX9_goesRound_69 : decode cX9_goesRound 69 = .ok (.iload_n 1, 1) := by decide +kernel
theorem dX9_goesRound_70 : decode cX9_goesRound 70 = .ok (.if_icmp .ge 159, 3) := by decide +kernel
theorem dX9_goesRound_73 : decode cX9_goesRound 73 = .ok (.iload_n 2, 1) := by decide +kernel
theorem dX9_goesRound_74 : decode cX9_goesRound 74 = .ok (.iconst 1, 1) := by decide +kernel
theorem dX9_goesRound_75 : decode cX9_goesRound 75 = .ok (.iadd, 1) := by decide +kernel
theorem dX9_goesRound_76 : decode cX9_goesRound 76 = .ok (.iload_n 1, 1) := by decide +kernel
theorem dX9_goesRound_77 : decode cX9_goesRound 77 = .ok (.if_icmp .ge 14, 3) := by decide +kernel
theorem dX9_goesRound_80 : decode cX9_goesRound 80 = .ok (.aload_n 0, 1) := by decide +kernel
theorem dX9_goesRound_81 : decode cX9_goesRound 81 = .ok (.getfield 47, 3) := by decide +kernel
theorem dX9_goesRound_84 : decode cX9_goesRound 84 = .ok (.iload_n 2, 1) := by decide +kernel
theorem dX9_goesRound_85 : decode cX9_goesRound 85 = .ok (.iconst 1, 1) := by decide +kernel
theorem dX9_goesRound_86 : decode cX9_goesRound 86 = .ok (.iadd, 1) := by decide +kernel
theorem dX9_goesRound_87 : decode cX9_goesRound 87 = .ok (.laload, 1) := by decide +kernel
theorem dX9_goesRound_88 : decode cX9_goesRound 88 = .ok (.goto 7, 3) := by decide +kernel
theorem dX9_goesRound_91 : decode cX9_goesRound 91 = .ok (.aload_n 0, 1) := by decide +kernel
theorem dX9_goesRound_92 : decode cX9_goesRound 92 = .ok (.getfield 124, 3) := by decide +kernel
theorem dX9_goesRound_95 : decode cX9_goesRound 95 = .ok (.lstore_n 3, 1) := by decide +kernel
theorem dX9_goesRound_96 : decode cX9_goesRound 96 = .ok (.lload_n 3, 1) := by decide +kernel
theorem dX9_goesRound_97 : decode cX9_goesRound 97 = .ok (.aload_n 0, 1) := by decide +kernel
theorem dX9_goesRound_98 : decode cX9_goesRound 98 = .ok (.getfield 47, 3) := by decide +kernel
theorem dX9_goesRound_101 : decode cX9_goesRound 101 = .ok (.iload_n 2, 1) := by decide +kernel
theorem dX9_goesRound_102 : decode cX9_goesRound 102 = .ok (.laload, 1) := by decide +kernel
theorem dX9_goesRound_103 : decode cX9_goesRound 103 = .ok (.lcmp, 1) := by decide +kernel
theorem dX9_goesRound_104 : decode cX9_goesRound 104 = .ok (.ifCond .ne 6, 3) := by decide +kernel
theorem dX9_goesRound_107 : decode cX9_goesRound 107 = .ok (.goto 116, 3) := by decide +kernel
theorem dX9_goesRound_110 : decode cX9_goesRound 110 = .ok (.aload_n 0, 1) := by decide +kernel
theorem dX9_goesRound_111 : decode cX9_goesRound 111 = .ok (.aload_n 0, 1) := by decide +kernel
theorem dX9_goesRound_112 : decode cX9_goesRound 112 = .ok (.getfield 47, 3) := by decide +kernel
theorem dX9_goesRound_115 : decode cX9_goesRound 115 = .ok (.iload_n 2, 1) := by decide +kernel
theorem dX9_goesRound_116 : decode cX9_goesRound 116 = .ok (.laload, 1) := by decide +kernel
theorem dX9_goesRound_117 : decode cX9_goesRound 117 = .ok (.invokevirtual 154, 3) := by decide +kernel
theorem dX9_goesRound_120 : decode cX9_goesRound 120 = .ok (.istore 5, 2) := by decide +kernel
theorem dX9_goesRound_122 : decode cX9_goesRound 122 = .ok (.aload_n 0, 1) := by decide +kernel
theorem dX9_goesRound_123 : decode cX9_goesRound 123 = .ok (.getfield 162, 3) := by decide +kernel
theorem dX9_goesRound_126 : decode cX9_goesRound 126 = .ok (.ifCond .le 44, 3) := by decide +kernel
theorem dX9_goesRound_129 : decode cX9_goesRound 129 = .ok (.aload_n 0, 1) := by decide +kernel
theorem dX9_goesRound_130 : decode cX9_goesRound 130 = .ok (.getfield 44, 3) := by decide +kernel
theorem dX9_goesRound_133 : decode cX9_goesRound 133 = .ok (.aload_n 0, 1) := by decide +kernel
theorem dX9_goesRound_134 : decode cX9_goesRound 134 = .ok (.getfield 162, 3) := by decide +kernel
theorem dX9_goesRound_137 : decode cX9_goesRound 137 = .ok (.iconst 1, 1) := by decide +kernel
theorem dX9_goesRound_138 : decode cX9_goesRound 138 = .ok (.isub, 1) := by decide +kernel
theorem dX9_goesRound_139 : decode cX9_goesRound 139 = .ok (.iaload, 1) := by decide +kernel
theorem dX9_goesRound_140 : decode cX9_goesRound 140 = .ok (.iload 5, 2) := by decide +kernel
theorem dX9_goesRound_142 : decode cX9_goesRound 142 = .ok (.if_icmp .ne 28, 3) := by decide +kernel
theorem dX9_goesRound_145 : decode cX9_goesRound 145 = .ok (.aload_n 0, 1) := by decide +kernel
theorem dX9_goesRound_146 : decode cX9_goesRound 146 = .ok (.getfield 41, 3) := by decide +kernel
theorem dX9_goesRound_149 : decode cX9_goesRound 149 = .ok (.aload_n 0, 1) := by decide +kernel
theorem dX9_goesRound_150 : decode cX9_goesRound 150 = .ok (.getfield 162, 3) := by decide +kernel
theorem dX9_goesRound_153 : decode cX9_goesRound 153 = .ok (.iconst 1, 1) := by decide +kernel
theorem dX9_goesRound_154 : decode cX9_goesRound 154 = .ok (.isub, 1) := by decide +kernel
theorem dX9_goesRound_155 : decode cX9_goesRound 155 = .ok (.dup2, 1) := by decide +kernel
theorem dX9_goesRound_156 : decode cX9_goesRound 156 = .ok (.laload, 1) := by decide +kernel
theorem dX9_goesRound_157 : decode cX9_goesRound 157 = .ok (.lload_n 3, 1) := by decide +kernel
theorem dX9_goesRound_158 : decode cX9_goesRound 158 = .ok (.aload_n 0, 1) := by decide +kernel
theorem dX9_goesRound_159 : decode cX9_goesRound 159 = .ok (.getfield 47, 3) := by decide +kernel
theorem dX9_goesRound_162 : decode cX9_goesRound 162 = .ok (.iload_n 2, 1) := by decide +kernel
theorem dX9_goesRound_163 : decode cX9_goesRound 163 = .ok (.laload, 1) := by decide +kernel
theorem dX9_goesRound_164 : decode cX9_goesRound 164 = .ok (.lsub, 1) := by decide +kernel
theorem dX9_goesRound_165 : decode cX9_goesRound 165 = .ok (.ladd, 1) := by decide +kernel
theorem dX9_goesRound_166 : decode cX9_goesRound 166 = .ok (.lastore, 1) := by decide +kernel
theorem dX9_goesRound_167 : decode cX9_goesRound 167 = .ok (.goto 56, 3) := by decide +kernel
theorem dX9_goesRound_170 : decode cX9_goesRound 170 = .ok (.aload_n 0, 1) := by decide +kernel
theorem dX9_goesRound_171 : decode cX9_goesRound 171 = .ok (.getfield 38, 3) := by decide +kernel
theorem dX9_goesRound_174 : decode cX9_goesRound 174 = .ok (.aload_n 0, 1) := by decide +kernel
theorem dX9_goesRound_175 : decode cX9_goesRound 175 = .ok (.getfield 162, 3) := by decide +kernel
theorem dX9_goesRound_178 : decode cX9_goesRound 178 = .ok (.aload_n 0, 1) := by decide +kernel
theorem dX9_goesRound_179 : decode cX9_goesRound 179 = .ok (.getfield 47, 3) := by decide +kernel
theorem dX9_goesRound_182 : decode cX9_goesRound 182 = .ok (.iload_n 2, 1) := by decide +kernel
theorem dX9_goesRound_183 : decode cX9_goesRound 183 = .ok (.laload, 1) := by decide +kernel
theorem dX9_goesRound_184 : decode cX9_goesRound 184 = .ok (.lastore, 1) := by decide +kernel
theorem dX9_goesRound_185 : decode cX9_goesRound 185 = .ok (.aload_n 0, 1) := by decide +kernel
theorem dX9_goesRound_186 : decode cX9_goesRound 186 = .ok (.getfield 41, 3) := by decide +kernel
theorem dX9_goesRound_189 : decode cX9_goesRound 189 = .ok (.aload_n 0, 1) := by decide +kernel
theorem dX9_goesRound_190 : decode cX9_goesRound 190 = .ok (.getfield 162, 3) := by decide +kernel
theorem dX9_goesRound_193 : decode cX9_goesRound 193 = .ok (.lload_n 3, 1) := by decide +kernel
theorem dX9_goesRound_194 : decode cX9_goesRound 194 = .ok (.aload_n 0, 1) := by decide +kernel
theorem dX9_goesRound_195 : decode cX9_goesRound 195 = .ok (.getfield 47, 3) := by decide +kernel
theorem dX9_goesRound_198 : decode cX9_goesRound 198 = .ok (.iload_n 2, 1) := by decide +kernel
theorem dX9_goesRound_199 : decode cX9_goesRound 199 = .ok (.laload, 1) := by decide +kernel
theorem dX9_goesRound_200 : decode cX9_goesRound 200 = .ok (.lsub, 1) := by decide +kernel
theorem dX9_goesRound_201 : decode cX9_goesRound 201 = .ok (.lastore, 1) := by decide +kernel
theorem dX9_goesRound_202 : decode cX9_goesRound 202 = .ok (.aload_n 0, 1) := by decide +kernel
theorem dX9_goesRound_203 : decode cX9_goesRound 203 = .ok (.getfield 44, 3) := by decide +kernel
theorem dX9_goesRound_206 : decode cX9_goesRound 206 = .ok (.aload_n 0, 1) := by decide +kernel
theorem dX9_goesRound_207 : decode cX9_goesRound 207 = .ok (.getfield 162, 3) := by decide +kernel
theorem dX9_goesRound_210 : decode cX9_goesRound 210 = .ok (.iload 5, 2) := by decide +kernel
theorem dX9_goesRound_212 : decode cX9_goesRound 212 = .ok (.iastore, 1) := by decide +kernel
theorem dX9_goesRound_213 : decode cX9_goesRound 213 = .ok (.aload_n 0, 1) := by decide +kernel
theorem dX9_goesRound_214 : decode cX9_goesRound 214 = .ok (.dup, 1) := by decide +kernel
theorem dX9_goesRound_215 : decode cX9_goesRound 215 = .ok (.getfield 162, 3) := by decide +kernel
theorem dX9_goesRound_218 : decode cX9_goesRound 218 = .ok (.iconst 1, 1) := by decide +kernel
theorem dX9_goesRound_219 : decode cX9_goesRound 219 = .ok (.iadd, 1) := by decide +kernel
theorem dX9_goesRound_220 : decode cX9_goesRound 220 = .ok (.putfield 162, 3) := by decide +kernel
theorem dX9_goesRound_223 : decode cX9_goesRound 223 = .ok (.iinc 2 1, 3) := by decide +kernel
theorem dX9_goesRound_226 : decode cX9_goesRound 226 = .ok (.goto (-158), 3) := by decide +kernel
theorem dX9_goesRound_229 : decode cX9_goesRound 229 = .ok (.return_, 1) := by decide +kernel
theorem dX9_laysRuns_0 : decode cX9_laysRuns 0 = .ok (.aload_n 0, 1) := by decide +kernel
theorem dX9_laysRuns_1 : decode cX9_laysRuns 1 = .ok (.iconst 0, 1) := by decide +kernel
theorem dX9_laysRuns_2 : decode cX9_laysRuns 2 = .ok (.invokevirtual 144, 3) := by decide +kernel
theorem dX9_laysRuns_5 : decode cX9_laysRuns 5 = .ok (.ifCond .ne 5, 3) := by decide +kernel
theorem dX9_laysRuns_8 : decode cX9_laysRuns 8 = .ok (.iconst 0, 1) := by decide +kernel
theorem dX9_laysRuns_9 : decode cX9_laysRuns 9 = .ok (.ireturn, 1) := by decide +kernel
theorem dX9_laysRuns_10 : decode cX9_laysRuns 10 = .ok (.aload_n 0, 1) := by decide +kernel
theorem dX9_laysRuns_11 : decode cX9_laysRuns 11 = .ok (.invokevirtual 166, 3) := by decide +kernel
theorem dX9_laysRuns_14 : decode cX9_laysRuns 14 = .ok (.iconst 1, 1) := by decide +kernel
theorem dX9_laysRuns_15 : decode cX9_laysRuns 15 = .ok (.ireturn, 1) := by decide +kernel
theorem dX9_run_0 : decode cX9_run 0 = .ok (.iload_n 1, 1) := by decide +kernel
theorem dX9_run_1 : decode cX9_run 1 = .ok (.iconst (-1), 1) := by decide +kernel
theorem dX9_run_2 : decode cX9_run 2 = .ok (.if_icmp .lt 12, 3) := by decide +kernel
theorem dX9_run_5 : decode cX9_run 5 = .ok (.iload_n 2, 1) := by decide +kernel
theorem dX9_run_6 : decode cX9_run 6 = .ok (.iconst 0, 1) := by decide +kernel
theorem dX9_run_7 : decode cX9_run 7 = .ok (.iconst 2, 1) := by decide +kernel
theorem dX9_run_8 : decode cX9_run 8 = .ok (.invokestatic 75, 3) := by decide +kernel
theorem dX9_run_11 : decode cX9_run 11 = .ok (.ifCond .ne 9, 3) := by decide +kernel
theorem dX9_run_14 : decode cX9_run 14 = .ok (.aload_n 0, 1) := by decide +kernel
theorem dX9_run_15 : decode cX9_run 15 = .ok (.iconst (-1), 1) := by decide +kernel
theorem dX9_run_16 : decode cX9_run 16 = .ok (.invokevirtual 71, 3) := by decide +kernel
theorem dX9_run_19 : decode cX9_run 19 = .ok (.ireturn, 1) := by decide +kernel
theorem dX9_run_20 : decode cX9_run 20 = .ok (.aload_n 0, 1) := by decide +kernel
theorem dX9_run_21 : decode cX9_run 21 = .ok (.invokevirtual 169, 3) := by decide +kernel
theorem dX9_run_24 : decode cX9_run 24 = .ok (.ifCond .ne 10, 3) := by decide +kernel
theorem dX9_run_27 : decode cX9_run 27 = .ok (.aload_n 0, 1) := by decide +kernel
theorem dX9_run_28 : decode cX9_run 28 = .ok (.bipush (-7), 2) := by decide +kernel
theorem dX9_run_30 : decode cX9_run 30 = .ok (.invokevirtual 71, 3) := by decide +kernel
theorem dX9_run_33 : decode cX9_run 33 = .ok (.ireturn, 1) := by decide +kernel
theorem dX9_run_34 : decode cX9_run 34 = .ok (.iload_n 1, 1) := by decide +kernel
theorem dX9_run_35 : decode cX9_run 35 = .ok (.iconst (-1), 1) := by decide +kernel
theorem dX9_run_36 : decode cX9_run 36 = .ok (.if_icmp .ne 8, 3) := by decide +kernel
theorem dX9_run_39 : decode cX9_run 39 = .ok (.aload_n 0, 1) := by decide +kernel
theorem dX9_run_40 : decode cX9_run 40 = .ok (.getfield 162, 3) := by decide +kernel
theorem dX9_run_43 : decode cX9_run 43 = .ok (.ireturn, 1) := by decide +kernel
theorem dX9_run_44 : decode cX9_run 44 = .ok (.iload_n 1, 1) := by decide +kernel
theorem dX9_run_45 : decode cX9_run 45 = .ok (.aload_n 0, 1) := by decide +kernel
theorem dX9_run_46 : decode cX9_run 46 = .ok (.getfield 162, 3) := by decide +kernel
theorem dX9_run_49 : decode cX9_run 49 = .ok (.if_icmp .lt 10, 3) := by decide +kernel
theorem dX9_run_52 : decode cX9_run 52 = .ok (.aload_n 0, 1) := by decide +kernel
theorem dX9_run_53 : decode cX9_run 53 = .ok (.bipush (-5), 2) := by decide +kernel
theorem dX9_run_55 : decode cX9_run 55 = .ok (.invokevirtual 71, 3) := by decide +kernel
theorem dX9_run_58 : decode cX9_run 58 = .ok (.ireturn, 1) := by decide +kernel
theorem dX9_run_59 : decode cX9_run 59 = .ok (.iload_n 2, 1) := by decide +kernel
theorem dX9_run_60 : decode cX9_run 60 = .ok (.ifCond .ne 13, 3) := by decide +kernel
theorem dX9_run_63 : decode cX9_run 63 = .ok (.aload_n 0, 1) := by decide +kernel
theorem dX9_run_64 : decode cX9_run 64 = .ok (.getfield 38, 3) := by decide +kernel
theorem dX9_run_67 : decode cX9_run 67 = .ok (.iload_n 1, 1) := by decide +kernel
theorem dX9_run_68 : decode cX9_run 68 = .ok (.laload, 1) := by decide +kernel
theorem dX9_run_69 : decode cX9_run 69 = .ok (.l2i, 1) := by decide +kernel
theorem dX9_run_70 : decode cX9_run 70 = .ok (.goto 24, 3) := by decide +kernel
theorem dX9_run_73 : decode cX9_run 73 = .ok (.iload_n 2, 1) := by decide +kernel
theorem dX9_run_74 : decode cX9_run 74 = .ok (.iconst 1, 1) := by decide +kernel
theorem dX9_run_75 : decode cX9_run 75 = .ok (.if_icmp .ne 13, 3) := by decide +kernel
theorem dX9_run_78 : decode cX9_run 78 = .ok (.aload_n 0, 1) := by decide +kernel
theorem dX9_run_79 : decode cX9_run 79 = .ok (.getfield 41, 3) := by decide +kernel
theorem dX9_run_82 : decode cX9_run 82 = .ok (.iload_n 1, 1) := by decide +kernel
theorem dX9_run_83 : decode cX9_run 83 = .ok (.laload, 1) := by decide +kernel
theorem dX9_run_84 : decode cX9_run 84 = .ok (.l2i, 1) := by decide +kernel
theorem dX9_run_85 : decode cX9_run 85 = .ok (.goto 9, 3) := by decide +kernel
theorem dX9_run_88 : decode cX9_run 88 = .ok (.aload_n 0, 1) := by decide +kernel
theorem dX9_run_89 : decode cX9_run 89 = .ok (.getfield 44, 3) := by decide +kernel
theorem dX9_run_92 : decode cX9_run 92 = .ok (.iload_n 1, 1) := by decide +kernel
theorem dX9_run_93 : decode cX9_run 93 = .ok (.iaload, 1) := by decide +kernel
theorem dX9_run_94 : decode cX9_run 94 = .ok (.ireturn, 1) := by decide +kernel
theorem dX9_has_0 : decode cX9_has 0 = .ok (.iload_n 1, 1) := by decide +kernel
theorem dX9_has_1 : decode cX9_has 1 = .ok (.iload_n 2, 1) := by decide +kernel
theorem dX9_has_2 : decode cX9_has 2 = .ok (.ishr, 1) := by decide +kernel
theorem dX9_has_3 : decode cX9_has 3 = .ok (.iconst 1, 1) := by decide +kernel
theorem dX9_has_4 : decode cX9_has 4 = .ok (.iand, 1) := by decide +kernel
theorem dX9_has_5 : decode cX9_has 5 = .ok (.iconst 1, 1) := by decide +kernel
theorem dX9_has_6 : decode cX9_has 6 = .ok (.if_icmp .ne 7, 3) := by decide +kernel
theorem dX9_has_9 : decode cX9_has 9 = .ok (.iconst 1, 1) := by decide +kernel
theorem dX9_has_10 : decode cX9_has 10 = .ok (.goto 4, 3) := by decide +kernel
theorem dX9_has_13 : decode cX9_has 13 = .ok (.iconst 0, 1) := by decide +kernel
theorem dX9_has_14 : decode cX9_has 14 = .ok (.ireturn, 1) := by decide +kernel
theorem dX9_joint_0 : decode cX9_joint 0 = .ok (.aload_n 0, 1) := by decide +kernel
theorem dX9_joint_1 : decode cX9_joint 1 = .ok (.iload_n 1, 1) := by decide +kernel
theorem dX9_joint_2 : decode cX9_joint 2 = .ok (.invokevirtual 85, 3) := by decide +kernel
theorem dX9_joint_5 : decode cX9_joint 5 = .ok (.ifCond .eq 11, 3) := by decide +kernel
theorem dX9_joint_8 : decode cX9_joint 8 = .ok (.aload_n 0, 1) := by decide +kernel
theorem dX9_joint_9 : decode cX9_joint 9 = .ok (.iload_n 2, 1) := by decide +kernel
theorem dX9_joint_10 : decode cX9_joint 10 = .ok (.invokevirtual 85, 3) := by decide +kernel
theorem dX9_joint_13 : decode cX9_joint 13 = .ok (.ifCond .ne 9, 3) := by decide +kernel
theorem dX9_joint_16 : decode cX9_joint 16 = .ok (.aload_n 0, 1) := by decide +kernel
theorem dX9_joint_17 : decode cX9_joint 17 = .ok (.iconst (-1), 1) := by decide +kernel
theorem dX9_joint_18 : decode cX9_joint 18 = .ok (.invokevirtual 92, 3) := by decide +kernel
theorem dX9_joint_21 : decode cX9_joint 21 = .ok (.lreturn, 1) := by decide +kernel
theorem dX9_joint_22 : decode cX9_joint 22 = .ok (.iload_n 3, 1) := by decide +kernel
theorem dX9_joint_23 : decode cX9_joint 23 = .ok (.invokestatic 106, 3) := by decide +kernel
theorem dX9_joint_26 : decode cX9_joint 26 = .ok (.ifCond .ne 10, 3) := by decide +kernel
theorem dX9_joint_29 : decode cX9_joint 29 = .ok (.aload_n 0, 1) := by decide +kernel
theorem dX9_joint_30 : decode cX9_joint 30 = .ok (.bipush (-2), 2) := by decide +kernel
theorem dX9_joint_32 : decode cX9_joint 32 = .ok (.invokevirtual 92, 3) := by decide +kernel
theorem dX9_joint_35 : decode cX9_joint 35 = .ok (.lreturn, 1) := by decide +kernel
theorem dX9_joint_36 : decode cX9_joint 36 = .ok (.aload_n 0, 1) := by decide +kernel
theorem dX9_joint_37 : decode cX9_joint 37 = .ok (.invokevirtual 169, 3) := by decide +kernel
theorem dX9_joint_40 : decode cX9_joint 40 = .ok (.ifCond .ne 10, 3) := by decide +kernel
theorem dX9_joint_43 : decode cX9_joint 43 = .ok (.aload_n 0, 1) := by decide +kernel
theorem dX9_joint_44 : decode cX9_joint 44 = .ok (.bipush (-7), 2) := by decide +kernel
theorem dX9_joint_46 : decode cX9_joint 46 = .ok (.invokevirtual 92, 3) := by decide +kernel
theorem dX9_joint_49 : decode cX9_joint 49 = .ok (.lreturn, 1) := by decide +kernel
theorem dX9_joint_50 : decode cX9_joint 50 = .ok (.lconst 0, 1) := by decide +kernel
theorem dX9_joint_51 : decode cX9_joint 51 = .ok (.lstore 4, 2) := by decide +kernel
theorem dX9_joint_53 : decode cX9_joint 53 = .ok (.iconst 0, 1) := by decide +kernel
theorem dX9_joint_54 : decode cX9_joint 54 = .ok (.istore 6, 2) := by decide +kernel
theorem dX9_joint_56 : decode cX9_joint 56 = .ok (.iload 6, 2) := by decide +kernel
theorem dX9_joint_58 : decode cX9_joint 58 = .ok (.aload_n 0, 1) := by decide +kernel
theorem dX9_joint_59 : decode cX9_joint 59 = .ok (.getfield 162, 3) := by decide +kernel
theorem dX9_joint_62 : decode cX9_joint 62 = .ok (.if_icmp .ge 51, 3) := by decide +kernel
theorem dX9_joint_65 : decode cX9_joint 65 = .ok (.aload_n 0, 1) := by decide +kernel
theorem dX9_joint_66 : decode cX9_joint 66 = .ok (.aload_n 0, 1) := by decide +kernel
theorem dX9_joint_67 : decode cX9_joint 67 = .ok (.getfield 44, 3) := by decide +kernel
theorem dX9_joint_70 : decode cX9_joint 70 = .ok (.iload 6, 2) := by decide +kernel
theorem dX9_joint_72 : decode cX9_joint 72 = .ok (.iaload, 1) := by decide +kernel
theorem dX9_joint_73 : decode cX9_joint 73 = .ok (.iload_n 1, 1) := by decide +kernel
theorem dX9_joint_74 : decode cX9_joint 74 = .ok (.invokevirtual 173, 3) := by decide +kernel
theorem dX9_joint_77 : decode cX9_joint 77 = .ok (.ifCond .eq 30, 3) := by decide +kernel
theorem dX9_joint_80 : decode cX9_joint 80 = .ok (.aload_n 0, 1) := by decide +kernel
theorem dX9_joint_81 : decode cX9_joint 81 = .ok (.aload_n 0, 1) := by decide +kernel
theorem dX9_joint_82 : decode cX9_joint 82 = .ok (.getfield 44, 3) := by decide +kernel
theorem dX9_joint_85 : decode cX9_joint 85 = .ok (.iload 6, 2) := by decide +kernel
theorem dX9_joint_87 : decode cX9_joint 87 = .ok (.iaload, 1) := by decide +kernel
theorem dX9_joint_88 : decode cX9_joint 88 = .ok (.iload_n 2, 1) := by decide +kernel
theorem dX9_joint_89 : decode cX9_joint 89 = .ok (.invokevirtual 173, 3) := by decide +kernel
theorem dX9_joint_92 : decode cX9_joint 92 = .ok (.ifCond .eq 15, 3) := by decide +kernel
theorem dX9_joint_95 : decode cX9_joint 95 = .ok (.lload 4, 2) := by decide +kernel
theorem dX9_joint_97 : decode cX9_joint 97 = .ok (.aload_n 0, 1) := by decide +kernel
theorem dX9_joint_98 : decode cX9_joint 98 = .ok (.getfield 41, 3) := by decide +kernel
theorem dX9_joint_101 : decode cX9_joint 101 = .ok (.iload 6, 2) := by decide +kernel
theorem dX9_joint_103 : decode cX9_joint 103 = .ok (.laload, 1) := by decide +kernel
theorem dX9_joint_104 : decode cX9_joint 104 = .ok (.ladd, 1) := by decide +kernel
theorem dX9_joint_105 : decode cX9_joint 105 = .ok (.lstore 4, 2) := by decide +kernel
theorem dX9_joint_107 : decode cX9_joint 107 = .ok (.iinc 6 1, 3) := by decide +kernel
theorem dX9_joint_110 : decode cX9_joint 110 = .ok (.goto (-54), 3) := by decide +kernel
theorem dX9_joint_113 : decode cX9_joint 113 = .ok (.lload 4, 2) := by decide +kernel
theorem dX9_joint_115 : decode cX9_joint 115 = .ok (.aload_n 0, 1) := by decide +kernel
theorem dX9_joint_116 : decode cX9_joint 116 = .ok (.getfield 124, 3) := by decide +kernel
theorem dX9_joint_119 : decode cX9_joint 119 = .ok (.iload_n 3, 1) := by decide +kernel
theorem dX9_joint_120 : decode cX9_joint 120 = .ok (.invokestatic 109, 3) := by decide +kernel
theorem dX9_joint_123 : decode cX9_joint 123 = .ok (.lreturn, 1) := by decide +kernel
theorem dX9_joints_0 : decode cX9_joints 0 = .ok (.aload_n 0, 1) := by decide +kernel
theorem dX9_joints_1 : decode cX9_joints 1 = .ok (.iload_n 1, 1) := by decide +kernel
theorem dX9_joints_2 : decode cX9_joints 2 = .ok (.invokevirtual 85, 3) := by decide +kernel
theorem dX9_joints_5 : decode cX9_joints 5 = .ok (.ifCond .ne 9, 3) := by decide +kernel
theorem dX9_joints_8 : decode cX9_joints 8 = .ok (.aload_n 0, 1) := by decide +kernel
theorem dX9_joints_9 : decode cX9_joints 9 = .ok (.iconst (-1), 1) := by decide +kernel
theorem dX9_joints_10 : decode cX9_joints 10 = .ok (.invokevirtual 92, 3) := by decide +kernel
theorem dX9_joints_13 : decode cX9_joints 13 = .ok (.lreturn, 1) := by decide +kernel
theorem dX9_joints_14 : decode cX9_joints 14 = .ok (.iload_n 2, 1) := by decide +kernel
theorem dX9_joints_15 : decode cX9_joints 15 = .ok (.invokestatic 106, 3) := by decide +kernel
theorem dX9_joints_18 : decode cX9_joints 18 = .ok (.ifCond .ne 10, 3) := by decide +kernel
theorem dX9_joints_21 : decode cX9_joints 21 = .ok (.aload_n 0, 1) := by decide +kernel
theorem dX9_joints_22 : decode cX9_joints 22 = .ok (.bipush (-2), 2) := by decide +kernel
theorem dX9_joints_24 : decode cX9_joints 24 = .ok (.invokevirtual 92, 3) := by decide +kernel
theorem dX9_joints_27 : decode cX9_joints 27 = .ok (.lreturn, 1) := by decide +kernel
theorem dX9_joints_28 : decode cX9_joints 28 = .ok (.aload_n 0, 1) := by decide +kernel
theorem dX9_joints_29 : decode cX9_joints 29 = .ok (.invokevirtual 169, 3) := by decide +kernel
theorem dX9_joints_32 : decode cX9_joints 32 = .ok (.ifCond .ne 10, 3) := by decide +kernel
theorem dX9_joints_35 : decode cX9_joints 35 = .ok (.aload_n 0, 1) := by decide +kernel
theorem dX9_joints_36 : decode cX9_joints 36 = .ok (.bipush (-7), 2) := by decide +kernel
theorem dX9_joints_38 : decode cX9_joints 38 = .ok (.invokevirtual 92, 3) := by decide +kernel
theorem dX9_joints_41 : decode cX9_joints 41 = .ok (.lreturn, 1) := by decide +kernel
theorem dX9_joints_42 : decode cX9_joints 42 = .ok (.lconst 0, 1) := by decide +kernel
theorem dX9_joints_43 : decode cX9_joints 43 = .ok (.lstore_n 3, 1) := by decide +kernel
theorem dX9_joints_44 : decode cX9_joints 44 = .ok (.iconst 0, 1) := by decide +kernel
theorem dX9_joints_45 : decode cX9_joints 45 = .ok (.istore 5, 2) := by decide +kernel
theorem dX9_joints_47 : decode cX9_joints 47 = .ok (.iload 5, 2) := by decide +kernel
theorem dX9_joints_49 : decode cX9_joints 49 = .ok (.aload_n 0, 1) := by decide +kernel
theorem dX9_joints_50 : decode cX9_joints 50 = .ok (.getfield 162, 3) := by decide +kernel
theorem dX9_joints_53 : decode cX9_joints 53 = .ok (.if_icmp .ge 46, 3) := by decide +kernel
theorem dX9_joints_56 : decode cX9_joints 56 = .ok (.aload_n 0, 1) := by decide +kernel
theorem dX9_joints_57 : decode cX9_joints 57 = .ok (.aload_n 0, 1) := by decide +kernel
theorem dX9_joints_58 : decode cX9_joints 58 = .ok (.getfield 44, 3) := by decide +kernel
theorem dX9_joints_61 : decode cX9_joints 61 = .ok (.iload 5, 2) := by decide +kernel
theorem dX9_joints_63 : decode cX9_joints 63 = .ok (.iaload, 1) := by decide +kernel
theorem dX9_joints_64 : decode cX9_joints 64 = .ok (.iload_n 1, 1) := by decide +kernel
theorem dX9_joints_65 : decode cX9_joints 65 = .ok (.invokevirtual 173, 3) := by decide +kernel
theorem dX9_joints_68 : decode cX9_joints 68 = .ok (.ifCond .eq 25, 3) := by decide +kernel
theorem dX9_joints_71 : decode cX9_joints 71 = .ok (.lload_n 3, 1) := by decide +kernel
theorem dX9_joints_72 : decode cX9_joints 72 = .ok (.aload_n 0, 1) := by decide +kernel
theorem dX9_joints_73 : decode cX9_joints 73 = .ok (.getfield 41, 3) := by decide +kernel
theorem dX9_joints_76 : decode cX9_joints 76 = .ok (.iload 5, 2) := by decide +kernel
theorem dX9_joints_78 : decode cX9_joints 78 = .ok (.laload, 1) := by decide +kernel
theorem dX9_joints_79 : decode cX9_joints 79 = .ok (.aload_n 0, 1) := by decide +kernel
theorem dX9_joints_80 : decode cX9_joints 80 = .ok (.getfield 44, 3) := by decide +kernel
theorem dX9_joints_83 : decode cX9_joints 83 = .ok (.iload 5, 2) := by decide +kernel
theorem dX9_joints_85 : decode cX9_joints 85 = .ok (.iaload, 1) := by decide +kernel
theorem dX9_joints_86 : decode cX9_joints 86 = .ok (.invokestatic 176, 3) := by decide +kernel
theorem dX9_joints_89 : decode cX9_joints 89 = .ok (.i2l, 1) := by decide +kernel
theorem dX9_joints_90 : decode cX9_joints 90 = .ok (.lmul, 1) := by decide +kernel
theorem dX9_joints_91 : decode cX9_joints 91 = .ok (.ladd, 1) := by decide +kernel
theorem dX9_joints_92 : decode cX9_joints 92 = .ok (.lstore_n 3, 1) := by decide +kernel
theorem dX9_joints_93 : decode cX9_joints 93 = .ok (.iinc 5 1, 3) := by decide +kernel
theorem dX9_joints_96 : decode cX9_joints 96 = .ok (.goto (-49), 3) := by decide +kernel
theorem dX9_joints_99 : decode cX9_joints 99 = .ok (.lload_n 3, 1) := by decide +kernel
theorem dX9_joints_100 : decode cX9_joints 100 = .ok (.aload_n 0, 1) := by decide +kernel
theorem dX9_joints_101 : decode cX9_joints 101 = .ok (.getfield 124, 3) := by decide +kernel
theorem dX9_joints_104 : decode cX9_joints 104 = .ok (.iload_n 2, 1) := by decide +kernel
theorem dX9_joints_105 : decode cX9_joints 105 = .ok (.invokestatic 109, 3) := by decide +kernel
theorem dX9_joints_108 : decode cX9_joints 108 = .ok (.lreturn, 1) := by decide +kernel
theorem dX9_fair_0 : decode cX9_fair 0 = .ok (.iload_n 1, 1) := by decide +kernel
theorem dX9_fair_1 : decode cX9_fair 1 = .ok (.iconst 0, 1) := by decide +kernel
theorem dX9_fair_2 : decode cX9_fair 2 = .ok (.iconst 3, 1) := by decide +kernel
theorem dX9_fair_3 : decode cX9_fair 3 = .ok (.invokestatic 75, 3) := by decide +kernel
theorem dX9_fair_6 : decode cX9_fair 6 = .ok (.ifCond .ne 9, 3) := by decide +kernel
theorem dX9_fair_9 : decode cX9_fair 9 = .ok (.aload_n 0, 1) := by decide +kernel
theorem dX9_fair_10 : decode cX9_fair 10 = .ok (.iconst (-1), 1) := by decide +kernel
theorem dX9_fair_11 : decode cX9_fair 11 = .ok (.invokevirtual 71, 3) := by decide +kernel
theorem dX9_fair_14 : decode cX9_fair 14 = .ok (.ireturn, 1) := by decide +kernel
theorem dX9_fair_15 : decode cX9_fair 15 = .ok (.aload_n 0, 1) := by decide +kernel
theorem dX9_fair_16 : decode cX9_fair 16 = .ok (.invokevirtual 169, 3) := by decide +kernel
theorem dX9_fair_19 : decode cX9_fair 19 = .ok (.ifCond .ne 10, 3) := by decide +kernel
theorem dX9_fair_22 : decode cX9_fair 22 = .ok (.aload_n 0, 1) := by decide +kernel
theorem dX9_fair_23 : decode cX9_fair 23 = .ok (.bipush (-7), 2) := by decide +kernel
theorem dX9_fair_25 : decode cX9_fair 25 = .ok (.invokevirtual 71, 3) := by decide +kernel
theorem dX9_fair_28 : decode cX9_fair 28 = .ok (.ireturn, 1) := by decide +kernel
theorem dX9_fair_29 : decode cX9_fair 29 = .ok (.iconst 0, 1) := by decide +kernel
theorem dX9_fair_30 : decode cX9_fair 30 = .ok (.istore_n 2, 1) := by decide +kernel
theorem dX9_fair_31 : decode cX9_fair 31 = .ok (.lconst 0, 1) := by decide +kernel
theorem dX9_fair_32 : decode cX9_fair 32 = .ok (.lstore_n 3, 1) := by decide +kernel
theorem dX9_fair_33 : decode cX9_fair 33 = .ok (.iconst 0, 1) := by decide +kernel
theorem dX9_fair_34 : decode cX9_fair 34 = .ok (.istore 5, 2) := by decide +kernel
theorem dX9_fair_36 : decode cX9_fair 36 = .ok (.iload 5, 2) := by decide +kernel
theorem dX9_fair_38 : decode cX9_fair 38 = .ok (.aload_n 0, 1) := by decide +kernel
theorem dX9_fair_39 : decode cX9_fair 39 = .ok (.getfield 7, 3) := by decide +kernel
theorem dX9_fair_42 : decode cX9_fair 42 = .ok (.iconst 0, 1) := by decide +kernel
theorem dX9_fair_43 : decode cX9_fair 43 = .ok (.iaload, 1) := by decide +kernel
theorem dX9_fair_44 : decode cX9_fair 44 = .ok (.if_icmp .ge 43, 3) := by decide +kernel
theorem dX9_fair_47 : decode cX9_fair 47 = .ok (.aload_n 0, 1) := by decide +kernel
theorem dX9_fair_48 : decode cX9_fair 48 = .ok (.getfield 7, 3) := by decide +kernel
theorem dX9_fair_51 : decode cX9_fair 51 = .ok (.bipush 14, 2) := by decide +kernel
theorem dX9_fair_53 : decode cX9_fair 53 = .ok (.iload 5, 2) := by decide +kernel
theorem dX9_fair_55 : decode cX9_fair 55 = .ok (.iadd, 1) := by decide +kernel
theorem dX9_fair_56 : decode cX9_fair 56 = .ok (.iaload, 1) := by decide +kernel
theorem dX9_fair_57 : decode cX9_fair 57 = .ok (.iload_n 1, 1) := by decide +kernel
theorem dX9_fair_58 : decode cX9_fair 58 = .ok (.if_icmp .eq 6, 3) := by decide +kernel
theorem dX9_fair_61 : decode cX9_fair 61 = .ok (.goto 20, 3) := by decide +kernel
theorem dX9_fair_64 : decode cX9_fair 64 = .ok (.iload_n 2, 1) := by decide +kernel
theorem dX9_fair_65 : decode cX9_fair 65 = .ok (.iconst 1, 1) := by decide +kernel
theorem dX9_fair_66 : decode cX9_fair 66 = .ok (.iload 5, 2) := by decide +kernel
theorem dX9_fair_68 : decode cX9_fair 68 = .ok (.ishl, 1) := by decide +kernel
theorem dX9_fair_69 : decode cX9_fair 69 = .ok (.ior, 1) := by decide +kernel
theorem dX9_fair_70 : decode cX9_fair 70 = .ok (.istore_n 2, 1) := by decide +kernel
theorem dX9_fair_71 : decode cX9_fair 71 = .ok (.lload_n 3, 1) := by decide +kernel
theorem dX9_fair_72 : decode cX9_fair 72 = .ok (.aload_n 0, 1) := by decide +kernel
theorem dX9_fair_73 : decode cX9_fair 73 = .ok (.getfield 29, 3) := by decide +kernel
theorem dX9_fair_76 : decode cX9_fair 76 = .ok (.iload 5, 2) := by decide +kernel
theorem dX9_fair_78 : decode cX9_fair 78 = .ok (.laload, 1) := by decide +kernel
theorem dX9_fair_79 : decode cX9_fair 79 = .ok (.ladd, 1) := by decide +kernel
theorem dX9_fair_80 : decode cX9_fair 80 = .ok (.lstore_n 3, 1) := by decide +kernel
theorem dX9_fair_81 : decode cX9_fair 81 = .ok (.iinc 5 1, 3) := by decide +kernel
theorem dX9_fair_84 : decode cX9_fair 84 = .ok (.goto (-48), 3) := by decide +kernel
theorem dX9_fair_87 : decode cX9_fair 87 = .ok (.iconst 0, 1) := by decide +kernel
theorem dX9_fair_88 : decode cX9_fair 88 = .ok (.istore 5, 2) := by decide +kernel
theorem dX9_fair_90 : decode cX9_fair 90 = .ok (.iload 5, 2) := by decide +kernel
theorem dX9_fair_92 : decode cX9_fair 92 = .ok (.aload_n 0, 1) := by decide +kernel
theorem dX9_fair_93 : decode cX9_fair 93 = .ok (.getfield 162, 3) := by decide +kernel
theorem dX9_fair_96 : decode cX9_fair 96 = .ok (.if_icmp .ge 58, 3) := by decide +kernel
theorem dX9_fair_99 : decode cX9_fair 99 = .ok (.aload_n 0, 1) := by decide +kernel
theorem dX9_fair_100 : decode cX9_fair 100 = .ok (.getfield 44, 3) := by decide +kernel
theorem dX9_fair_103 : decode cX9_fair 103 = .ok (.iload 5, 2) := by decide +kernel
theorem dX9_fair_105 : decode cX9_fair 105 = .ok (.iaload, 1) := by decide +kernel
theorem dX9_fair_106 : decode cX9_fair 106 = .ok (.iload_n 2, 1) := by decide +kernel
theorem dX9_fair_107 : decode cX9_fair 107 = .ok (.iand, 1) := by decide +kernel
theorem dX9_fair_108 : decode cX9_fair 108 = .ok (.invokestatic 176, 3) := by decide +kernel
theorem dX9_fair_111 : decode cX9_fair 111 = .ok (.istore 6, 2) := by decide +kernel
theorem dX9_fair_113 : decode cX9_fair 113 = .ok (.iload 6, 2) := by decide +kernel
theorem dX9_fair_115 : decode cX9_fair 115 = .ok (.i2l, 1) := by decide +kernel
theorem dX9_fair_116 : decode cX9_fair 116 = .ok (.lload_n 3, 1) := by decide +kernel
theorem dX9_fair_117 : decode cX9_fair 117 = .ok (.aload_n 0, 1) := by decide +kernel
theorem dX9_fair_118 : decode cX9_fair 118 = .ok (.getfield 124, 3) := by decide +kernel
theorem dX9_fair_121 : decode cX9_fair 121 = .ok (.ldiv, 1) := by decide +kernel
theorem dX9_fair_122 : decode cX9_fair 122 = .ok (.lcmp, 1) := by decide +kernel
theorem dX9_fair_123 : decode cX9_fair 123 = .ok (.ifCond .lt 23, 3) := by decide +kernel
theorem dX9_fair_126 : decode cX9_fair 126 = .ok (.iload 6, 2) := by decide +kernel
theorem dX9_fair_128 : decode cX9_fair 128 = .ok (.i2l, 1) := by decide +kernel
theorem dX9_fair_129 : decode cX9_fair 129 = .ok (.lload_n 3, 1) := by decide +kernel
theorem dX9_fair_130 : decode cX9_fair 130 = .ok (.aload_n 0, 1) := by decide +kernel
theorem dX9_fair_131 : decode cX9_fair 131 = .ok (.getfield 124, 3) := by decide +kernel
theorem dX9_fair_134 : decode cX9_fair 134 = .ok (.ladd, 1) := by decide +kernel
theorem dX9_fair_135 : decode cX9_fair 135 = .ok (.lconst 1, 1) := by decide +kernel
theorem dX9_fair_136 : decode cX9_fair 136 = .ok (.lsub, 1) := by decide +kernel
theorem dX9_fair_137 : decode cX9_fair 137 = .ok (.aload_n 0, 1) := by decide +kernel
theorem dX9_fair_138 : decode cX9_fair 138 = .ok (.getfield 124, 3) := by decide +kernel
theorem dX9_fair_141 : decode cX9_fair 141 = .ok (.ldiv, 1) := by decide +kernel
theorem dX9_fair_142 : decode cX9_fair 142 = .ok (.lcmp, 1) := by decide +kernel
theorem dX9_fair_143 : decode cX9_fair 143 = .ok (.ifCond .le 5, 3) := by decide +kernel
theorem dX9_fair_146 : decode cX9_fair 146 = .ok (.iconst 0, 1) := by decide +kernel
theorem dX9_fair_147 : decode cX9_fair 147 = .ok (.ireturn, 1) := by decide +kernel
theorem dX9_fair_148 : decode cX9_fair 148 = .ok (.iinc 5 1, 3) := by decide +kernel
theorem dX9_fair_151 : decode cX9_fair 151 = .ok (.goto (-61), 3) := by decide +kernel
theorem dX9_fair_154 : decode cX9_fair 154 = .ok (.iconst 1, 1) := by decide +kernel
theorem dX9_fair_155 : decode cX9_fair 155 = .ok (.ireturn, 1) := by decide +kernel
theorem dX9_product_0 : decode cX9_product 0 = .ok (.lload_n 1, 1) := by decide +kernel
theorem dX9_product_1 : decode cX9_product 1 = .ok (.lload_n 3, 1) := by decide +kernel
theorem dX9_product_2 : decode cX9_product 2 = .ok (.lmul, 1) := by decide +kernel
theorem dX9_product_3 : decode cX9_product 3 = .ok (.lstore 5, 2) := by decide +kernel
theorem dX9_product_5 : decode cX9_product 5 = .ok (.lload_n 1, 1) := by decide +kernel
theorem dX9_product_6 : decode cX9_product 6 = .ok (.lconst 0, 1) := by decide +kernel
theorem dX9_product_7 : decode cX9_product 7 = .ok (.lcmp, 1) := by decide +kernel
theorem dX9_product_8 : decode cX9_product 8 = .ok (.ifCond .eq 33, 3) := by decide +kernel
theorem dX9_product_11 : decode cX9_product 11 = .ok (.lload 5, 2) := by decide +kernel
theorem dX9_product_13 : decode cX9_product 13 = .ok (.lload_n 1, 1) := by decide +kernel
theorem dX9_product_14 : decode cX9_product 14 = .ok (.ldiv, 1) := by decide +kernel
theorem dX9_product_15 : decode cX9_product 15 = .ok (.lload_n 3, 1) := by decide +kernel
theorem dX9_product_16 : decode cX9_product 16 = .ok (.lcmp, 1) := by decide +kernel
theorem dX9_product_17 : decode cX9_product 17 = .ok (.ifCond .ne 19, 3) := by decide +kernel
theorem dX9_product_20 : decode cX9_product 20 = .ok (.lload_n 1, 1) := by decide +kernel
theorem dX9_product_21 : decode cX9_product 21 = .ok (.ldc2_w 181, 3) := by decide +kernel
theorem dX9_product_24 : decode cX9_product 24 = .ok (.lcmp, 1) := by decide +kernel
theorem dX9_product_25 : decode cX9_product 25 = .ok (.ifCond .ne 16, 3) := by decide +kernel
theorem dX9_product_28 : decode cX9_product 28 = .ok (.lload_n 3, 1) := by decide +kernel
theorem dX9_product_29 : decode cX9_product 29 = .ok (.ldc2_w 185, 3) := by decide +kernel
theorem dX9_product_32 : decode cX9_product 32 = .ok (.lcmp, 1) := by decide +kernel
theorem dX9_product_33 : decode cX9_product 33 = .ok (.ifCond .ne 8, 3) := by decide +kernel
theorem dX9_product_36 : decode cX9_product 36 = .ok (.aload_n 0, 1) := by decide +kernel
theorem dX9_product_37 : decode cX9_product 37 = .ok (.iconst 1, 1) := by decide +kernel
theorem dX9_product_38 : decode cX9_product 38 = .ok (.putfield 187, 3) := by decide +kernel
theorem dX9_product_41 : decode cX9_product 41 = .ok (.lload 5, 2) := by decide +kernel
theorem dX9_product_43 : decode cX9_product 43 = .ok (.lreturn, 1) := by decide +kernel
theorem dX9_sum_0 : decode cX9_sum 0 = .ok (.lload_n 1, 1) := by decide +kernel
theorem dX9_sum_1 : decode cX9_sum 1 = .ok (.lload_n 3, 1) := by decide +kernel
theorem dX9_sum_2 : decode cX9_sum 2 = .ok (.ladd, 1) := by decide +kernel
theorem dX9_sum_3 : decode cX9_sum 3 = .ok (.lstore 5, 2) := by decide +kernel
theorem dX9_sum_5 : decode cX9_sum 5 = .ok (.lload_n 1, 1) := by decide +kernel
theorem dX9_sum_6 : decode cX9_sum 6 = .ok (.lconst 0, 1) := by decide +kernel
theorem dX9_sum_7 : decode cX9_sum 7 = .ok (.lcmp, 1) := by decide +kernel
theorem dX9_sum_8 : decode cX9_sum 8 = .ok (.ifCond .ge 7, 3) := by decide +kernel
theorem dX9_sum_11 : decode cX9_sum 11 = .ok (.iconst 1, 1) := by decide +kernel
theorem dX9_sum_12 : decode cX9_sum 12 = .ok (.goto 4, 3) := by decide +kernel
theorem dX9_sum_15 : decode cX9_sum 15 = .ok (.iconst 0, 1) := by decide +kernel
theorem dX9_sum_16 : decode cX9_sum 16 = .ok (.lload_n 3, 1) := by decide +kernel
theorem dX9_sum_17 : decode cX9_sum 17 = .ok (.lconst 0, 1) := by decide +kernel
theorem dX9_sum_18 : decode cX9_sum 18 = .ok (.lcmp, 1) := by decide +kernel
theorem dX9_sum_19 : decode cX9_sum 19 = .ok (.ifCond .ge 7, 3) := by decide +kernel
theorem dX9_sum_22 : decode cX9_sum 22 = .ok (.iconst 1, 1) := by decide +kernel
theorem dX9_sum_23 : decode cX9_sum 23 = .ok (.goto 4, 3) := by decide +kernel
theorem dX9_sum_26 : decode cX9_sum 26 = .ok (.iconst 0, 1) := by decide +kernel
theorem dX9_sum_27 : decode cX9_sum 27 = .ok (.if_icmp .ne 34, 3) := by decide +kernel
theorem dX9_sum_30 : decode cX9_sum 30 = .ok (.lload 5, 2) := by decide +kernel
theorem dX9_sum_32 : decode cX9_sum 32 = .ok (.lconst 0, 1) := by decide +kernel
theorem dX9_sum_33 : decode cX9_sum 33 = .ok (.lcmp, 1) := by decide +kernel
theorem dX9_sum_34 : decode cX9_sum 34 = .ok (.ifCond .ge 7, 3) := by decide +kernel
theorem dX9_sum_37 : decode cX9_sum 37 = .ok (.iconst 1, 1) := by decide +kernel
theorem dX9_sum_38 : decode cX9_sum 38 = .ok (.goto 4, 3) := by decide +kernel
theorem dX9_sum_41 : decode cX9_sum 41 = .ok (.iconst 0, 1) := by decide +kernel
theorem dX9_sum_42 : decode cX9_sum 42 = .ok (.lload_n 1, 1) := by decide +kernel
theorem dX9_sum_43 : decode cX9_sum 43 = .ok (.lconst 0, 1) := by decide +kernel
theorem dX9_sum_44 : decode cX9_sum 44 = .ok (.lcmp, 1) := by decide +kernel
theorem dX9_sum_45 : decode cX9_sum 45 = .ok (.ifCond .ge 7, 3) := by decide +kernel
theorem dX9_sum_48 : decode cX9_sum 48 = .ok (.iconst 1, 1) := by decide +kernel
theorem dX9_sum_49 : decode cX9_sum 49 = .ok (.goto 4, 3) := by decide +kernel
theorem dX9_sum_52 : decode cX9_sum 52 = .ok (.iconst 0, 1) := by decide +kernel
theorem dX9_sum_53 : decode cX9_sum 53 = .ok (.if_icmp .eq 8, 3) := by decide +kernel
theorem dX9_sum_56 : decode cX9_sum 56 = .ok (.aload_n 0, 1) := by decide +kernel
theorem dX9_sum_57 : decode cX9_sum 57 = .ok (.iconst 1, 1) := by decide +kernel
theorem dX9_sum_58 : decode cX9_sum 58 = .ok (.putfield 187, 3) := by decide +kernel
theorem dX9_sum_61 : decode cX9_sum 61 = .ok (.lload 5, 2) := by decide +kernel
theorem dX9_sum_63 : decode cX9_sum 63 = .ok (.lreturn, 1) := by decide +kernel
theorem dX9_is_0 : decode cX9_is 0 = .ok (.aload_n 0, 1) := by decide +kernel
theorem dX9_is_1 : decode cX9_is 1 = .ok (.getfield 187, 3) := by decide +kernel
theorem dX9_is_4 : decode cX9_is 4 = .ok (.ifCond .eq 4, 3) := by decide +kernel
theorem dX9_is_7 : decode cX9_is 7 = .ok (.return_, 1) := by decide +kernel
theorem dX9_is_8 : decode cX9_is 8 = .ok (.lload_n 1, 1) := by decide +kernel
theorem dX9_is_9 : decode cX9_is 9 = .ok (.lload_n 3, 1) := by decide +kernel
theorem dX9_is_10 : decode cX9_is 10 = .ok (.invokestatic 102, 3) := by decide +kernel
theorem dX9_is_13 : decode cX9_is 13 = .ok (.lstore 5, 2) := by decide +kernel
theorem dX9_is_15 : decode cX9_is 15 = .ok (.aload_n 0, 1) := by decide +kernel
theorem dX9_is_16 : decode cX9_is 16 = .ok (.lload_n 1, 1) := by decide +kernel
theorem dX9_is_17 : decode cX9_is 17 = .ok (.lload 5, 2) := by decide +kernel
theorem dX9_is_19 : decode cX9_is 19 = .ok (.ldiv, 1) := by decide +kernel
theorem dX9_is_20 : decode cX9_is 20 = .ok (.putfield 191, 3) := by decide +kernel
theorem dX9_is_23 : decode cX9_is 23 = .ok (.aload_n 0, 1) := by decide +kernel
theorem dX9_is_24 : decode cX9_is 24 = .ok (.lload_n 3, 1) := by decide +kernel
theorem dX9_is_25 : decode cX9_is 25 = .ok (.lload 5, 2) := by decide +kernel
theorem dX9_is_27 : decode cX9_is 27 = .ok (.ldiv, 1) := by decide +kernel
theorem dX9_is_28 : decode cX9_is 28 = .ok (.putfield 194, 3) := by decide +kernel
theorem dX9_is_31 : decode cX9_is 31 = .ok (.return_, 1) := by decide +kernel
theorem dX9_adds_0 : decode cX9_adds 0 = .ok (.aload_n 0, 1) := by decide +kernel
theorem dX9_adds_1 : decode cX9_adds 1 = .ok (.lload_n 1, 1) := by decide +kernel
theorem dX9_adds_2 : decode cX9_adds 2 = .ok (.lload 7, 2) := by decide +kernel
theorem dX9_adds_4 : decode cX9_adds 4 = .ok (.invokevirtual 197, 3) := by decide +kernel
theorem dX9_adds_7 : decode cX9_adds 7 = .ok (.lstore 9, 2) := by decide +kernel
theorem dX9_adds_9 : decode cX9_adds 9 = .ok (.aload_n 0, 1) := by decide +kernel
theorem dX9_adds_10 : decode cX9_adds 10 = .ok (.lload 5, 2) := by decide +kernel
theorem dX9_adds_12 : decode cX9_adds 12 = .ok (.lload_n 3, 1) := by decide +kernel
theorem dX9_adds_13 : decode cX9_adds 13 = .ok (.invokevirtual 197, 3) := by decide +kernel
theorem dX9_adds_16 : decode cX9_adds 16 = .ok (.lstore 11, 2) := by decide +kernel
theorem dX9_adds_18 : decode cX9_adds 18 = .ok (.aload_n 0, 1) := by decide +kernel
theorem dX9_adds_19 : decode cX9_adds 19 = .ok (.lload_n 3, 1) := by decide +kernel
theorem dX9_adds_20 : decode cX9_adds 20 = .ok (.lload 7, 2) := by decide +kernel
theorem dX9_adds_22 : decode cX9_adds 22 = .ok (.invokevirtual 197, 3) := by decide +kernel
theorem dX9_adds_25 : decode cX9_adds 25 = .ok (.lstore 13, 2) := by decide +kernel
theorem dX9_adds_27 : decode cX9_adds 27 = .ok (.aload_n 0, 1) := by decide +kernel
theorem dX9_adds_28 : decode cX9_adds 28 = .ok (.aload_n 0, 1) := by decide +kernel
theorem dX9_adds_29 : decode cX9_adds 29 = .ok (.lload 9, 2) := by decide +kernel
theorem dX9_adds_31 : decode cX9_adds 31 = .ok (.lload 11, 2) := by decide +kernel
theorem dX9_adds_33 : decode cX9_adds 33 = .ok (.invokevirtual 200, 3) := by decide +kernel
theorem dX9_adds_36 : decode cX9_adds 36 = .ok (.lload 13, 2) := by decide +kernel
theorem dX9_adds_38 : decode cX9_adds 38 = .ok (.invokevirtual 203, 3) := by decide +kernel
theorem dX9_adds_41 : decode cX9_adds 41 = .ok (.return_, 1) := by decide +kernel
theorem dX9_times_0 : decode cX9_times 0 = .ok (.aload_n 0, 1) := by decide +kernel
theorem dX9_times_1 : decode cX9_times 1 = .ok (.lload_n 1, 1) := by decide +kernel
theorem dX9_times_2 : decode cX9_times 2 = .ok (.lload 5, 2) := by decide +kernel
theorem dX9_times_4 : decode cX9_times 4 = .ok (.invokevirtual 197, 3) := by decide +kernel
theorem dX9_times_7 : decode cX9_times 7 = .ok (.lstore 9, 2) := by decide +kernel
theorem dX9_times_9 : decode cX9_times 9 = .ok (.aload_n 0, 1) := by decide +kernel
theorem dX9_times_10 : decode cX9_times 10 = .ok (.lload 9, 2) := by decide +kernel
theorem dX9_times_12 : decode cX9_times 12 = .ok (.aload_n 0, 1) := by decide +kernel
theorem dX9_times_13 : decode cX9_times 13 = .ok (.lload_n 3, 1) := by decide +kernel
theorem dX9_times_14 : decode cX9_times 14 = .ok (.lload 7, 2) := by decide +kernel
theorem dX9_times_16 : decode cX9_times 16 = .ok (.invokevirtual 197, 3) := by decide +kernel
theorem dX9_times_19 : decode cX9_times 19 = .ok (.invokevirtual 203, 3) := by decide +kernel
theorem dX9_times_22 : decode cX9_times 22 = .ok (.return_, 1) := by decide +kernel
theorem dX9_estimates_0 : decode cX9_estimates 0 = .ok (.aload_n 0, 1) := by decide +kernel
theorem dX9_estimates_1 : decode cX9_estimates 1 = .ok (.lconst 0, 1) := by decide +kernel
theorem dX9_estimates_2 : decode cX9_estimates 2 = .ok (.putfield 191, 3) := by decide +kernel
theorem dX9_estimates_5 : decode cX9_estimates 5 = .ok (.aload_n 0, 1) := by decide +kernel
theorem dX9_estimates_6 : decode cX9_estimates 6 = .ok (.lconst 1, 1) := by decide +kernel
theorem dX9_estimates_7 : decode cX9_estimates 7 = .ok (.putfield 194, 3) := by decide +kernel
theorem dX9_estimates_10 : decode cX9_estimates 10 = .ok (.iconst 0, 1) := by decide +kernel
theorem dX9_estimates_11 : decode cX9_estimates 11 = .ok (.istore_n 2, 1) := by decide +kernel
theorem dX9_estimates_12 : decode cX9_estimates 12 = .ok (.iload_n 2, 1) := by decide +kernel
theorem dX9_estimates_13 : decode cX9_estimates 13 = .ok (.aload_n 0, 1) := by decide +kernel
theorem dX9_estimates_14 : decode cX9_estimates 14 = .ok (.getfield 7, 3) := by decide +kernel
theorem dX9_estimates_17 : decode cX9_estimates 17 = .ok (.iconst 0, 1) := by decide +kernel
theorem dX9_estimates_18 : decode cX9_estimates 18 = .ok (.iaload, 1) := by decide +kernel
theorem dX9_estimates_19 : decode cX9_estimates 19 = .ok (.if_icmp .ge 88, 3) := by decide +kernel
theorem dX9_estimates_22 : decode cX9_estimates 22 = .ok (.aload_n 0, 1) := by decide +kernel
theorem dX9_estimates_23 : decode cX9_estimates 23 = .ok (.getfield 187, 3) := by decide +kernel
theorem dX9_estimates_26 : decode cX9_estimates 26 = .ok (.ifCond .ne 81, 3) := by decide +kernel
theorem dX9_estimates_29 : decode cX9_estimates 29 = .ok (.aload_n 0, 1) := by decide +kernel
theorem dX9_estimates_30 : decode cX9_estimates 30 = .ok (.iload_n 1, 1) := by decide +kernel
theorem dX9_estimates_31 : decode cX9_estimates 31 = .ok (.iload_n 2, 1) := by decide +kernel
theorem dX9_estimates_32 : decode cX9_estimates 32 = .ok (.invokevirtual 173, 3) := by decide +kernel
theorem dX9_estimates_35 : decode cX9_estimates 35 = .ok (.ifCond .ne 6, 3) := by decide +kernel
theorem dX9_estimates_38 : decode cX9_estimates 38 = .ok (.goto 63, 3) := by decide +kernel
theorem dX9_estimates_41 : decode cX9_estimates 41 = .ok (.aload_n 0, 1) := by decide +kernel
theorem dX9_estimates_42 : decode cX9_estimates 42 = .ok (.getfield 7, 3) := by decide +kernel
theorem dX9_estimates_45 : decode cX9_estimates 45 = .ok (.bipush 26, 2) := by decide +kernel
theorem dX9_estimates_47 : decode cX9_estimates 47 = .ok (.iload_n 2, 1) := by decide +kernel
theorem dX9_estimates_48 : decode cX9_estimates 48 = .ok (.iadd, 1) := by decide +kernel
theorem dX9_estimates_49 : decode cX9_estimates 49 = .ok (.iaload, 1) := by decide +kernel
theorem dX9_estimates_50 : decode cX9_estimates 50 = .ok (.i2l, 1) := by decide +kernel
theorem dX9_estimates_51 : decode cX9_estimates 51 = .ok (.aload_n 0, 1) := by decide +kernel
theorem dX9_estimates_52 : decode cX9_estimates 52 = .ok (.getfield 7, 3) := by decide +kernel
theorem dX9_estimates_55 : decode cX9_estimates 55 = .ok (.bipush 86, 2) := by decide +kernel
theorem dX9_estimates_57 : decode cX9_estimates 57 = .ok (.iload_n 2, 1) := by decide +kernel
theorem dX9_estimates_58 : decode cX9_estimates 58 = .ok (.iadd, 1) := by decide +kernel
theorem dX9_estimates_59 : decode cX9_estimates 59 = .ok (.iaload, 1) := by decide +kernel
theorem dX9_estimates_60 : decode cX9_estimates 60 = .ok (.i2l, 1) := by decide +kernel
theorem dX9_estimates_61 : decode cX9_estimates 61 = .ok (.lmul, 1) := by decide +kernel
theorem dX9_estimates_62 : decode cX9_estimates 62 = .ok (.lstore_n 3, 1) := by decide +kernel
theorem dX9_estimates_63 : decode cX9_estimates 63 = .ok (.aload_n 0, 1) := by decide +kernel
theorem dX9_estimates_64 : decode cX9_estimates 64 = .ok (.getfield 7, 3) := by decide +kernel
theorem dX9_estimates_67 : decode cX9_estimates 67 = .ok (.bipush 50, 2) := by decide +kernel
theorem dX9_estimates_69 : decode cX9_estimates 69 = .ok (.iload_n 2, 1) := by decide +kernel
theorem dX9_estimates_70 : decode cX9_estimates 70 = .ok (.iadd, 1) := by decide +kernel
theorem dX9_estimates_71 : decode cX9_estimates 71 = .ok (.iaload, 1) := by decide +kernel
theorem dX9_estimates_72 : decode cX9_estimates 72 = .ok (.i2l, 1) := by decide +kernel
theorem dX9_estimates_73 : decode cX9_estimates 73 = .ok (.lstore 5, 2) := by decide +kernel
theorem dX9_estimates_75 : decode cX9_estimates 75 = .ok (.aload_n 0, 1) := by decide +kernel
theorem dX9_estimates_76 : decode cX9_estimates 76 = .ok (.aload_n 0, 1) := by decide +kernel
theorem dX9_estimates_77 : decode cX9_estimates 77 = .ok (.getfield 191, 3) := by decide +kernel
theorem dX9_estimates_80 : decode cX9_estimates 80 = .ok (.aload_n 0, 1) := by decide +kernel
theorem dX9_estimates_81 : decode cX9_estimates 81 = .ok (.getfield 194, 3) := by decide +kernel
theorem dX9_estimates_84 : decode cX9_estimates 84 = .ok (.lload_n 3, 1) := by decide +kernel
theorem dX9_estimates_85 : decode cX9_estimates 85 = .ok (.lload 5, 2) := by decide +kernel
theorem dX9_estimates_87 : decode cX9_estimates 87 = .ok (.iconst 0, 1) := by decide +kernel
theorem dX9_estimates_88 : decode cX9_estimates 88 = .ok (.invokestatic 109, 3) := by decide +kernel
theorem dX9_estimates_91 : decode cX9_estimates 91 = .ok (.lload_n 3, 1) := by decide +kernel
theorem dX9_estimates_92 : decode cX9_estimates 92 = .ok (.lload 5, 2) := by decide +kernel
theorem dX9_estimates_94 : decode cX9_estimates 94 = .ok (.iconst 1, 1) := by decide +kernel
theorem dX9_estimates_95 : decode cX9_estimates 95 = .ok (.invokestatic 109, 3) := by decide +kernel
theorem dX9_estimates_98 : decode cX9_estimates 98 = .ok (.invokevirtual 207, 3) := by decide +kernel
theorem dX9_estimates_101 : decode cX9_estimates 101 = .ok (.iinc 2 1, 3) := by decide +kernel
theorem dX9_estimates_104 : decode cX9_estimates 104 = .ok (.goto (-92), 3) := by decide +kernel
theorem dX9_estimates_107 : decode cX9_estimates 107 = .ok (.return_, 1) := by decide +kernel
theorem dX9_estimate_0 : decode cX9_estimate 0 = .ok (.iload_n 2, 1) := by decide +kernel
theorem dX9_estimate_1 : decode cX9_estimate 1 = .ok (.invokestatic 106, 3) := by decide +kernel
theorem dX9_estimate_4 : decode cX9_estimate 4 = .ok (.ifCond .ne 10, 3) := by decide +kernel
theorem dX9_estimate_7 : decode cX9_estimate 7 = .ok (.aload_n 0, 1) := by decide +kernel
theorem dX9_estimate_8 : decode cX9_estimate 8 = .ok (.bipush (-2), 2) := by decide +kernel
theorem dX9_estimate_10 : decode cX9_estimate 10 = .ok (.invokevirtual 92, 3) := by decide +kernel
theorem dX9_estimate_13 : decode cX9_estimate 13 = .ok (.lreturn, 1) := by decide +kernel
theorem dX9_estimate_14 : decode cX9_estimate 14 = .ok (.aload_n 0, 1) := by decide +kernel
theorem dX9_estimate_15 : decode cX9_estimate 15 = .ok (.iconst 0, 1) := by decide +kernel
theorem dX9_estimate_16 : decode cX9_estimate 16 = .ok (.invokevirtual 144, 3) := by decide +kernel
theorem dX9_estimate_19 : decode cX9_estimate 19 = .ok (.ifCond .ne 10, 3) := by decide +kernel
theorem dX9_estimate_22 : decode cX9_estimate 22 = .ok (.aload_n 0, 1) := by decide +kernel
theorem dX9_estimate_23 : decode cX9_estimate 23 = .ok (.bipush (-7), 2) := by decide +kernel
theorem dX9_estimate_25 : decode cX9_estimate 25 = .ok (.invokevirtual 92, 3) := by decide +kernel
theorem dX9_estimate_28 : decode cX9_estimate 28 = .ok (.lreturn, 1) := by decide +kernel
theorem dX9_estimate_29 : decode cX9_estimate 29 = .ok (.aload_n 0, 1) := by decide +kernel
theorem dX9_estimate_30 : decode cX9_estimate 30 = .ok (.iload_n 1, 1) := by decide +kernel
theorem dX9_estimate_31 : decode cX9_estimate 31 = .ok (.invokevirtual 151, 3) := by decide +kernel
theorem dX9_estimate_34 : decode cX9_estimate 34 = .ok (.ifCond .ne 10, 3) := by decide +kernel
theorem dX9_estimate_37 : decode cX9_estimate 37 = .ok (.aload_n 0, 1) := by decide +kernel
theorem dX9_estimate_38 : decode cX9_estimate 38 = .ok (.bipush (-2), 2) := by decide +kernel
theorem dX9_estimate_40 : decode cX9_estimate 40 = .ok (.invokevirtual 92, 3) := by decide +kernel
theorem dX9_estimate_43 : decode cX9_estimate 43 = .ok (.lreturn, 1) := by decide +kernel
theorem dX9_estimate_44 : decode cX9_estimate 44 = .ok (.aload_n 0, 1) := by decide +kernel
theorem dX9_estimate_45 : decode cX9_estimate 45 = .ok (.iconst 0, 1) := by decide +kernel
theorem dX9_estimate_46 : decode cX9_estimate 46 = .ok (.putfield 187, 3) := by decide +kernel
theorem dX9_estimate_49 : decode cX9_estimate 49 = .ok (.aload_n 0, 1) := by decide +kernel
theorem dX9_estimate_50 : decode cX9_estimate 50 = .ok (.aload_n 0, 1) := by decide +kernel
theorem dX9_estimate_51 : decode cX9_estimate 51 = .ok (.iload_n 1, 1) := by decide +kernel
theorem dX9_estimate_52 : decode cX9_estimate 52 = .ok (.i2l, 1) := by decide +kernel
theorem dX9_estimate_53 : decode cX9_estimate 53 = .ok (.invokevirtual 154, 3) := by decide +kernel
theorem dX9_estimate_56 : decode cX9_estimate 56 = .ok (.invokevirtual 211, 3) := by decide +kernel
theorem dX9_estimate_59 : decode cX9_estimate 59 = .ok (.aload_n 0, 1) := by decide +kernel
theorem dX9_estimate_60 : decode cX9_estimate 60 = .ok (.getfield 187, 3) := by decide +kernel
theorem dX9_estimate_63 : decode cX9_estimate 63 = .ok (.ifCond .eq 10, 3) := by decide +kernel
theorem dX9_estimate_66 : decode cX9_estimate 66 = .ok (.aload_n 0, 1) := by decide +kernel
theorem dX9_estimate_67 : decode cX9_estimate 67 = .ok (.bipush (-7), 2) := by decide +kernel
theorem dX9_estimate_69 : decode cX9_estimate 69 = .ok (.invokevirtual 92, 3) := by decide +kernel
theorem dX9_estimate_72 : decode cX9_estimate 72 = .ok (.lreturn, 1) := by decide +kernel
theorem dX9_estimate_73 : decode cX9_estimate 73 = .ok (.iload_n 2, 1) := by decide +kernel
theorem dX9_estimate_74 : decode cX9_estimate 74 = .ok (.ifCond .ne 10, 3) := by decide +kernel
theorem dX9_estimate_77 : decode cX9_estimate 77 = .ok (.aload_n 0, 1) := by decide +kernel
theorem dX9_estimate_78 : decode cX9_estimate 78 = .ok (.getfield 191, 3) := by decide +kernel
theorem dX9_estimate_81 : decode cX9_estimate 81 = .ok (.goto 7, 3) := by decide +kernel
theorem dX9_estimate_84 : decode cX9_estimate 84 = .ok (.aload_n 0, 1) := by decide +kernel
theorem dX9_estimate_85 : decode cX9_estimate 85 = .ok (.getfield 194, 3) := by decide +kernel
theorem dX9_estimate_88 : decode cX9_estimate 88 = .ok (.lreturn, 1) := by decide +kernel
theorem dX9_meansOf_0 : decode cX9_meansOf 0 = .ok (.aload_n 0, 1) := by decide +kernel
theorem dX9_meansOf_1 : decode cX9_meansOf 1 = .ok (.iconst 0, 1) := by decide +kernel
theorem dX9_meansOf_2 : decode cX9_meansOf 2 = .ok (.putfield 187, 3) := by decide +kernel
theorem dX9_meansOf_5 : decode cX9_meansOf 5 = .ok (.lconst 0, 1) := by decide +kernel
theorem dX9_meansOf_6 : decode cX9_meansOf 6 = .ok (.lstore_n 2, 1) := by decide +kernel
theorem dX9_meansOf_7 : decode cX9_meansOf 7 = .ok (.lconst 1, 1) := by decide +kernel
theorem dX9_meansOf_8 : decode cX9_meansOf 8 = .ok (.lstore 4, 2) := by decide +kernel
theorem dX9_meansOf_10 : decode cX9_meansOf 10 = .ok (.lconst 0, 1) := by decide +kernel
theorem dX9_meansOf_11 : decode cX9_meansOf 11 = .ok (.lstore 6, 2) := by decide +kernel
theorem dX9_meansOf_13 : decode cX9_meansOf 13 = .ok (.iconst 0, 1) := by decide +kernel
theorem dX9_meansOf_14 : decode cX9_meansOf 14 = .ok (.istore 8, 2) := by decide +kernel
theorem dX9_meansOf_16 : decode cX9_meansOf 16 = .ok (.iload 8, 2) := by decide +kernel
theorem dX9_meansOf_18 : decode cX9_meansOf 18 = .ok (.aload_n 0, 1) := by decide +kernel
theorem dX9_meansOf_19 : decode cX9_meansOf 19 = .ok (.getfield 7, 3) := by decide +kernel
theorem dX9_meansOf_22 : decode cX9_meansOf 22 = .ok (.iconst 0, 1) := by decide +kernel
theorem dX9_meansOf_23 : decode cX9_meansOf 23 = .ok (.iaload, 1) := by decide +kernel
theorem dX9_meansOf_24 : decode cX9_meansOf 24 = .ok (.if_icmp .ge 25, 3) := by decide +kernel
theorem dX9_meansOf_27 : decode cX9_meansOf 27 = .ok (.lload 6, 2) := by decide +kernel
theorem dX9_meansOf_29 : decode cX9_meansOf 29 = .ok (.aload_n 0, 1) := by decide +kernel
theorem dX9_meansOf_30 : decode cX9_meansOf 30 = .ok (.getfield 7, 3) := by decide +kernel
theorem dX9_meansOf_33 : decode cX9_meansOf 33 = .ok (.bipush 26, 2) := by decide +kernel
theorem dX9_meansOf_35 : decode cX9_meansOf 35 = .ok (.iload 8, 2) := by decide +kernel
theorem dX9_meansOf_37 : decode cX9_meansOf 37 = .ok (.iadd, 1) := by decide +kernel
theorem dX9_meansOf_38 : decode cX9_meansOf 38 = .ok (.iaload, 1) := by decide +kernel
theorem dX9_meansOf_39 : decode cX9_meansOf 39 = .ok (.i2l, 1) := by decide +kernel
theorem dX9_meansOf_40 : decode cX9_meansOf 40 = .ok (.ladd, 1) := by decide +kernel
theorem dX9_meansOf_41 : decode cX9_meansOf 41 = .ok (.lstore 6, 2) := by decide +kernel
theorem dX9_meansOf_43 : decode cX9_meansOf 43 = .ok (.iinc 8 1, 3) := by decide +kernel
theorem dX9_meansOf_46 : decode cX9_meansOf 46 = .ok (.goto (-30), 3) := by decide +kernel
theorem dX9_meansOf_49 : decode cX9_meansOf 49 = .ok (.iconst 0, 1) := by decide +kernel
theorem dX9_meansOf_50 : decode cX9_meansOf 50 = .ok (.istore 8, 2) := by decide +kernel
theorem dX9_meansOf_52 : decode cX9_meansOf 52 = .ok (.iload 8, 2) := by decide +kernel
theorem dX9_meansOf_54 : decode cX9_meansOf 54 = .ok (.aload_n 0, 1) := by decide +kernel
theorem dX9_meansOf_55 : decode cX9_meansOf 55 = .ok (.getfield 162, 3) := by decide +kernel
theorem dX9_meansOf_58 : decode cX9_meansOf 58 = .ok (.if_icmp .ge 135, 3) := by decide +kernel
theorem dX9_meansOf_61 : decode cX9_meansOf 61 = .ok (.aload_n 0, 1) := by decide +kernel
theorem dX9_meansOf_62 : decode cX9_meansOf 62 = .ok (.getfield 187, 3) := by decide +kernel
theorem dX9_meansOf_65 : decode cX9_meansOf 65 = .ok (.ifCond .ne 128, 3) := by decide +kernel
theorem dX9_meansOf_68 : decode cX9_meansOf 68 = .ok (.aload_n 0, 1) := by decide +kernel
theorem dX9_meansOf_69 : decode cX9_meansOf 69 = .ok (.aload_n 0, 1) := by decide +kernel
theorem dX9_meansOf_70 : decode cX9_meansOf 70 = .ok (.getfield 44, 3) := by decide +kernel
theorem dX9_meansOf_73 : decode cX9_meansOf 73 = .ok (.iload 8, 2) := by decide +kernel
theorem dX9_meansOf_75 : decode cX9_meansOf 75 = .ok (.iaload, 1) := by decide +kernel
theorem dX9_meansOf_76 : decode cX9_meansOf 76 = .ok (.invokevirtual 211, 3) := by decide +kernel
theorem dX9_meansOf_79 : decode cX9_meansOf 79 = .ok (.iload_n 1, 1) := by decide +kernel
theorem dX9_meansOf_80 : decode cX9_meansOf 80 = .ok (.ifCond .eq 39, 3) := by decide +kernel
theorem dX9_meansOf_83 : decode cX9_meansOf 83 = .ok (.aload_n 0, 1) := by decide +kernel
theorem dX9_meansOf_84 : decode cX9_meansOf 84 = .ok (.aload_n 0, 1) := by decide +kernel
theorem dX9_meansOf_85 : decode cX9_meansOf 85 = .ok (.getfield 191, 3) := by decide +kernel
theorem dX9_meansOf_88 : decode cX9_meansOf 88 = .ok (.aload_n 0, 1) := by decide +kernel
theorem dX9_meansOf_89 : decode cX9_meansOf 89 = .ok (.getfield 194, 3) := by decide +kernel
theorem dX9_meansOf_92 : decode cX9_meansOf 92 = .ok (.lload 6, 2) := by decide +kernel
theorem dX9_meansOf_94 : decode cX9_meansOf 94 = .ok (.lneg, 1) := by decide +kernel
theorem dX9_meansOf_95 : decode cX9_meansOf 95 = .ok (.lconst 1, 1) := by decide +kernel
theorem dX9_meansOf_96 : decode cX9_meansOf 96 = .ok (.invokevirtual 207, 3) := by decide +kernel
theorem dX9_meansOf_99 : decode cX9_meansOf 99 = .ok (.aload_n 0, 1) := by decide +kernel
theorem dX9_meansOf_100 : decode cX9_meansOf 100 = .ok (.aload_n 0, 1) := by decide +kernel
theorem dX9_meansOf_101 : decode cX9_meansOf 101 = .ok (.getfield 191, 3) := by decide +kernel
theorem dX9_meansOf_104 : decode cX9_meansOf 104 = .ok (.aload_n 0, 1) := by decide +kernel
theorem dX9_meansOf_105 : decode cX9_meansOf 105 = .ok (.getfield 194, 3) := by decide +kernel
theorem dX9_meansOf_108 : decode cX9_meansOf 108 = .ok (.aload_n 0, 1) := by decide +kernel
theorem dX9_meansOf_109 : decode cX9_meansOf 109 = .ok (.getfield 191, 3) := by decide +kernel
theorem dX9_meansOf_112 : decode cX9_meansOf 112 = .ok (.aload_n 0, 1) := by decide +kernel
theorem dX9_meansOf_113 : decode cX9_meansOf 113 = .ok (.getfield 194, 3) := by decide +kernel
theorem dX9_meansOf_116 : decode cX9_meansOf 116 = .ok (.invokevirtual 215, 3) := by decide +kernel
theorem dX9_meansOf_119 : decode cX9_meansOf 119 = .ok (.aload_n 0, 1) := by decide +kernel
theorem dX9_meansOf_120 : decode cX9_meansOf 120 = .ok (.aload_n 0, 1) := by decide +kernel
theorem dX9_meansOf_121 : decode cX9_meansOf 121 = .ok (.getfield 191, 3) := by decide +kernel
theorem dX9_meansOf_124 : decode cX9_meansOf 124 = .ok (.aload_n 0, 1) := by decide +kernel
theorem dX9_meansOf_125 : decode cX9_meansOf 125 = .ok (.getfield 194, 3) := by decide +kernel
theorem dX9_meansOf_128 : decode cX9_meansOf 128 = .ok (.aload_n 0, 1) := by decide +kernel
theorem dX9_meansOf_129 : decode cX9_meansOf 129 = .ok (.getfield 41, 3) := by decide +kernel
theorem dX9_meansOf_132 : decode cX9_meansOf 132 = .ok (.iload 8, 2) := by decide +kernel
theorem dX9_meansOf_134 : decode cX9_meansOf 134 = .ok (.laload, 1) := by decide +kernel
theorem dX9_meansOf_135 : decode cX9_meansOf 135 = .ok (.aload_n 0, 1) := by decide +kernel
theorem dX9_meansOf_136 : decode cX9_meansOf 136 = .ok (.getfield 124, 3) := by decide +kernel
theorem dX9_meansOf_139 : decode cX9_meansOf 139 = .ok (.iconst 0, 1) := by decide +kernel
theorem dX9_meansOf_140 : decode cX9_meansOf 140 = .ok (.invokestatic 109, 3) := by decide +kernel
theorem dX9_meansOf_143 : decode cX9_meansOf 143 = .ok (.aload_n 0, 1) := by decide +kernel
theorem dX9_meansOf_144 : decode cX9_meansOf 144 = .ok (.getfield 41, 3) := by decide +kernel
theorem dX9_meansOf_147 : decode cX9_meansOf 147 = .ok (.iload 8, 2) := by decide +kernel
theorem dX9_meansOf_149 : decode cX9_meansOf 149 = .ok (.laload, 1) := by decide +kernel
theorem dX9_meansOf_150 : decode cX9_meansOf 150 = .ok (.aload_n 0, 1) := by decide +kernel
theorem dX9_meansOf_151 : decode cX9_meansOf 151 = .ok (.getfield 124, 3) := by decide +kernel
theorem dX9_meansOf_154 : decode cX9_meansOf 154 = .ok (.iconst 1, 1) := by decide +kernel
theorem dX9_meansOf_155 : decode cX9_meansOf 155 = .ok (.invokestatic 109, 3) := by decide +kernel
theorem dX9_meansOf_158 : decode cX9_meansOf 158 = .ok (.invokevirtual 215, 3) := by decide +kernel
theorem dX9_meansOf_161 : decode cX9_meansOf 161 = .ok (.aload_n 0, 1) := by decide +kernel
theorem dX9_meansOf_162 : decode cX9_meansOf 162 = .ok (.lload_n 2, 1) := by decide +kernel
theorem dX9_meansOf_163 : decode cX9_meansOf 163 = .ok (.lload 4, 2) := by decide +kernel
theorem dX9_meansOf_165 : decode cX9_meansOf 165 = .ok (.aload_n 0, 1) := by decide +kernel
theorem dX9_meansOf_166 : decode cX9_meansOf 166 = .ok (.getfield 191, 3) := by decide +kernel
theorem dX9_meansOf_169 : decode cX9_meansOf 169 = .ok (.aload_n 0, 1) := by decide +kernel
theorem dX9_meansOf_170 : decode cX9_meansOf 170 = .ok (.getfield 194, 3) := by decide +kernel
theorem dX9_meansOf_173 : decode cX9_meansOf 173 = .ok (.invokevirtual 207, 3) := by decide +kernel
theorem dX9_meansOf_176 : decode cX9_meansOf 176 = .ok (.aload_n 0, 1) := by decide +kernel
theorem dX9_meansOf_177 : decode cX9_meansOf 177 = .ok (.getfield 191, 3) := by decide +kernel
theorem dX9_meansOf_180 : decode cX9_meansOf 180 = .ok (.lstore_n 2, 1) := by decide +kernel
theorem dX9_meansOf_181 : decode cX9_meansOf 181 = .ok (.aload_n 0, 1) := by decide +kernel
theorem dX9_meansOf_182 : decode cX9_meansOf 182 = .ok (.getfield 194, 3) := by decide +kernel
theorem dX9_meansOf_185 : decode cX9_meansOf 185 = .ok (.lstore 4, 2) := by decide +kernel
theorem dX9_meansOf_187 : decode cX9_meansOf 187 = .ok (.iinc 8 1, 3) := by decide +kernel
theorem dX9_meansOf_190 : decode cX9_meansOf 190 = .ok (.goto (-138), 3) := by decide +kernel
theorem dX9_meansOf_193 : decode cX9_meansOf 193 = .ok (.aload_n 0, 1) := by decide +kernel
theorem dX9_meansOf_194 : decode cX9_meansOf 194 = .ok (.lload_n 2, 1) := by decide +kernel
theorem dX9_meansOf_195 : decode cX9_meansOf 195 = .ok (.putfield 191, 3) := by decide +kernel
theorem dX9_meansOf_198 : decode cX9_meansOf 198 = .ok (.aload_n 0, 1) := by decide +kernel
theorem dX9_meansOf_199 : decode cX9_meansOf 199 = .ok (.lload 4, 2) := by decide +kernel
theorem dX9_meansOf_201 : decode cX9_meansOf 201 = .ok (.putfield 194, 3) := by decide +kernel
theorem dX9_meansOf_204 : decode cX9_meansOf 204 = .ok (.aload_n 0, 1) := by decide +kernel
theorem dX9_meansOf_205 : decode cX9_meansOf 205 = .ok (.getfield 187, 3) := by decide +kernel
theorem dX9_meansOf_208 : decode cX9_meansOf 208 = .ok (.ifCond .ne 7, 3) := by decide +kernel
theorem dX9_meansOf_211 : decode cX9_meansOf 211 = .ok (.iconst 1, 1) := by decide +kernel
theorem dX9_meansOf_212 : decode cX9_meansOf 212 = .ok (.goto 4, 3) := by decide +kernel
theorem dX9_meansOf_215 : decode cX9_meansOf 215 = .ok (.iconst 0, 1) := by decide +kernel
theorem dX9_meansOf_216 : decode cX9_meansOf 216 = .ok (.ireturn, 1) := by decide +kernel
theorem dX9_meant_0 : decode cX9_meant 0 = .ok (.iload_n 1, 1) := by decide +kernel
theorem dX9_meant_1 : decode cX9_meant 1 = .ok (.invokestatic 106, 3) := by decide +kernel
theorem dX9_meant_4 : decode cX9_meant 4 = .ok (.ifCond .ne 10, 3) := by decide +kernel
theorem dX9_meant_7 : decode cX9_meant 7 = .ok (.aload_n 0, 1) := by decide +kernel
theorem dX9_meant_8 : decode cX9_meant 8 = .ok (.bipush (-2), 2) := by decide +kernel
theorem dX9_meant_10 : decode cX9_meant 10 = .ok (.invokevirtual 92, 3) := by decide +kernel
theorem dX9_meant_13 : decode cX9_meant 13 = .ok (.lreturn, 1) := by decide +kernel
theorem dX9_meant_14 : decode cX9_meant 14 = .ok (.aload_n 0, 1) := by decide +kernel
theorem dX9_meant_15 : decode cX9_meant 15 = .ok (.invokevirtual 169, 3) := by decide +kernel
theorem dX9_meant_18 : decode cX9_meant 18 = .ok (.ifCond .eq 11, 3) := by decide +kernel
theorem dX9_meant_21 : decode cX9_meant 21 = .ok (.aload_n 0, 1) := by decide +kernel
theorem dX9_meant_22 : decode cX9_meant 22 = .ok (.iload_n 2, 1) := by decide +kernel
theorem dX9_meant_23 : decode cX9_meant 23 = .ok (.invokevirtual 218, 3) := by decide +kernel
theorem dX9_meant_26 : decode cX9_meant 26 = .ok (.ifCond .ne 10, 3) := by decide +kernel
theorem dX9_meant_29 : decode cX9_meant 29 = .ok (.aload_n 0, 1) := by decide +kernel
theorem dX9_meant_30 : decode cX9_meant 30 = .ok (.bipush (-7), 2) := by decide +kernel
theorem dX9_meant_32 : decode cX9_meant 32 = .ok (.invokevirtual 92, 3) := by decide +kernel
theorem dX9_meant_35 : decode cX9_meant 35 = .ok (.lreturn, 1) := by decide +kernel
theorem dX9_meant_36 : decode cX9_meant 36 = .ok (.iload_n 1, 1) := by decide +kernel
theorem dX9_meant_37 : decode cX9_meant 37 = .ok (.ifCond .ne 10, 3) := by decide +kernel
theorem dX9_meant_40 : decode cX9_meant 40 = .ok (.aload_n 0, 1) := by decide +kernel
theorem dX9_meant_41 : decode cX9_meant 41 = .ok (.getfield 191, 3) := by decide +kernel
theorem dX9_meant_44 : decode cX9_meant 44 = .ok (.goto 7, 3) := by decide +kernel
theorem dX9_meant_47 : decode cX9_meant 47 = .ok (.aload_n 0, 1) := by decide +kernel
theorem dX9_meant_48 : decode cX9_meant 48 = .ok (.getfield 194, 3) := by decide +kernel
theorem dX9_meant_51 : decode cX9_meant 51 = .ok (.lreturn, 1) := by decide +kernel
theorem dX9_mean_0 : decode cX9_mean 0 = .ok (.aload_n 0, 1) := by decide +kernel
theorem dX9_mean_1 : decode cX9_mean 1 = .ok (.iload_n 1, 1) := by decide +kernel
theorem dX9_mean_2 : decode cX9_mean 2 = .ok (.iconst 0, 1) := by decide +kernel
theorem dX9_mean_3 : decode cX9_mean 3 = .ok (.invokevirtual 222, 3) := by decide +kernel
theorem dX9_mean_6 : decode cX9_mean 6 = .ok (.lreturn, 1) := by decide +kernel
theorem dX9_spread_0 : decode cX9_spread 0 = .ok (.aload_n 0, 1) := by decide +kernel
theorem dX9_spread_1 : decode cX9_spread 1 = .ok (.iload_n 1, 1) := by decide +kernel
theorem dX9_spread_2 : decode cX9_spread 2 = .ok (.iconst 1, 1) := by decide +kernel
theorem dX9_spread_3 : decode cX9_spread 3 = .ok (.invokevirtual 222, 3) := by decide +kernel
theorem dX9_spread_6 : decode cX9_spread 6 = .ok (.lreturn, 1) := by decide +kernel
theorem dX9_overlaps_0 : decode cX9_overlaps 0 = .ok (.lconst 0, 1) := by decide +kernel
theorem dX9_overlaps_1 : decode cX9_overlaps 1 = .ok (.lstore 10, 2) := by decide +kernel
theorem dX9_overlaps_3 : decode cX9_overlaps 3 = .ok (.lload 4, 2) := by decide +kernel
theorem dX9_overlaps_5 : decode cX9_overlaps 5 = .ok (.lload 8, 2) := by decide +kernel
theorem dX9_overlaps_7 : decode cX9_overlaps 7 = .ok (.lsub, 1) := by decide +kernel
theorem dX9_overlaps_8 : decode cX9_overlaps 8 = .ok (.lstore 12, 2) := by decide +kernel
theorem dX9_overlaps_10 : decode cX9_overlaps 10 = .ok (.lload 12, 2) := by decide +kernel
theorem dX9_overlaps_12 : decode cX9_overlaps 12 = .ok (.lload 4, 2) := by decide +kernel
theorem dX9_overlaps_14 : decode cX9_overlaps 14 = .ok (.lload 8, 2) := by decide +kernel
theorem dX9_overlaps_16 : decode cX9_overlaps 16 = .ok (.ladd, 1) := by decide +kernel
theorem dX9_overlaps_17 : decode cX9_overlaps 17 = .ok (.lcmp, 1) := by decide +kernel
theorem dX9_overlaps_18 : decode cX9_overlaps 18 = .ok (.ifCond .gt 40, 3) := by decide +kernel
theorem dX9_overlaps_21 : decode cX9_overlaps 21 = .ok (.lload 10, 2) := by decide +kernel
theorem dX9_overlaps_23 : decode cX9_overlaps 23 = .ok (.lconst 0, 1) := by decide +kernel
theorem dX9_overlaps_24 : decode cX9_overlaps 24 = .ok (.lload_n 0, 1) := by decide +kernel
theorem dX9_overlaps_25 : decode cX9_overlaps 25 = .ok (.lload_n 2, 1) := by decide +kernel
theorem dX9_overlaps_26 : decode cX9_overlaps 26 = .ok (.ladd, 1) := by decide +kernel
theorem dX9_overlaps_27 : decode cX9_overlaps 27 = .ok (.lload 12, 2) := by decide +kernel
theorem dX9_overlaps_29 : decode cX9_overlaps 29 = .ok (.lload 6, 2) := by decide +kernel
theorem dX9_overlaps_31 : decode cX9_overlaps 31 = .ok (.ladd, 1) := by decide +kernel
theorem dX9_overlaps_32 : decode cX9_overlaps 32 = .ok (.invokestatic 226, 3) := by decide +kernel
theorem dX9_overlaps_35 : decode cX9_overlaps 35 = .ok (.lload_n 0, 1) := by decide +kernel
theorem dX9_overlaps_36 : decode cX9_overlaps 36 = .ok (.lload 12, 2) := by decide +kernel
theorem dX9_overlaps_38 : decode cX9_overlaps 38 = .ok (.invokestatic 231, 3) := by decide +kernel
theorem dX9_overlaps_41 : decode cX9_overlaps 41 = .ok (.lsub, 1) := by decide +kernel
theorem dX9_overlaps_42 : decode cX9_overlaps 42 = .ok (.invokestatic 231, 3) := by decide +kernel
theorem dX9_overlaps_45 : decode cX9_overlaps 45 = .ok (.ladd, 1) := by decide +kernel
theorem dX9_overlaps_46 : decode cX9_overlaps 46 = .ok (.lstore 10, 2) := by decide +kernel
theorem dX9_overlaps_48 : decode cX9_overlaps 48 = .ok (.lload 12, 2) := by decide +kernel
theorem dX9_overlaps_50 : decode cX9_overlaps 50 = .ok (.lload 8, 2) := by decide +kernel
theorem dX9_overlaps_52 : decode cX9_overlaps 52 = .ok (.ladd, 1) := by decide +kernel
theorem dX9_overlaps_53 : decode cX9_overlaps 53 = .ok (.lstore 12, 2) := by decide +kernel
theorem dX9_overlaps_55 : decode cX9_overlaps 55 = .ok (.goto (-45), 3) := by decide +kernel
theorem dX9_overlaps_58 : decode cX9_overlaps 58 = .ok (.lload 10, 2) := by decide +kernel
theorem dX9_overlaps_60 : decode cX9_overlaps 60 = .ok (.lreturn, 1) := by decide +kernel
theorem dX9_twice_0 : decode cX9_twice 0 = .ok (.aload_n 0, 1) := by decide +kernel
theorem dX9_twice_1 : decode cX9_twice 1 = .ok (.iconst 1, 1) := by decide +kernel
theorem dX9_twice_2 : decode cX9_twice 2 = .ok (.invokevirtual 144, 3) := by decide +kernel
theorem dX9_twice_5 : decode cX9_twice 5 = .ok (.ifCond .eq 11, 3) := by decide +kernel
theorem dX9_twice_8 : decode cX9_twice 8 = .ok (.aload_n 0, 1) := by decide +kernel
theorem dX9_twice_9 : decode cX9_twice 9 = .ok (.iconst 0, 1) := by decide +kernel
theorem dX9_twice_10 : decode cX9_twice 10 = .ok (.invokevirtual 144, 3) := by decide +kernel
theorem dX9_twice_13 : decode cX9_twice 13 = .ok (.ifCond .ne 10, 3) := by decide +kernel
theorem dX9_twice_16 : decode cX9_twice 16 = .ok (.aload_n 0, 1) := by decide +kernel
theorem dX9_twice_17 : decode cX9_twice 17 = .ok (.bipush (-7), 2) := by decide +kernel
theorem dX9_twice_19 : decode cX9_twice 19 = .ok (.invokevirtual 71, 3) := by decide +kernel
theorem dX9_twice_22 : decode cX9_twice 22 = .ok (.ireturn, 1) := by decide +kernel
theorem dX9_twice_23 : decode cX9_twice 23 = .ok (.aload_n 0, 1) := by decide +kernel
theorem dX9_twice_24 : decode cX9_twice 24 = .ok (.iload_n 1, 1) := by decide +kernel
theorem dX9_twice_25 : decode cX9_twice 25 = .ok (.invokevirtual 151, 3) := by decide +kernel
theorem dX9_twice_28 : decode cX9_twice 28 = .ok (.ifCond .ne 10, 3) := by decide +kernel
theorem dX9_twice_31 : decode cX9_twice 31 = .ok (.aload_n 0, 1) := by decide +kernel
theorem dX9_twice_32 : decode cX9_twice 32 = .ok (.bipush (-2), 2) := by decide +kernel
theorem dX9_twice_34 : decode cX9_twice 34 = .ok (.invokevirtual 71, 3) := by decide +kernel
theorem dX9_twice_37 : decode cX9_twice 37 = .ok (.ireturn, 1) := by decide +kernel
theorem dX9_twice_38 : decode cX9_twice 38 = .ok (.aload_n 0, 1) := by decide +kernel
theorem dX9_twice_39 : decode cX9_twice 39 = .ok (.iload_n 1, 1) := by decide +kernel
theorem dX9_twice_40 : decode cX9_twice 40 = .ok (.i2l, 1) := by decide +kernel
theorem dX9_twice_41 : decode cX9_twice 41 = .ok (.invokevirtual 154, 3) := by decide +kernel
theorem dX9_twice_44 : decode cX9_twice 44 = .ok (.istore_n 3, 1) := by decide +kernel
theorem dX9_twice_45 : decode cX9_twice 45 = .ok (.aload_n 0, 1) := by decide +kernel
theorem dX9_twice_46 : decode cX9_twice 46 = .ok (.iconst 1, 1) := by decide +kernel
theorem dX9_twice_47 : decode cX9_twice 47 = .ok (.invokevirtual 144, 3) := by decide +kernel
theorem dX9_twice_50 : decode cX9_twice 50 = .ok (.pop, 1) := by decide +kernel
theorem dX9_twice_51 : decode cX9_twice 51 = .ok (.aload_n 0, 1) := by decide +kernel
theorem dX9_twice_52 : decode cX9_twice 52 = .ok (.iload_n 2, 1) := by decide +kernel
theorem dX9_twice_53 : decode cX9_twice 53 = .ok (.invokevirtual 151, 3) := by decide +kernel
theorem dX9_twice_56 : decode cX9_twice 56 = .ok (.ifCond .ne 10, 3) := by decide +kernel
theorem dX9_twice_59 : decode cX9_twice 59 = .ok (.aload_n 0, 1) := by decide +kernel
theorem dX9_twice_60 : decode cX9_twice 60 = .ok (.bipush (-2), 2) := by decide +kernel
theorem dX9_twice_62 : decode cX9_twice 62 = .ok (.invokevirtual 71, 3) := by decide +kernel
theorem dX9_twice_65 : decode cX9_twice 65 = .ok (.ireturn, 1) := by decide +kernel
theorem dX9_twice_66 : decode cX9_twice 66 = .ok (.aload_n 0, 1) := by decide +kernel
theorem dX9_twice_67 : decode cX9_twice 67 = .ok (.iconst 1, 1) := by decide +kernel
theorem dX9_twice_68 : decode cX9_twice 68 = .ok (.aload_n 0, 1) := by decide +kernel
theorem dX9_twice_69 : decode cX9_twice 69 = .ok (.getfield 25, 3) := by decide +kernel
theorem dX9_twice_72 : decode cX9_twice 72 = .ok (.aload_n 0, 1) := by decide +kernel
theorem dX9_twice_73 : decode cX9_twice 73 = .ok (.getfield 29, 3) := by decide +kernel
theorem dX9_twice_76 : decode cX9_twice 76 = .ok (.iload_n 3, 1) := by decide +kernel
theorem dX9_twice_77 : decode cX9_twice 77 = .ok (.invokevirtual 140, 3) := by decide +kernel
theorem dX9_twice_80 : decode cX9_twice 80 = .ok (.pop, 1) := by decide +kernel
theorem dX9_twice_81 : decode cX9_twice 81 = .ok (.aload_n 0, 1) := by decide +kernel
theorem dX9_twice_82 : decode cX9_twice 82 = .ok (.iload_n 2, 1) := by decide +kernel
theorem dX9_twice_83 : decode cX9_twice 83 = .ok (.i2l, 1) := by decide +kernel
theorem dX9_twice_84 : decode cX9_twice 84 = .ok (.invokevirtual 154, 3) := by decide +kernel
theorem dX9_twice_87 : decode cX9_twice 87 = .ok (.ireturn, 1) := by decide +kernel
theorem dX9_both_0 : decode cX9_both 0 = .ok (.aload_n 0, 1) := by decide +kernel
theorem dX9_both_1 : decode cX9_both 1 = .ok (.iload_n 1, 1) := by decide +kernel
theorem dX9_both_2 : decode cX9_both 2 = .ok (.invokevirtual 85, 3) := by decide +kernel
theorem dX9_both_5 : decode cX9_both 5 = .ok (.ifCond .eq 11, 3) := by decide +kernel
theorem dX9_both_8 : decode cX9_both 8 = .ok (.aload_n 0, 1) := by decide +kernel
theorem dX9_both_9 : decode cX9_both 9 = .ok (.iload_n 2, 1) := by decide +kernel
theorem dX9_both_10 : decode cX9_both 10 = .ok (.invokevirtual 85, 3) := by decide +kernel
theorem dX9_both_13 : decode cX9_both 13 = .ok (.ifCond .ne 9, 3) := by decide +kernel
theorem dX9_both_16 : decode cX9_both 16 = .ok (.aload_n 0, 1) := by decide +kernel
theorem dX9_both_17 : decode cX9_both 17 = .ok (.iconst (-1), 1) := by decide +kernel
theorem dX9_both_18 : decode cX9_both 18 = .ok (.invokevirtual 92, 3) := by decide +kernel
theorem dX9_both_21 : decode cX9_both 21 = .ok (.lreturn, 1) := by decide +kernel
theorem dX9_both_22 : decode cX9_both 22 = .ok (.iload_n 3, 1) := by decide +kernel
theorem dX9_both_23 : decode cX9_both 23 = .ok (.invokestatic 106, 3) := by decide +kernel
theorem dX9_both_26 : decode cX9_both 26 = .ok (.ifCond .ne 10, 3) := by decide +kernel
theorem dX9_both_29 : decode cX9_both 29 = .ok (.aload_n 0, 1) := by decide +kernel
theorem dX9_both_30 : decode cX9_both 30 = .ok (.bipush (-2), 2) := by decide +kernel
theorem dX9_both_32 : decode cX9_both 32 = .ok (.invokevirtual 92, 3) := by decide +kernel
theorem dX9_both_35 : decode cX9_both 35 = .ok (.lreturn, 1) := by decide +kernel
theorem dX9_both_36 : decode cX9_both 36 = .ok (.aload_n 0, 1) := by decide +kernel
theorem dX9_both_37 : decode cX9_both 37 = .ok (.iconst 1, 1) := by decide +kernel
theorem dX9_both_38 : decode cX9_both 38 = .ok (.invokevirtual 144, 3) := by decide +kernel
theorem dX9_both_41 : decode cX9_both 41 = .ok (.ifCond .eq 10, 3) := by decide +kernel
theorem dX9_both_44 : decode cX9_both 44 = .ok (.aload_n 0, 1) := by decide +kernel
theorem dX9_both_45 : decode cX9_both 45 = .ok (.invokevirtual 169, 3) := by decide +kernel
theorem dX9_both_48 : decode cX9_both 48 = .ok (.ifCond .ne 10, 3) := by decide +kernel
theorem dX9_both_51 : decode cX9_both 51 = .ok (.aload_n 0, 1) := by decide +kernel
theorem dX9_both_52 : decode cX9_both 52 = .ok (.bipush (-7), 2) := by decide +kernel
theorem dX9_both_54 : decode cX9_both 54 = .ok (.invokevirtual 92, 3) := by decide +kernel
theorem dX9_both_57 : decode cX9_both 57 = .ok (.lreturn, 1) := by decide +kernel
theorem dX9_both_58 : decode cX9_both 58 = .ok (.aload_n 0, 1) := by decide +kernel
theorem dX9_both_59 : decode cX9_both 59 = .ok (.getfield 124, 3) := by decide +kernel
theorem dX9_both_62 : decode cX9_both 62 = .ok (.lstore 4, 2) := by decide +kernel
theorem dX9_both_64 : decode cX9_both 64 = .ok (.aload_n 0, 1) := by decide +kernel
theorem dX9_both_65 : decode cX9_both 65 = .ok (.iconst 1, 1) := by decide +kernel
theorem dX9_both_66 : decode cX9_both 66 = .ok (.invokevirtual 144, 3) := by decide +kernel
theorem dX9_both_69 : decode cX9_both 69 = .ok (.pop, 1) := by decide +kernel
theorem dX9_both_70 : decode cX9_both 70 = .ok (.lconst 0, 1) := by decide +kernel
theorem dX9_both_71 : decode cX9_both 71 = .ok (.lstore 6, 2) := by decide +kernel
theorem dX9_both_73 : decode cX9_both 73 = .ok (.iconst 0, 1) := by decide +kernel
theorem dX9_both_74 : decode cX9_both 74 = .ok (.istore 8, 2) := by decide +kernel
theorem dX9_both_76 : decode cX9_both 76 = .ok (.iload 8, 2) := by decide +kernel
theorem dX9_both_78 : decode cX9_both 78 = .ok (.aload_n 0, 1) := by decide +kernel
theorem dX9_both_79 : decode cX9_both 79 = .ok (.getfield 162, 3) := by decide +kernel
theorem dX9_both_82 : decode cX9_both 82 = .ok (.if_icmp .ge 107, 3) := by decide +kernel
theorem dX9_both_85 : decode cX9_both 85 = .ok (.aload_n 0, 1) := by decide +kernel
theorem dX9_both_86 : decode cX9_both 86 = .ok (.aload_n 0, 1) := by decide +kernel
theorem dX9_both_87 : decode cX9_both 87 = .ok (.getfield 44, 3) := by decide +kernel
theorem dX9_both_90 : decode cX9_both 90 = .ok (.iload 8, 2) := by decide +kernel
theorem dX9_both_92 : decode cX9_both 92 = .ok (.iaload, 1) := by decide +kernel
theorem dX9_both_93 : decode cX9_both 93 = .ok (.iload_n 1, 1) := by decide +kernel
theorem dX9_both_94 : decode cX9_both 94 = .ok (.invokevirtual 173, 3) := by decide +kernel
theorem dX9_both_97 : decode cX9_both 97 = .ok (.ifCond .eq 86, 3) := by decide +kernel
theorem dX9_both_100 : decode cX9_both 100 = .ok (.aload_n 0, 1) := by decide +kernel
theorem dX9_both_101 : decode cX9_both 101 = .ok (.aload_n 0, 1) := by decide +kernel
theorem dX9_both_102 : decode cX9_both 102 = .ok (.getfield 44, 3) := by decide +kernel
theorem dX9_both_105 : decode cX9_both 105 = .ok (.iload 8, 2) := by decide +kernel
theorem dX9_both_107 : decode cX9_both 107 = .ok (.iaload, 1) := by decide +kernel
theorem dX9_both_108 : decode cX9_both 108 = .ok (.iload_n 2, 1) := by decide +kernel
theorem dX9_both_109 : decode cX9_both 109 = .ok (.invokevirtual 173, 3) := by decide +kernel
theorem dX9_both_112 : decode cX9_both 112 = .ok (.ifCond .ne 6, 3) := by decide +kernel
theorem dX9_both_115 : decode cX9_both 115 = .ok (.goto 68, 3) := by decide +kernel
theorem dX9_both_118 : decode cX9_both 118 = .ok (.aload_n 0, 1) := by decide +kernel
theorem dX9_both_119 : decode cX9_both 119 = .ok (.iconst 1, 1) := by decide +kernel
theorem dX9_both_120 : decode cX9_both 120 = .ok (.aload_n 0, 1) := by decide +kernel
theorem dX9_both_121 : decode cX9_both 121 = .ok (.getfield 25, 3) := by decide +kernel
theorem dX9_both_124 : decode cX9_both 124 = .ok (.aload_n 0, 1) := by decide +kernel
theorem dX9_both_125 : decode cX9_both 125 = .ok (.getfield 29, 3) := by decide +kernel
theorem dX9_both_128 : decode cX9_both 128 = .ok (.aload_n 0, 1) := by decide +kernel
theorem dX9_both_129 : decode cX9_both 129 = .ok (.getfield 44, 3) := by decide +kernel
theorem dX9_both_132 : decode cX9_both 132 = .ok (.iload 8, 2) := by decide +kernel
theorem dX9_both_134 : decode cX9_both 134 = .ok (.iaload, 1) := by decide +kernel
theorem dX9_both_135 : decode cX9_both 135 = .ok (.invokevirtual 140, 3) := by decide +kernel
theorem dX9_both_138 : decode cX9_both 138 = .ok (.pop, 1) := by decide +kernel
theorem dX9_both_139 : decode cX9_both 139 = .ok (.lload 6, 2) := by decide +kernel
theorem dX9_both_141 : decode cX9_both 141 = .ok (.aload_n 0, 1) := by decide +kernel
theorem dX9_both_142 : decode cX9_both 142 = .ok (.getfield 41, 3) := by decide +kernel
theorem dX9_both_145 : decode cX9_both 145 = .ok (.iload 8, 2) := by decide +kernel
theorem dX9_both_147 : decode cX9_both 147 = .ok (.laload, 1) := by decide +kernel
theorem dX9_both_148 : decode cX9_both 148 = .ok (.aload_n 0, 1) := by decide +kernel
theorem dX9_both_149 : decode cX9_both 149 = .ok (.getfield 25, 3) := by decide +kernel
theorem dX9_both_152 : decode cX9_both 152 = .ok (.iload_n 1, 1) := by decide +kernel
theorem dX9_both_153 : decode cX9_both 153 = .ok (.laload, 1) := by decide +kernel
theorem dX9_both_154 : decode cX9_both 154 = .ok (.aload_n 0, 1) := by decide +kernel
theorem dX9_both_155 : decode cX9_both 155 = .ok (.getfield 29, 3) := by decide +kernel
theorem dX9_both_158 : decode cX9_both 158 = .ok (.iload_n 1, 1) := by decide +kernel
theorem dX9_both_159 : decode cX9_both 159 = .ok (.laload, 1) := by decide +kernel
theorem dX9_both_160 : decode cX9_both 160 = .ok (.aload_n 0, 1) := by decide +kernel
theorem dX9_both_161 : decode cX9_both 161 = .ok (.getfield 25, 3) := by decide +kernel
theorem dX9_both_164 : decode cX9_both 164 = .ok (.iload_n 2, 1) := by decide +kernel
theorem dX9_both_165 : decode cX9_both 165 = .ok (.laload, 1) := by decide +kernel
theorem dX9_both_166 : decode cX9_both 166 = .ok (.aload_n 0, 1) := by decide +kernel
theorem dX9_both_167 : decode cX9_both 167 = .ok (.getfield 29, 3) := by decide +kernel
theorem dX9_both_170 : decode cX9_both 170 = .ok (.iload_n 2, 1) := by decide +kernel
theorem dX9_both_171 : decode cX9_both 171 = .ok (.laload, 1) := by decide +kernel
theorem dX9_both_172 : decode cX9_both 172 = .ok (.aload_n 0, 1) := by decide +kernel
theorem dX9_both_173 : decode cX9_both 173 = .ok (.getfield 124, 3) := by decide +kernel
theorem dX9_both_176 : decode cX9_both 176 = .ok (.invokestatic 234, 3) := by decide +kernel
theorem dX9_both_179 : decode cX9_both 179 = .ok (.lmul, 1) := by decide +kernel
theorem dX9_both_180 : decode cX9_both 180 = .ok (.ladd, 1) := by decide +kernel
theorem dX9_both_181 : decode cX9_both 181 = .ok (.lstore 6, 2) := by decide +kernel
theorem dX9_both_183 : decode cX9_both 183 = .ok (.iinc 8 1, 3) := by decide +kernel
theorem dX9_both_186 : decode cX9_both 186 = .ok (.goto (-110), 3) := by decide +kernel
theorem dX9_both_189 : decode cX9_both 189 = .ok (.lload 6, 2) := by decide +kernel
theorem dX9_both_191 : decode cX9_both 191 = .ok (.lload 4, 2) := by decide +kernel
theorem dX9_both_193 : decode cX9_both 193 = .ok (.aload_n 0, 1) := by decide +kernel
theorem dX9_both_194 : decode cX9_both 194 = .ok (.getfield 124, 3) := by decide +kernel
theorem dX9_both_197 : decode cX9_both 197 = .ok (.lmul, 1) := by decide +kernel
theorem dX9_both_198 : decode cX9_both 198 = .ok (.iload_n 3, 1) := by decide +kernel
theorem dX9_both_199 : decode cX9_both 199 = .ok (.invokestatic 109, 3) := by decide +kernel
theorem dX9_both_202 : decode cX9_both 202 = .ok (.lreturn, 1) := by decide +kernel
theorem dX9_keptOf_0 : decode cX9_keptOf 0 = .ok (.aload_n 0, 1) := by decide +kernel
theorem dX9_keptOf_1 : decode cX9_keptOf 1 = .ok (.getfield 25, 3) := by decide +kernel
theorem dX9_keptOf_4 : decode cX9_keptOf 4 = .ok (.iload_n 1, 1) := by decide +kernel
theorem dX9_keptOf_5 : decode cX9_keptOf 5 = .ok (.laload, 1) := by decide +kernel
theorem dX9_keptOf_6 : decode cX9_keptOf 6 = .ok (.aload_n 0, 1) := by decide +kernel
theorem dX9_keptOf_7 : decode cX9_keptOf 7 = .ok (.getfield 29, 3) := by decide +kernel
theorem dX9_keptOf_10 : decode cX9_keptOf 10 = .ok (.iload_n 1, 1) := by decide +kernel
theorem dX9_keptOf_11 : decode cX9_keptOf 11 = .ok (.laload, 1) := by decide +kernel
theorem dX9_keptOf_12 : decode cX9_keptOf 12 = .ok (.aload_n 0, 1) := by decide +kernel
theorem dX9_keptOf_13 : decode cX9_keptOf 13 = .ok (.getfield 32, 3) := by decide +kernel
theorem dX9_keptOf_16 : decode cX9_keptOf 16 = .ok (.iload_n 1, 1) := by decide +kernel
theorem dX9_keptOf_17 : decode cX9_keptOf 17 = .ok (.laload, 1) := by decide +kernel
theorem dX9_keptOf_18 : decode cX9_keptOf 18 = .ok (.lload_n 2, 1) := by decide +kernel
theorem dX9_keptOf_19 : decode cX9_keptOf 19 = .ok (.ladd, 1) := by decide +kernel
theorem dX9_keptOf_20 : decode cX9_keptOf 20 = .ok (.aload_n 0, 1) := by decide +kernel
theorem dX9_keptOf_21 : decode cX9_keptOf 21 = .ok (.getfield 124, 3) := by decide +kernel
theorem dX9_keptOf_24 : decode cX9_keptOf 24 = .ok (.lrem, 1) := by decide +kernel
theorem dX9_keptOf_25 : decode cX9_keptOf 25 = .ok (.aload_n 0, 1) := by decide +kernel
theorem dX9_keptOf_26 : decode cX9_keptOf 26 = .ok (.getfield 35, 3) := by decide +kernel
theorem dX9_keptOf_29 : decode cX9_keptOf 29 = .ok (.iload_n 1, 1) := by decide +kernel
theorem dX9_keptOf_30 : decode cX9_keptOf 30 = .ok (.laload, 1) := by decide +kernel
theorem dX9_keptOf_31 : decode cX9_keptOf 31 = .ok (.aload_n 0, 1) := by decide +kernel
theorem dX9_keptOf_32 : decode cX9_keptOf 32 = .ok (.getfield 124, 3) := by decide +kernel
theorem dX9_keptOf_35 : decode cX9_keptOf 35 = .ok (.invokestatic 234, 3) := by decide +kernel
theorem dX9_keptOf_38 : decode cX9_keptOf 38 = .ok (.lreturn, 1) := by decide +kernel
theorem dX9_overlapOf_0 : decode cX9_overlapOf 0 = .ok (.lconst 0, 1) := by decide +kernel
theorem dX9_overlapOf_1 : decode cX9_overlapOf 1 = .ok (.lstore_n 3, 1) := by decide +kernel
theorem dX9_overlapOf_2 : decode cX9_overlapOf 2 = .ok (.iconst 0, 1) := by decide +kernel
theorem dX9_overlapOf_3 : decode cX9_overlapOf 3 = .ok (.istore 5, 2) := by decide +kernel
theorem dX9_overlapOf_5 : decode cX9_overlapOf 5 = .ok (.iload 5, 2) := by decide +kernel
theorem dX9_overlapOf_7 : decode cX9_overlapOf 7 = .ok (.aload_n 0, 1) := by decide +kernel
theorem dX9_overlapOf_8 : decode cX9_overlapOf 8 = .ok (.getfield 7, 3) := by decide +kernel
theorem dX9_overlapOf_11 : decode cX9_overlapOf 11 = .ok (.iconst 0, 1) := by decide +kernel
theorem dX9_overlapOf_12 : decode cX9_overlapOf 12 = .ok (.iaload, 1) := by decide +kernel
theorem dX9_overlapOf_13 : decode cX9_overlapOf 13 = .ok (.if_icmp .ge 19, 3) := by decide +kernel
theorem dX9_overlapOf_16 : decode cX9_overlapOf 16 = .ok (.lload_n 3, 1) := by decide +kernel
theorem dX9_overlapOf_17 : decode cX9_overlapOf 17 = .ok (.aload_n 0, 1) := by decide +kernel
theorem dX9_overlapOf_18 : decode cX9_overlapOf 18 = .ok (.iload 5, 2) := by decide +kernel
theorem dX9_overlapOf_20 : decode cX9_overlapOf 20 = .ok (.lload_n 1, 1) := by decide +kernel
theorem dX9_overlapOf_21 : decode cX9_overlapOf 21 = .ok (.invokevirtual 238, 3) := by decide +kernel
theorem dX9_overlapOf_24 : decode cX9_overlapOf 24 = .ok (.ladd, 1) := by decide +kernel
theorem dX9_overlapOf_25 : decode cX9_overlapOf 25 = .ok (.lstore_n 3, 1) := by decide +kernel
theorem dX9_overlapOf_26 : decode cX9_overlapOf 26 = .ok (.iinc 5 1, 3) := by decide +kernel
theorem dX9_overlapOf_29 : decode cX9_overlapOf 29 = .ok (.goto (-24), 3) := by decide +kernel
theorem dX9_overlapOf_32 : decode cX9_overlapOf 32 = .ok (.lload_n 3, 1) := by decide +kernel
theorem dX9_overlapOf_33 : decode cX9_overlapOf 33 = .ok (.lreturn, 1) := by decide +kernel
theorem dX9_kept_0 : decode cX9_kept 0 = .ok (.aload_n 0, 1) := by decide +kernel
theorem dX9_kept_1 : decode cX9_kept 1 = .ok (.iload_n 1, 1) := by decide +kernel
theorem dX9_kept_2 : decode cX9_kept 2 = .ok (.invokevirtual 85, 3) := by decide +kernel
theorem dX9_kept_5 : decode cX9_kept 5 = .ok (.ifCond .ne 9, 3) := by decide +kernel
theorem dX9_kept_8 : decode cX9_kept 8 = .ok (.aload_n 0, 1) := by decide +kernel
theorem dX9_kept_9 : decode cX9_kept 9 = .ok (.iconst (-1), 1) := by decide +kernel
theorem dX9_kept_10 : decode cX9_kept 10 = .ok (.invokevirtual 92, 3) := by decide +kernel
theorem dX9_kept_13 : decode cX9_kept 13 = .ok (.lreturn, 1) := by decide +kernel
theorem dX9_kept_14 : decode cX9_kept 14 = .ok (.iload_n 3, 1) := by decide +kernel
theorem dX9_kept_15 : decode cX9_kept 15 = .ok (.invokestatic 106, 3) := by decide +kernel
theorem dX9_kept_18 : decode cX9_kept 18 = .ok (.ifCond .ne 10, 3) := by decide +kernel
theorem dX9_kept_21 : decode cX9_kept 21 = .ok (.aload_n 0, 1) := by decide +kernel
theorem dX9_kept_22 : decode cX9_kept 22 = .ok (.bipush (-2), 2) := by decide +kernel
theorem dX9_kept_24 : decode cX9_kept 24 = .ok (.invokevirtual 92, 3) := by decide +kernel
theorem dX9_kept_27 : decode cX9_kept 27 = .ok (.lreturn, 1) := by decide +kernel
theorem dX9_kept_28 : decode cX9_kept 28 = .ok (.aload_n 0, 1) := by decide +kernel
theorem dX9_kept_29 : decode cX9_kept 29 = .ok (.iconst 2, 1) := by decide +kernel
theorem dX9_kept_30 : decode cX9_kept 30 = .ok (.invokevirtual 144, 3) := by decide +kernel
theorem dX9_kept_33 : decode cX9_kept 33 = .ok (.ifCond .ne 10, 3) := by decide +kernel
theorem dX9_kept_36 : decode cX9_kept 36 = .ok (.aload_n 0, 1) := by decide +kernel
theorem dX9_kept_37 : decode cX9_kept 37 = .ok (.bipush (-7), 2) := by decide +kernel
theorem dX9_kept_39 : decode cX9_kept 39 = .ok (.invokevirtual 92, 3) := by decide +kernel
theorem dX9_kept_42 : decode cX9_kept 42 = .ok (.lreturn, 1) := by decide +kernel
theorem dX9_kept_43 : decode cX9_kept 43 = .ok (.aload_n 0, 1) := by decide +kernel
theorem dX9_kept_44 : decode cX9_kept 44 = .ok (.iload_n 2, 1) := by decide +kernel
theorem dX9_kept_45 : decode cX9_kept 45 = .ok (.invokevirtual 151, 3) := by decide +kernel
theorem dX9_kept_48 : decode cX9_kept 48 = .ok (.ifCond .eq 21, 3) := by decide +kernel
theorem dX9_kept_51 : decode cX9_kept 51 = .ok (.aload_n 0, 1) := by decide +kernel
theorem dX9_kept_52 : decode cX9_kept 52 = .ok (.iload_n 1, 1) := by decide +kernel
theorem dX9_kept_53 : decode cX9_kept 53 = .ok (.iload_n 2, 1) := by decide +kernel
theorem dX9_kept_54 : decode cX9_kept 54 = .ok (.i2l, 1) := by decide +kernel
theorem dX9_kept_55 : decode cX9_kept 55 = .ok (.invokevirtual 238, 3) := by decide +kernel
theorem dX9_kept_58 : decode cX9_kept 58 = .ok (.aload_n 0, 1) := by decide +kernel
theorem dX9_kept_59 : decode cX9_kept 59 = .ok (.getfield 124, 3) := by decide +kernel
theorem dX9_kept_62 : decode cX9_kept 62 = .ok (.iload_n 3, 1) := by decide +kernel
theorem dX9_kept_63 : decode cX9_kept 63 = .ok (.invokestatic 109, 3) := by decide +kernel
theorem dX9_kept_66 : decode cX9_kept 66 = .ok (.goto 9, 3) := by decide +kernel
theorem dX9_kept_69 : decode cX9_kept 69 = .ok (.aload_n 0, 1) := by decide +kernel
theorem dX9_kept_70 : decode cX9_kept 70 = .ok (.bipush (-2), 2) := by decide +kernel
theorem dX9_kept_72 : decode cX9_kept 72 = .ok (.invokevirtual 92, 3) := by decide +kernel
theorem dX9_kept_75 : decode cX9_kept 75 = .ok (.lreturn, 1) := by decide +kernel
theorem dX9_overlap_0 : decode cX9_overlap 0 = .ok (.iload_n 2, 1) := by decide +kernel
theorem dX9_overlap_1 : decode cX9_overlap 1 = .ok (.invokestatic 106, 3) := by decide +kernel
theorem dX9_overlap_4 : decode cX9_overlap 4 = .ok (.ifCond .ne 10, 3) := by decide +kernel
theorem dX9_overlap_7 : decode cX9_overlap 7 = .ok (.aload_n 0, 1) := by decide +kernel
theorem dX9_overlap_8 : decode cX9_overlap 8 = .ok (.bipush (-2), 2) := by decide +kernel
theorem dX9_overlap_10 : decode cX9_overlap 10 = .ok (.invokevirtual 92, 3) := by decide +kernel
theorem dX9_overlap_13 : decode cX9_overlap 13 = .ok (.lreturn, 1) := by decide +kernel
theorem dX9_overlap_14 : decode cX9_overlap 14 = .ok (.aload_n 0, 1) := by decide +kernel
theorem dX9_overlap_15 : decode cX9_overlap 15 = .ok (.iconst 2, 1) := by decide +kernel
theorem dX9_overlap_16 : decode cX9_overlap 16 = .ok (.invokevirtual 144, 3) := by decide +kernel
theorem dX9_overlap_19 : decode cX9_overlap 19 = .ok (.ifCond .ne 10, 3) := by decide +kernel
theorem dX9_overlap_22 : decode cX9_overlap 22 = .ok (.aload_n 0, 1) := by decide +kernel
theorem dX9_overlap_23 : decode cX9_overlap 23 = .ok (.bipush (-7), 2) := by decide +kernel
theorem dX9_overlap_25 : decode cX9_overlap 25 = .ok (.invokevirtual 92, 3) := by decide +kernel
theorem dX9_overlap_28 : decode cX9_overlap 28 = .ok (.lreturn, 1) := by decide +kernel
theorem dX9_overlap_29 : decode cX9_overlap 29 = .ok (.aload_n 0, 1) := by decide +kernel
theorem dX9_overlap_30 : decode cX9_overlap 30 = .ok (.iload_n 1, 1) := by decide +kernel
theorem dX9_overlap_31 : decode cX9_overlap 31 = .ok (.invokevirtual 151, 3) := by decide +kernel
theorem dX9_overlap_34 : decode cX9_overlap 34 = .ok (.ifCond .eq 20, 3) := by decide +kernel
theorem dX9_overlap_37 : decode cX9_overlap 37 = .ok (.aload_n 0, 1) := by decide +kernel
theorem dX9_overlap_38 : decode cX9_overlap 38 = .ok (.iload_n 1, 1) := by decide +kernel
theorem dX9_overlap_39 : decode cX9_overlap 39 = .ok (.i2l, 1) := by decide +kernel
theorem dX9_overlap_40 : decode cX9_overlap 40 = .ok (.invokevirtual 242, 3) := by decide +kernel
theorem dX9_overlap_43 : decode cX9_overlap 43 = .ok (.aload_n 0, 1) := by decide +kernel
theorem dX9_overlap_44 : decode cX9_overlap 44 = .ok (.getfield 124, 3) := by decide +kernel
theorem dX9_overlap_47 : decode cX9_overlap 47 = .ok (.iload_n 2, 1) := by decide +kernel
theorem dX9_overlap_48 : decode cX9_overlap 48 = .ok (.invokestatic 109, 3) := by decide +kernel
theorem dX9_overlap_51 : decode cX9_overlap 51 = .ok (.goto 9, 3) := by decide +kernel
theorem dX9_overlap_54 : decode cX9_overlap 54 = .ok (.aload_n 0, 1) := by decide +kernel
theorem dX9_overlap_55 : decode cX9_overlap 55 = .ok (.bipush (-2), 2) := by decide +kernel
theorem dX9_overlap_57 : decode cX9_overlap 57 = .ok (.invokevirtual 92, 3) := by decide +kernel
theorem dX9_overlap_60 : decode cX9_overlap 60 = .ok (.lreturn, 1) := by decide +kernel
theorem dX9_shift_0 : decode cX9_shift 0 = .ok (.iload_n 1, 1) := by decide +kernel
theorem dX9_shift_1 : decode cX9_shift 1 = .ok (.iconst 0, 1) := by decide +kernel
theorem dX9_shift_2 : decode cX9_shift 2 = .ok (.iconst 1, 1) := by decide +kernel
theorem dX9_shift_3 : decode cX9_shift 3 = .ok (.invokestatic 75, 3) := by decide +kernel
theorem dX9_shift_6 : decode cX9_shift 6 = .ok (.ifCond .ne 9, 3) := by decide +kernel
theorem dX9_shift_9 : decode cX9_shift 9 = .ok (.aload_n 0, 1) := by decide +kernel
theorem dX9_shift_10 : decode cX9_shift 10 = .ok (.iconst (-1), 1) := by decide +kernel
theorem dX9_shift_11 : decode cX9_shift 11 = .ok (.invokevirtual 71, 3) := by decide +kernel
theorem dX9_shift_14 : decode cX9_shift 14 = .ok (.ireturn, 1) := by decide +kernel
theorem dX9_shift_15 : decode cX9_shift 15 = .ok (.aload_n 0, 1) := by decide +kernel
theorem dX9_shift_16 : decode cX9_shift 16 = .ok (.iconst 2, 1) := by decide +kernel
theorem dX9_shift_17 : decode cX9_shift 17 = .ok (.invokevirtual 144, 3) := by decide +kernel
theorem dX9_shift_20 : decode cX9_shift 20 = .ok (.ifCond .ne 10, 3) := by decide +kernel
theorem dX9_shift_23 : decode cX9_shift 23 = .ok (.aload_n 0, 1) := by decide +kernel
theorem dX9_shift_24 : decode cX9_shift 24 = .ok (.bipush (-7), 2) := by decide +kernel
theorem dX9_shift_26 : decode cX9_shift 26 = .ok (.invokevirtual 71, 3) := by decide +kernel
theorem dX9_shift_29 : decode cX9_shift 29 = .ok (.ireturn, 1) := by decide +kernel
theorem dX9_shift_30 : decode cX9_shift 30 = .ok (.lconst 0, 1) := by decide +kernel
theorem dX9_shift_31 : decode cX9_shift 31 = .ok (.lstore_n 2, 1) := by decide +kernel
theorem dX9_shift_32 : decode cX9_shift 32 = .ok (.aload_n 0, 1) := by decide +kernel
theorem dX9_shift_33 : decode cX9_shift 33 = .ok (.lconst 0, 1) := by decide +kernel
theorem dX9_shift_34 : decode cX9_shift 34 = .ok (.invokevirtual 242, 3) := by decide +kernel
theorem dX9_shift_37 : decode cX9_shift 37 = .ok (.lstore 4, 2) := by decide +kernel
theorem dX9_shift_39 : decode cX9_shift 39 = .ok (.iconst 0, 1) := by decide +kernel
theorem dX9_shift_40 : decode cX9_shift 40 = .ok (.istore 6, 2) := by decide +kernel
theorem dX9_shift_42 : decode cX9_shift 42 = .ok (.iload 6, 2) := by decide +kernel
theorem dX9_shift_44 : decode cX9_shift 44 = .ok (.aload_n 0, 1) := by decide +kernel
theorem dX9_shift_45 : decode cX9_shift 45 = .ok (.getfield 7, 3) := by decide +kernel
theorem dX9_shift_48 : decode cX9_shift 48 = .ok (.iconst 0, 1) := by decide +kernel
theorem dX9_shift_49 : decode cX9_shift 49 = .ok (.iaload, 1) := by decide +kernel
theorem dX9_shift_50 : decode cX9_shift 50 = .ok (.if_icmp .ge 173, 3) := by decide +kernel
theorem dX9_shift_53 : decode cX9_shift 53 = .ok (.iconst 0, 1) := by decide +kernel
theorem dX9_shift_54 : decode cX9_shift 54 = .ok (.istore 7, 2) := by decide +kernel
theorem dX9_shift_56 : decode cX9_shift 56 = .ok (.iload 7, 2) := by decide +kernel
theorem dX9_shift_58 : decode cX9_shift 58 = .ok (.iconst 4, 1) := by decide +kernel
theorem dX9_shift_59 : decode cX9_shift 59 = .ok (.if_icmp .ge 158, 3) := by decide +kernel
theorem dX9_shift_62 : decode cX9_shift 62 = .ok (.aload_n 0, 1) := by decide +kernel
theorem dX9_shift_63 : decode cX9_shift 63 = .ok (.getfield 25, 3) := by decide +kernel
theorem dX9_shift_66 : decode cX9_shift 66 = .ok (.iload 6, 2) := by decide +kernel
theorem dX9_shift_68 : decode cX9_shift 68 = .ok (.laload, 1) := by decide +kernel
theorem dX9_shift_69 : decode cX9_shift 69 = .ok (.iload 7, 2) := by decide +kernel
theorem dX9_shift_71 : decode cX9_shift 71 = .ok (.iconst 2, 1) := by decide +kernel
theorem dX9_shift_72 : decode cX9_shift 72 = .ok (.irem, 1) := by decide +kernel
theorem dX9_shift_73 : decode cX9_shift 73 = .ok (.ifCond .ne 7, 3) := by decide +kernel
theorem dX9_shift_76 : decode cX9_shift 76 = .ok (.lconst 0, 1) := by decide +kernel
theorem dX9_shift_77 : decode cX9_shift 77 = .ok (.goto 10, 3) := by decide +kernel
theorem dX9_shift_80 : decode cX9_shift 80 = .ok (.aload_n 0, 1) := by decide +kernel
theorem dX9_shift_81 : decode cX9_shift 81 = .ok (.getfield 29, 3) := by decide +kernel
theorem dX9_shift_84 : decode cX9_shift 84 = .ok (.iload 6, 2) := by decide +kernel
theorem dX9_shift_86 : decode cX9_shift 86 = .ok (.laload, 1) := by decide +kernel
theorem dX9_shift_87 : decode cX9_shift 87 = .ok (.ladd, 1) := by decide +kernel
theorem dX9_shift_88 : decode cX9_shift 88 = .ok (.lstore 8, 2) := by decide +kernel
theorem dX9_shift_90 : decode cX9_shift 90 = .ok (.aload_n 0, 1) := by decide +kernel
theorem dX9_shift_91 : decode cX9_shift 91 = .ok (.getfield 32, 3) := by decide +kernel
theorem dX9_shift_94 : decode cX9_shift 94 = .ok (.iload 6, 2) := by decide +kernel
theorem dX9_shift_96 : decode cX9_shift 96 = .ok (.laload, 1) := by decide +kernel
theorem dX9_shift_97 : decode cX9_shift 97 = .ok (.iload 7, 2) := by decide +kernel
theorem dX9_shift_99 : decode cX9_shift 99 = .ok (.iconst 2, 1) := by decide +kernel
theorem dX9_shift_100 : decode cX9_shift 100 = .ok (.if_icmp .ge 7, 3) := by decide +kernel
theorem dX9_shift_103 : decode cX9_shift 103 = .ok (.lconst 0, 1) := by decide +kernel
theorem dX9_shift_104 : decode cX9_shift 104 = .ok (.goto 10, 3) := by decide +kernel
theorem dX9_shift_107 : decode cX9_shift 107 = .ok (.aload_n 0, 1) := by decide +kernel
theorem dX9_shift_108 : decode cX9_shift 108 = .ok (.getfield 35, 3) := by decide +kernel
theorem dX9_shift_111 : decode cX9_shift 111 = .ok (.iload 6, 2) := by decide +kernel
theorem dX9_shift_113 : decode cX9_shift 113 = .ok (.laload, 1) := by decide +kernel
theorem dX9_shift_114 : decode cX9_shift 114 = .ok (.ladd, 1) := by decide +kernel
theorem dX9_shift_115 : decode cX9_shift 115 = .ok (.lstore 10, 2) := by decide +kernel
theorem dX9_shift_117 : decode cX9_shift 117 = .ok (.lload 8, 2) := by decide +kernel
theorem dX9_shift_119 : decode cX9_shift 119 = .ok (.lload 10, 2) := by decide +kernel
theorem dX9_shift_121 : decode cX9_shift 121 = .ok (.lsub, 1) := by decide +kernel
theorem dX9_shift_122 : decode cX9_shift 122 = .ok (.ldc2_w 246, 3) := by decide +kernel
theorem dX9_shift_125 : decode cX9_shift 125 = .ok (.aload_n 0, 1) := by decide +kernel
theorem dX9_shift_126 : decode cX9_shift 126 = .ok (.getfield 124, 3) := by decide +kernel
theorem dX9_shift_129 : decode cX9_shift 129 = .ok (.lmul, 1) := by decide +kernel
theorem dX9_shift_130 : decode cX9_shift 130 = .ok (.ladd, 1) := by decide +kernel
theorem dX9_shift_131 : decode cX9_shift 131 = .ok (.aload_n 0, 1) := by decide +kernel
theorem dX9_shift_132 : decode cX9_shift 132 = .ok (.getfield 124, 3) := by decide +kernel
theorem dX9_shift_135 : decode cX9_shift 135 = .ok (.lrem, 1) := by decide +kernel
theorem dX9_shift_136 : decode cX9_shift 136 = .ok (.lstore 12, 2) := by decide +kernel
theorem dX9_shift_138 : decode cX9_shift 138 = .ok (.aload_n 0, 1) := by decide +kernel
theorem dX9_shift_139 : decode cX9_shift 139 = .ok (.lload 12, 2) := by decide +kernel
theorem dX9_shift_141 : decode cX9_shift 141 = .ok (.invokevirtual 242, 3) := by decide +kernel
theorem dX9_shift_144 : decode cX9_shift 144 = .ok (.lstore 14, 2) := by decide +kernel
theorem dX9_shift_146 : decode cX9_shift 146 = .ok (.iload_n 1, 1) := by decide +kernel
theorem dX9_shift_147 : decode cX9_shift 147 = .ok (.ifCond .ne 19, 3) := by decide +kernel
theorem dX9_shift_150 : decode cX9_shift 150 = .ok (.lload 14, 2) := by decide +kernel
theorem dX9_shift_152 : decode cX9_shift 152 = .ok (.lload 4, 2) := by decide +kernel
theorem dX9_shift_154 : decode cX9_shift 154 = .ok (.lcmp, 1) := by decide +kernel
theorem dX9_shift_155 : decode cX9_shift 155 = .ok (.ifCond .le 7, 3) := by decide +kernel
theorem dX9_shift_158 : decode cX9_shift 158 = .ok (.iconst 1, 1) := by decide +kernel
theorem dX9_shift_159 : decode cX9_shift 159 = .ok (.goto 20, 3) := by decide +kernel
theorem dX9_shift_162 : decode cX9_shift 162 = .ok (.iconst 0, 1) := by decide +kernel
theorem dX9_shift_163 : decode cX9_shift 163 = .ok (.goto 16, 3) := by decide +kernel
theorem dX9_shift_166 : decode cX9_shift 166 = .ok (.lload 14, 2) := by decide +kernel
theorem dX9_shift_168 : decode cX9_shift 168 = .ok (.lload 4, 2) := by decide +kernel
theorem dX9_shift_170 : decode cX9_shift 170 = .ok (.lcmp, 1) := by decide +kernel
theorem dX9_shift_171 : decode cX9_shift 171 = .ok (.ifCond .ge 7, 3) := by decide +kernel
theorem dX9_shift_174 : decode cX9_shift 174 = .ok (.iconst 1, 1) := by decide +kernel
theorem dX9_shift_175 : decode cX9_shift 175 = .ok (.goto 4, 3) := by decide +kernel
theorem dX9_shift_178 : decode cX9_shift 178 = .ok (.iconst 0, 1) := by decide +kernel
theorem dX9_shift_179 : decode cX9_shift 179 = .ok (.istore 16, 2) := by decide +kernel
theorem dX9_shift_181 : decode cX9_shift 181 = .ok (.iload 16, 2) := by decide +kernel
theorem dX9_shift_183 : decode cX9_shift 183 = .ok (.ifCond .ne 21, 3) := by decide +kernel
theorem dX9_shift_186 : decode cX9_shift 186 = .ok (.lload 14, 2) := by decide +kernel
theorem dX9_shift_188 : decode cX9_shift 188 = .ok (.lload 4, 2) := by decide +kernel
theorem dX9_shift_190 : decode cX9_shift 190 = .ok (.lcmp, 1) := by decide +kernel
theorem dX9_shift_191 : decode cX9_shift 191 = .ok (.ifCond .ne 20, 3) := by decide +kernel
theorem dX9_shift_194 : decode cX9_shift 194 = .ok (.lload 12, 2) := by decide +kernel
theorem dX9_shift_196 : decode cX9_shift 196 = .ok (.lload_n 2, 1) := by decide +kernel
theorem dX9_shift_197 : decode cX9_shift 197 = .ok (.lcmp, 1) := by decide +kernel
theorem dX9_shift_198 : decode cX9_shift 198 = .ok (.ifCond .lt 6, 3) := by decide +kernel
theorem dX9_shift_201 : decode cX9_shift 201 = .ok (.goto 10, 3) := by decide +kernel
theorem dX9_shift_204 : decode cX9_shift 204 = .ok (.lload 14, 2) := by decide +kernel
theorem dX9_shift_206 : decode cX9_shift 206 = .ok (.lstore 4, 2) := by decide +kernel
theorem dX9_shift_208 : decode cX9_shift 208 = .ok (.lload 12, 2) := by decide +kernel
theorem dX9_shift_210 : decode cX9_shift 210 = .ok (.lstore_n 2, 1) := by decide +kernel
theorem dX9_shift_211 : decode cX9_shift 211 = .ok (.iinc 7 1, 3) := by decide +kernel
theorem dX9_shift_214 : decode cX9_shift 214 = .ok (.goto (-158), 3) := by decide +kernel
theorem dX9_shift_217 : decode cX9_shift 217 = .ok (.iinc 6 1, 3) := by decide +kernel
theorem dX9_shift_220 : decode cX9_shift 220 = .ok (.goto (-178), 3) := by decide +kernel
theorem dX9_shift_223 : decode cX9_shift 223 = .ok (.lload_n 2, 1) := by decide +kernel
theorem dX9_shift_224 : decode cX9_shift 224 = .ok (.l2i, 1) := by decide +kernel
theorem dX9_shift_225 : decode cX9_shift 225 = .ok (.ireturn, 1) := by decide +kernel
theorem dX9_finalOf_0 : decode cX9_finalOf 0 = .ok (.aload_n 0, 1) := by decide +kernel
theorem dX9_finalOf_1 : decode cX9_finalOf 1 = .ok (.getfield 7, 3) := by decide +kernel
theorem dX9_finalOf_4 : decode cX9_finalOf 4 = .ok (.iconst 0, 1) := by decide +kernel
theorem dX9_finalOf_5 : decode cX9_finalOf 5 = .ok (.iaload, 1) := by decide +kernel
theorem dX9_finalOf_6 : decode cX9_finalOf 6 = .ok (.istore_n 3, 1) := by decide +kernel
theorem dX9_finalOf_7 : decode cX9_finalOf 7 = .ok (.iload_n 1, 1) := by decide +kernel
theorem dX9_finalOf_8 : decode cX9_finalOf 8 = .ok (.istore 4, 2) := by decide +kernel
theorem dX9_finalOf_10 : decode cX9_finalOf 10 = .ok (.iconst 0, 1) := by decide +kernel
theorem dX9_finalOf_11 : decode cX9_finalOf 11 = .ok (.istore 5, 2) := by decide +kernel
theorem dX9_finalOf_13 : decode cX9_finalOf 13 = .ok (.iconst 0, 1) := by decide +kernel
theorem dX9_finalOf_14 : decode cX9_finalOf 14 = .ok (.istore 6, 2) := by decide +kernel
theorem dX9_finalOf_16 : decode cX9_finalOf 16 = .ok (.iload 6, 2) := by decide +kernel
theorem dX9_finalOf_18 : decode cX9_finalOf 18 = .ok (.iload_n 3, 1) := by decide +kernel
theorem dX9_finalOf_19 : decode cX9_finalOf 19 = .ok (.if_icmp .ge 181, 3) := by decide +kernel
theorem dX9_finalOf_22 : decode cX9_finalOf 22 = .ok (.aload_n 0, 1) := by decide +kernel
theorem dX9_finalOf_23 : decode cX9_finalOf 23 = .ok (.getfield 22, 3) := by decide +kernel
theorem dX9_finalOf_26 : decode cX9_finalOf 26 = .ok (.iload 6, 2) := by decide +kernel
theorem dX9_finalOf_28 : decode cX9_finalOf 28 = .ok (.iaload, 1) := by decide +kernel
theorem dX9_finalOf_29 : decode cX9_finalOf 29 = .ok (.istore 7, 2) := by decide +kernel
theorem dX9_finalOf_31 : decode cX9_finalOf 31 = .ok (.aload_n 0, 1) := by decide +kernel
theorem dX9_finalOf_32 : decode cX9_finalOf 32 = .ok (.iload_n 1, 1) := by decide +kernel
theorem dX9_finalOf_33 : decode cX9_finalOf 33 = .ok (.iload 7, 2) := by decide +kernel
theorem dX9_finalOf_35 : decode cX9_finalOf 35 = .ok (.invokevirtual 173, 3) := by decide +kernel
theorem dX9_finalOf_38 : decode cX9_finalOf 38 = .ok (.ifCond .eq 156, 3) := by decide +kernel
theorem dX9_finalOf_41 : decode cX9_finalOf 41 = .ok (.aload_n 0, 1) := by decide +kernel
theorem dX9_finalOf_42 : decode cX9_finalOf 42 = .ok (.getfield 7, 3) := by decide +kernel
theorem dX9_finalOf_45 : decode cX9_finalOf 45 = .ok (.bipush 38, 2) := by decide +kernel
theorem dX9_finalOf_47 : decode cX9_finalOf 47 = .ok (.iload 7, 2) := by decide +kernel
theorem dX9_finalOf_49 : decode cX9_finalOf 49 = .ok (.iadd, 1) := by decide +kernel
theorem dX9_finalOf_50 : decode cX9_finalOf 50 = .ok (.iaload, 1) := by decide +kernel
theorem dX9_finalOf_51 : decode cX9_finalOf 51 = .ok (.ifCond .ne 6, 3) := by decide +kernel
theorem dX9_finalOf_54 : decode cX9_finalOf 54 = .ok (.goto 140, 3) := by decide +kernel
theorem dX9_finalOf_57 : decode cX9_finalOf 57 = .ok (.iload 4, 2) := by decide +kernel
theorem dX9_finalOf_59 : decode cX9_finalOf 59 = .ok (.iconst 1, 1) := by decide +kernel
theorem dX9_finalOf_60 : decode cX9_finalOf 60 = .ok (.iload 7, 2) := by decide +kernel
theorem dX9_finalOf_62 : decode cX9_finalOf 62 = .ok (.ishl, 1) := by decide +kernel
theorem dX9_finalOf_63 : decode cX9_finalOf 63 = .ok (.iconst (-1), 1) := by decide +kernel
theorem dX9_finalOf_64 : decode cX9_finalOf 64 = .ok (.ixor, 1) := by decide +kernel
theorem dX9_finalOf_65 : decode cX9_finalOf 65 = .ok (.iand, 1) := by decide +kernel
theorem dX9_finalOf_66 : decode cX9_finalOf 66 = .ok (.istore 4, 2) := by decide +kernel
theorem dX9_finalOf_68 : decode cX9_finalOf 68 = .ok (.aload_n 0, 1) := by decide +kernel
theorem dX9_finalOf_69 : decode cX9_finalOf 69 = .ok (.getfield 50, 3) := by decide +kernel
theorem dX9_finalOf_72 : decode cX9_finalOf 72 = .ok (.iload 7, 2) := by decide +kernel
theorem dX9_finalOf_74 : decode cX9_finalOf 74 = .ok (.bipush (-5), 2) := by decide +kernel
theorem dX9_finalOf_76 : decode cX9_finalOf 76 = .ok (.iastore, 1) := by decide +kernel
theorem dX9_finalOf_77 : decode cX9_finalOf 77 = .ok (.iconst 1, 1) := by decide +kernel
theorem dX9_finalOf_78 : decode cX9_finalOf 78 = .ok (.istore 8, 2) := by decide +kernel
theorem dX9_finalOf_80 : decode cX9_finalOf 80 = .ok (.iload 8, 2) := by decide +kernel
theorem dX9_finalOf_82 : decode cX9_finalOf 82 = .ok (.iload_n 3, 1) := by decide +kernel
theorem dX9_finalOf_83 : decode cX9_finalOf 83 = .ok (.if_icmp .ge 111, 3) := by decide +kernel
theorem dX9_finalOf_86 : decode cX9_finalOf 86 = .ok (.aload_n 0, 1) := by decide +kernel
theorem dX9_finalOf_87 : decode cX9_finalOf 87 = .ok (.getfield 50, 3) := by decide +kernel
theorem dX9_finalOf_90 : decode cX9_finalOf 90 = .ok (.iload 7, 2) := by decide +kernel
theorem dX9_finalOf_92 : decode cX9_finalOf 92 = .ok (.iaload, 1) := by decide +kernel
theorem dX9_finalOf_93 : decode cX9_finalOf 93 = .ok (.bipush (-5), 2) := by decide +kernel
theorem dX9_finalOf_95 : decode cX9_finalOf 95 = .ok (.if_icmp .ne 99, 3) := by decide +kernel
theorem dX9_finalOf_98 : decode cX9_finalOf 98 = .ok (.aload_n 0, 1) := by decide +kernel
theorem dX9_finalOf_99 : decode cX9_finalOf 99 = .ok (.getfield 22, 3) := by decide +kernel
theorem dX9_finalOf_102 : decode cX9_finalOf 102 = .ok (.iload 6, 2) := by decide +kernel
theorem dX9_finalOf_104 : decode cX9_finalOf 104 = .ok (.iload 8, 2) := by decide +kernel
theorem dX9_finalOf_106 : decode cX9_finalOf 106 = .ok (.iadd, 1) := by decide +kernel
theorem dX9_finalOf_107 : decode cX9_finalOf 107 = .ok (.iload_n 3, 1) := by decide +kernel
theorem dX9_finalOf_108 : decode cX9_finalOf 108 = .ok (.irem, 1) := by decide +kernel
theorem dX9_finalOf_109 : decode cX9_finalOf 109 = .ok (.iaload, 1) := by decide +kernel
theorem dX9_finalOf_110 : decode cX9_finalOf 110 = .ok (.istore 9, 2) := by decide +kernel
theorem dX9_finalOf_112 : decode cX9_finalOf 112 = .ok (.aload_n 0, 1) := by decide +kernel
theorem dX9_finalOf_113 : decode cX9_finalOf 113 = .ok (.iload_n 1, 1) := by decide +kernel
theorem dX9_finalOf_114 : decode cX9_finalOf 114 = .ok (.iload 5, 2) := by decide +kernel
theorem dX9_finalOf_116 : decode cX9_finalOf 116 = .ok (.ior, 1) := by decide +kernel
theorem dX9_finalOf_117 : decode cX9_finalOf 117 = .ok (.iload 9, 2) := by decide +kernel
theorem dX9_finalOf_119 : decode cX9_finalOf 119 = .ok (.invokevirtual 173, 3) := by decide +kernel
theorem dX9_finalOf_122 : decode cX9_finalOf 122 = .ok (.ifCond .ne 66, 3) := by decide +kernel
theorem dX9_finalOf_125 : decode cX9_finalOf 125 = .ok (.aload_n 0, 1) := by decide +kernel
theorem dX9_finalOf_126 : decode cX9_finalOf 126 = .ok (.getfield 7, 3) := by decide +kernel
theorem dX9_finalOf_129 : decode cX9_finalOf 129 = .ok (.bipush 38, 2) := by decide +kernel
theorem dX9_finalOf_131 : decode cX9_finalOf 131 = .ok (.iload 9, 2) := by decide +kernel
theorem dX9_finalOf_133 : decode cX9_finalOf 133 = .ok (.iadd, 1) := by decide +kernel
theorem dX9_finalOf_134 : decode cX9_finalOf 134 = .ok (.iaload, 1) := by decide +kernel
theorem dX9_finalOf_135 : decode cX9_finalOf 135 = .ok (.iconst 1, 1) := by decide +kernel
theorem dX9_finalOf_136 : decode cX9_finalOf 136 = .ok (.if_icmp .eq 52, 3) := by decide +kernel
theorem dX9_finalOf_139 : decode cX9_finalOf 139 = .ok (.iload_n 2, 1) := by decide +kernel
theorem dX9_finalOf_140 : decode cX9_finalOf 140 = .ok (.iconst 1, 1) := by decide +kernel
theorem dX9_finalOf_141 : decode cX9_finalOf 141 = .ok (.if_icmp .ne 29, 3) := by decide +kernel
theorem dX9_finalOf_144 : decode cX9_finalOf 144 = .ok (.aload_n 0, 1) := by decide +kernel
theorem dX9_finalOf_145 : decode cX9_finalOf 145 = .ok (.getfield 7, 3) := by decide +kernel
theorem dX9_finalOf_148 : decode cX9_finalOf 148 = .ok (.bipush 14, 2) := by decide +kernel
theorem dX9_finalOf_150 : decode cX9_finalOf 150 = .ok (.iload 9, 2) := by decide +kernel
theorem dX9_finalOf_152 : decode cX9_finalOf 152 = .ok (.iadd, 1) := by decide +kernel
theorem dX9_finalOf_153 : decode cX9_finalOf 153 = .ok (.iaload, 1) := by decide +kernel
theorem dX9_finalOf_154 : decode cX9_finalOf 154 = .ok (.aload_n 0, 1) := by decide +kernel
theorem dX9_finalOf_155 : decode cX9_finalOf 155 = .ok (.getfield 7, 3) := by decide +kernel
theorem dX9_finalOf_158 : decode cX9_finalOf 158 = .ok (.bipush 14, 2) := by decide +kernel
theorem dX9_finalOf_160 : decode cX9_finalOf 160 = .ok (.iload 7, 2) := by decide +kernel
theorem dX9_finalOf_162 : decode cX9_finalOf 162 = .ok (.iadd, 1) := by decide +kernel
theorem dX9_finalOf_163 : decode cX9_finalOf 163 = .ok (.iaload, 1) := by decide +kernel
theorem dX9_finalOf_164 : decode cX9_finalOf 164 = .ok (.if_icmp .eq 6, 3) := by decide +kernel
theorem dX9_finalOf_167 : decode cX9_finalOf 167 = .ok (.goto 21, 3) := by decide +kernel
theorem dX9_finalOf_170 : decode cX9_finalOf 170 = .ok (.aload_n 0, 1) := by decide +kernel
theorem dX9_finalOf_171 : decode cX9_finalOf 171 = .ok (.getfield 50, 3) := by decide +kernel
theorem dX9_finalOf_174 : decode cX9_finalOf 174 = .ok (.iload 7, 2) := by decide +kernel
theorem dX9_finalOf_176 : decode cX9_finalOf 176 = .ok (.iload 9, 2) := by decide +kernel
theorem dX9_finalOf_178 : decode cX9_finalOf 178 = .ok (.iastore, 1) := by decide +kernel
theorem dX9_finalOf_179 : decode cX9_finalOf 179 = .ok (.iload 5, 2) := by decide +kernel
theorem dX9_finalOf_181 : decode cX9_finalOf 181 = .ok (.iconst 1, 1) := by decide +kernel
theorem dX9_finalOf_182 : decode cX9_finalOf 182 = .ok (.iload 9, 2) := by decide +kernel
theorem dX9_finalOf_184 : decode cX9_finalOf 184 = .ok (.ishl, 1) := by decide +kernel
theorem dX9_finalOf_185 : decode cX9_finalOf 185 = .ok (.ior, 1) := by decide +kernel
theorem dX9_finalOf_186 : decode cX9_finalOf 186 = .ok (.istore 5, 2) := by decide +kernel
theorem dX9_finalOf_188 : decode cX9_finalOf 188 = .ok (.iinc 8 1, 3) := by decide +kernel
theorem dX9_finalOf_191 : decode cX9_finalOf 191 = .ok (.goto (-111), 3) := by decide +kernel
theorem dX9_finalOf_194 : decode cX9_finalOf 194 = .ok (.iinc 6 1, 3) := by decide +kernel
theorem dX9_finalOf_197 : decode cX9_finalOf 197 = .ok (.goto (-181), 3) := by decide +kernel
theorem dX9_finalOf_200 : decode cX9_finalOf 200 = .ok (.iload 4, 2) := by decide +kernel
theorem dX9_finalOf_202 : decode cX9_finalOf 202 = .ok (.iload 5, 2) := by decide +kernel
theorem dX9_finalOf_204 : decode cX9_finalOf 204 = .ok (.ior, 1) := by decide +kernel
theorem dX9_finalOf_205 : decode cX9_finalOf 205 = .ok (.ireturn, 1) := by decide +kernel
theorem dX9_isManner_0 : decode cX9_isManner 0 = .ok (.iload_n 0, 1) := by decide +kernel
theorem dX9_isManner_1 : decode cX9_isManner 1 = .ok (.iconst 0, 1) := by decide +kernel
theorem dX9_isManner_2 : decode cX9_isManner 2 = .ok (.iconst 1, 1) := by decide +kernel
theorem dX9_isManner_3 : decode cX9_isManner 3 = .ok (.invokestatic 75, 3) := by decide +kernel
theorem dX9_isManner_6 : decode cX9_isManner 6 = .ok (.ireturn, 1) := by decide +kernel
theorem dX9_replaced_0 : decode cX9_replaced 0 = .ok (.iload_n 2, 1) := by decide +kernel
theorem dX9_replaced_1 : decode cX9_replaced 1 = .ok (.invokestatic 248, 3) := by decide +kernel
theorem dX9_replaced_4 : decode cX9_replaced 4 = .ok (.ifCond .ne 9, 3) := by decide +kernel
theorem dX9_replaced_7 : decode cX9_replaced 7 = .ok (.aload_n 0, 1) := by decide +kernel
theorem dX9_replaced_8 : decode cX9_replaced 8 = .ok (.iconst (-1), 1) := by decide +kernel
theorem dX9_replaced_9 : decode cX9_replaced 9 = .ok (.invokevirtual 71, 3) := by decide +kernel
theorem dX9_replaced_12 : decode cX9_replaced 12 = .ok (.ireturn, 1) := by decide +kernel
theorem dX9_replaced_13 : decode cX9_replaced 13 = .ok (.aload_n 0, 1) := by decide +kernel
theorem dX9_replaced_14 : decode cX9_replaced 14 = .ok (.iconst 0, 1) := by decide +kernel
theorem dX9_replaced_15 : decode cX9_replaced 15 = .ok (.invokevirtual 144, 3) := by decide +kernel
theorem dX9_replaced_18 : decode cX9_replaced 18 = .ok (.ifCond .ne 10, 3) := by decide +kernel
theorem dX9_replaced_21 : decode cX9_replaced 21 = .ok (.aload_n 0, 1) := by decide +kernel
theorem dX9_replaced_22 : decode cX9_replaced 22 = .ok (.bipush (-7), 2) := by decide +kernel
theorem dX9_replaced_24 : decode cX9_replaced 24 = .ok (.invokevirtual 71, 3) := by decide +kernel
theorem dX9_replaced_27 : decode cX9_replaced 27 = .ok (.ireturn, 1) := by decide +kernel
theorem dX9_replaced_28 : decode cX9_replaced 28 = .ok (.aload_n 0, 1) := by decide +kernel
theorem dX9_replaced_29 : decode cX9_replaced 29 = .ok (.iload_n 1, 1) := by decide +kernel
theorem dX9_replaced_30 : decode cX9_replaced 30 = .ok (.invokevirtual 151, 3) := by decide +kernel
theorem dX9_replaced_33 : decode cX9_replaced 33 = .ok (.ifCond .eq 17, 3) := by decide +kernel
theorem dX9_replaced_36 : decode cX9_replaced 36 = .ok (.aload_n 0, 1) := by decide +kernel
theorem dX9_replaced_37 : decode cX9_replaced 37 = .ok (.aload_n 0, 1) := by decide +kernel
theorem dX9_replaced_38 : decode cX9_replaced 38 = .ok (.iload_n 1, 1) := by decide +kernel
theorem dX9_replaced_39 : decode cX9_replaced 39 = .ok (.i2l, 1) := by decide +kernel
theorem dX9_replaced_40 : decode cX9_replaced 40 = .ok (.invokevirtual 154, 3) := by decide +kernel
theorem dX9_replaced_43 : decode cX9_replaced 43 = .ok (.iload_n 2, 1) := by decide +kernel
theorem dX9_replaced_44 : decode cX9_replaced 44 = .ok (.invokevirtual 251, 3) := by decide +kernel
theorem dX9_replaced_47 : decode cX9_replaced 47 = .ok (.goto 9, 3) := by decide +kernel
theorem dX9_replaced_50 : decode cX9_replaced 50 = .ok (.aload_n 0, 1) := by decide +kernel
theorem dX9_replaced_51 : decode cX9_replaced 51 = .ok (.bipush (-2), 2) := by decide +kernel
theorem dX9_replaced_53 : decode cX9_replaced 53 = .ok (.invokevirtual 71, 3) := by decide +kernel
theorem dX9_replaced_56 : decode cX9_replaced 56 = .ok (.ireturn, 1) := by decide +kernel
theorem dX9_substitute_0 : decode cX9_substitute 0 = .ok (.aload_n 0, 1) := by decide +kernel
theorem dX9_substitute_1 : decode cX9_substitute 1 = .ok (.iload_n 1, 1) := by decide +kernel
theorem dX9_substitute_2 : decode cX9_substitute 2 = .ok (.invokevirtual 85, 3) := by decide +kernel
theorem dX9_substitute_5 : decode cX9_substitute 5 = .ok (.ifCond .eq 10, 3) := by decide +kernel
theorem dX9_substitute_8 : decode cX9_substitute 8 = .ok (.iload_n 3, 1) := by decide +kernel
theorem dX9_substitute_9 : decode cX9_substitute 9 = .ok (.invokestatic 248, 3) := by decide +kernel
theorem dX9_substitute_12 : decode cX9_substitute 12 = .ok (.ifCond .ne 9, 3) := by decide +kernel
theorem dX9_substitute_15 : decode cX9_substitute 15 = .ok (.aload_n 0, 1) := by decide +kernel
theorem dX9_substitute_16 : decode cX9_substitute 16 = .ok (.iconst (-1), 1) := by decide +kernel
theorem dX9_substitute_17 : decode cX9_substitute 17 = .ok (.invokevirtual 71, 3) := by decide +kernel
theorem dX9_substitute_20 : decode cX9_substitute 20 = .ok (.ireturn, 1) := by decide +kernel
theorem dX9_substitute_21 : decode cX9_substitute 21 = .ok (.aload_n 0, 1) := by decide +kernel
theorem dX9_substitute_22 : decode cX9_substitute 22 = .ok (.iconst 0, 1) := by decide +kernel
theorem dX9_substitute_23 : decode cX9_substitute 23 = .ok (.invokevirtual 144, 3) := by decide +kernel
theorem dX9_substitute_26 : decode cX9_substitute 26 = .ok (.ifCond .ne 10, 3) := by decide +kernel
theorem dX9_substitute_29 : decode cX9_substitute 29 = .ok (.aload_n 0, 1) := by decide +kernel
theorem dX9_substitute_30 : decode cX9_substitute 30 = .ok (.bipush (-7), 2) := by decide +kernel
theorem dX9_substitute_32 : decode cX9_substitute 32 = .ok (.invokevirtual 71, 3) := by decide +kernel
theorem dX9_substitute_35 : decode cX9_substitute 35 = .ok (.ireturn, 1) := by decide +kernel
theorem dX9_substitute_36 : decode cX9_substitute 36 = .ok (.aload_n 0, 1) := by decide +kernel
theorem dX9_substitute_37 : decode cX9_substitute 37 = .ok (.iload_n 2, 1) := by decide +kernel
theorem dX9_substitute_38 : decode cX9_substitute 38 = .ok (.invokevirtual 151, 3) := by decide +kernel
theorem dX9_substitute_41 : decode cX9_substitute 41 = .ok (.ifCond .ne 10, 3) := by decide +kernel
theorem dX9_substitute_44 : decode cX9_substitute 44 = .ok (.aload_n 0, 1) := by decide +kernel
theorem dX9_substitute_45 : decode cX9_substitute 45 = .ok (.bipush (-2), 2) := by decide +kernel
theorem dX9_substitute_47 : decode cX9_substitute 47 = .ok (.invokevirtual 71, 3) := by decide +kernel
theorem dX9_substitute_50 : decode cX9_substitute 50 = .ok (.ireturn, 1) := by decide +kernel
theorem dX9_substitute_51 : decode cX9_substitute 51 = .ok (.aload_n 0, 1) := by decide +kernel
theorem dX9_substitute_52 : decode cX9_substitute 52 = .ok (.iload_n 2, 1) := by decide +kernel
theorem dX9_substitute_53 : decode cX9_substitute 53 = .ok (.i2l, 1) := by decide +kernel
theorem dX9_substitute_54 : decode cX9_substitute 54 = .ok (.invokevirtual 154, 3) := by decide +kernel
theorem dX9_substitute_57 : decode cX9_substitute 57 = .ok (.istore 4, 2) := by decide +kernel
theorem dX9_substitute_59 : decode cX9_substitute 59 = .ok (.aload_n 0, 1) := by decide +kernel
theorem dX9_substitute_60 : decode cX9_substitute 60 = .ok (.iload 4, 2) := by decide +kernel
theorem dX9_substitute_62 : decode cX9_substitute 62 = .ok (.iload_n 1, 1) := by decide +kernel
theorem dX9_substitute_63 : decode cX9_substitute 63 = .ok (.invokevirtual 173, 3) := by decide +kernel
theorem dX9_substitute_66 : decode cX9_substitute 66 = .ok (.ifCond .eq 15, 3) := by decide +kernel
theorem dX9_substitute_69 : decode cX9_substitute 69 = .ok (.aload_n 0, 1) := by decide +kernel
theorem dX9_substitute_70 : decode cX9_substitute 70 = .ok (.getfield 7, 3) := by decide +kernel
theorem dX9_substitute_73 : decode cX9_substitute 73 = .ok (.bipush 38, 2) := by decide +kernel
theorem dX9_substitute_75 : decode cX9_substitute 75 = .ok (.iload_n 1, 1) := by decide +kernel
theorem dX9_substitute_76 : decode cX9_substitute 76 = .ok (.iadd, 1) := by decide +kernel
theorem dX9_substitute_77 : decode cX9_substitute 77 = .ok (.iaload, 1) := by decide +kernel
theorem dX9_substitute_78 : decode cX9_substitute 78 = .ok (.ifCond .ne 10, 3) := by decide +kernel
theorem dX9_substitute_81 : decode cX9_substitute 81 = .ok (.aload_n 0, 1) := by decide +kernel
theorem dX9_substitute_82 : decode cX9_substitute 82 = .ok (.bipush (-3), 2) := by decide +kernel
theorem dX9_substitute_84 : decode cX9_substitute 84 = .ok (.invokevirtual 71, 3) := by decide +kernel
theorem dX9_substitute_87 : decode cX9_substitute 87 = .ok (.ireturn, 1) := by decide +kernel
theorem dX9_substitute_88 : decode cX9_substitute 88 = .ok (.aload_n 0, 1) := by decide +kernel
theorem dX9_substitute_89 : decode cX9_substitute 89 = .ok (.iload 4, 2) := by decide +kernel
theorem dX9_substitute_91 : decode cX9_substitute 91 = .ok (.iload_n 3, 1) := by decide +kernel
theorem dX9_substitute_92 : decode cX9_substitute 92 = .ok (.invokevirtual 251, 3) := by decide +kernel
theorem dX9_substitute_95 : decode cX9_substitute 95 = .ok (.pop, 1) := by decide +kernel
theorem dX9_substitute_96 : decode cX9_substitute 96 = .ok (.aload_n 0, 1) := by decide +kernel
theorem dX9_substitute_97 : decode cX9_substitute 97 = .ok (.getfield 50, 3) := by decide +kernel
theorem dX9_substitute_100 : decode cX9_substitute 100 = .ok (.iload_n 1, 1) := by decide +kernel
theorem dX9_substitute_101 : decode cX9_substitute 101 = .ok (.iaload, 1) := by decide +kernel
theorem dX9_substitute_102 : decode cX9_substitute 102 = .ok (.bipush (-5), 2) := by decide +kernel
theorem dX9_substitute_104 : decode cX9_substitute 104 = .ok (.if_icmp .ne 12, 3) := by decide +kernel
theorem dX9_substitute_107 : decode cX9_substitute 107 = .ok (.aload_n 0, 1) := by decide +kernel
theorem dX9_substitute_108 : decode cX9_substitute 108 = .ok (.bipush (-5), 2) := by decide +kernel
theorem dX9_substitute_110 : decode cX9_substitute 110 = .ok (.invokevirtual 71, 3) := by decide +kernel
theorem dX9_substitute_113 : decode cX9_substitute 113 = .ok (.goto 9, 3) := by decide +kernel
theorem dX9_substitute_116 : decode cX9_substitute 116 = .ok (.aload_n 0, 1) := by decide +kernel
theorem dX9_substitute_117 : decode cX9_substitute 117 = .ok (.getfield 50, 3) := by decide +kernel
theorem dX9_substitute_120 : decode cX9_substitute 120 = .ok (.iload_n 1, 1) := by decide +kernel
theorem dX9_substitute_121 : decode cX9_substitute 121 = .ok (.iaload, 1) := by decide +kernel
theorem dX9_substitute_122 : decode cX9_substitute 122 = .ok (.ireturn, 1) := by decide +kernel
theorem dX9_finals_0 : decode cX9_finals 0 = .ok (.aload_n 0, 1) := by decide +kernel
theorem dX9_finals_1 : decode cX9_finals 1 = .ok (.iload_n 1, 1) := by decide +kernel
theorem dX9_finals_2 : decode cX9_finals 2 = .ok (.invokevirtual 85, 3) := by decide +kernel
theorem dX9_finals_5 : decode cX9_finals 5 = .ok (.ifCond .eq 10, 3) := by decide +kernel
theorem dX9_finals_8 : decode cX9_finals 8 = .ok (.iload_n 2, 1) := by decide +kernel
theorem dX9_finals_9 : decode cX9_finals 9 = .ok (.invokestatic 248, 3) := by decide +kernel
theorem dX9_finals_12 : decode cX9_finals 12 = .ok (.ifCond .ne 9, 3) := by decide +kernel
theorem dX9_finals_15 : decode cX9_finals 15 = .ok (.aload_n 0, 1) := by decide +kernel
theorem dX9_finals_16 : decode cX9_finals 16 = .ok (.iconst (-1), 1) := by decide +kernel
theorem dX9_finals_17 : decode cX9_finals 17 = .ok (.invokevirtual 92, 3) := by decide +kernel
theorem dX9_finals_20 : decode cX9_finals 20 = .ok (.lreturn, 1) := by decide +kernel
theorem dX9_finals_21 : decode cX9_finals 21 = .ok (.iload_n 3, 1) := by decide +kernel
theorem dX9_finals_22 : decode cX9_finals 22 = .ok (.invokestatic 106, 3) := by decide +kernel
theorem dX9_finals_25 : decode cX9_finals 25 = .ok (.ifCond .ne 10, 3) := by decide +kernel
theorem dX9_finals_28 : decode cX9_finals 28 = .ok (.aload_n 0, 1) := by decide +kernel
theorem dX9_finals_29 : decode cX9_finals 29 = .ok (.bipush (-2), 2) := by decide +kernel
theorem dX9_finals_31 : decode cX9_finals 31 = .ok (.invokevirtual 92, 3) := by decide +kernel
theorem dX9_finals_34 : decode cX9_finals 34 = .ok (.lreturn, 1) := by decide +kernel
theorem dX9_finals_35 : decode cX9_finals 35 = .ok (.aload_n 0, 1) := by decide +kernel
theorem dX9_finals_36 : decode cX9_finals 36 = .ok (.invokevirtual 169, 3) := by decide +kernel
theorem dX9_finals_39 : decode cX9_finals 39 = .ok (.ifCond .ne 10, 3) := by decide +kernel
theorem dX9_finals_42 : decode cX9_finals 42 = .ok (.aload_n 0, 1) := by decide +kernel
theorem dX9_finals_43 : decode cX9_finals 43 = .ok (.bipush (-7), 2) := by decide +kernel
theorem dX9_finals_45 : decode cX9_finals 45 = .ok (.invokevirtual 92, 3) := by decide +kernel
theorem dX9_finals_48 : decode cX9_finals 48 = .ok (.lreturn, 1) := by decide +kernel
theorem dX9_finals_49 : decode cX9_finals 49 = .ok (.lconst 0, 1) := by decide +kernel
theorem dX9_finals_50 : decode cX9_finals 50 = .ok (.lstore 4, 2) := by decide +kernel
theorem dX9_finals_52 : decode cX9_finals 52 = .ok (.iconst 0, 1) := by decide +kernel
theorem dX9_finals_53 : decode cX9_finals 53 = .ok (.istore 6, 2) := by decide +kernel
theorem dX9_finals_55 : decode cX9_finals 55 = .ok (.iload 6, 2) := by decide +kernel
theorem dX9_finals_57 : decode cX9_finals 57 = .ok (.aload_n 0, 1) := by decide +kernel
theorem dX9_finals_58 : decode cX9_finals 58 = .ok (.getfield 162, 3) := by decide +kernel
theorem dX9_finals_61 : decode cX9_finals 61 = .ok (.if_icmp .ge 41, 3) := by decide +kernel
theorem dX9_finals_64 : decode cX9_finals 64 = .ok (.aload_n 0, 1) := by decide +kernel
theorem dX9_finals_65 : decode cX9_finals 65 = .ok (.aload_n 0, 1) := by decide +kernel
theorem dX9_finals_66 : decode cX9_finals 66 = .ok (.aload_n 0, 1) := by decide +kernel
theorem dX9_finals_67 : decode cX9_finals 67 = .ok (.getfield 44, 3) := by decide +kernel
theorem dX9_finals_70 : decode cX9_finals 70 = .ok (.iload 6, 2) := by decide +kernel
theorem dX9_finals_72 : decode cX9_finals 72 = .ok (.iaload, 1) := by decide +kernel
theorem dX9_finals_73 : decode cX9_finals 73 = .ok (.iload_n 2, 1) := by decide +kernel
theorem dX9_finals_74 : decode cX9_finals 74 = .ok (.invokevirtual 251, 3) := by decide +kernel
theorem dX9_finals_77 : decode cX9_finals 77 = .ok (.iload_n 1, 1) := by decide +kernel
theorem dX9_finals_78 : decode cX9_finals 78 = .ok (.invokevirtual 173, 3) := by decide +kernel
theorem dX9_finals_81 : decode cX9_finals 81 = .ok (.ifCond .eq 15, 3) := by decide +kernel
theorem dX9_finals_84 : decode cX9_finals 84 = .ok (.lload 4, 2) := by decide +kernel
theorem dX9_finals_86 : decode cX9_finals 86 = .ok (.aload_n 0, 1) := by decide +kernel
theorem dX9_finals_87 : decode cX9_finals 87 = .ok (.getfield 41, 3) := by decide +kernel
theorem dX9_finals_90 : decode cX9_finals 90 = .ok (.iload 6, 2) := by decide +kernel
theorem dX9_finals_92 : decode cX9_finals 92 = .ok (.laload, 1) := by decide +kernel
theorem dX9_finals_93 : decode cX9_finals 93 = .ok (.ladd, 1) := by decide +kernel
theorem dX9_finals_94 : decode cX9_finals 94 = .ok (.lstore 4, 2) := by decide +kernel
theorem dX9_finals_96 : decode cX9_finals 96 = .ok (.iinc 6 1, 3) := by decide +kernel
theorem dX9_finals_99 : decode cX9_finals 99 = .ok (.goto (-44), 3) := by decide +kernel
theorem dX9_finals_102 : decode cX9_finals 102 = .ok (.lload 4, 2) := by decide +kernel
theorem dX9_finals_104 : decode cX9_finals 104 = .ok (.aload_n 0, 1) := by decide +kernel
theorem dX9_finals_105 : decode cX9_finals 105 = .ok (.getfield 124, 3) := by decide +kernel
theorem dX9_finals_108 : decode cX9_finals 108 = .ok (.iload_n 3, 1) := by decide +kernel
theorem dX9_finals_109 : decode cX9_finals 109 = .ok (.invokestatic 109, 3) := by decide +kernel
theorem dX9_finals_112 : decode cX9_finals 112 = .ok (.lreturn, 1) := by decide +kernel
theorem dX9_drawn_0 : decode cX9_drawn 0 = .ok (.aload_n 0, 1) := by decide +kernel
theorem dX9_drawn_1 : decode cX9_drawn 1 = .ok (.iload_n 1, 1) := by decide +kernel
theorem dX9_drawn_2 : decode cX9_drawn 2 = .ok (.invokevirtual 85, 3) := by decide +kernel
theorem dX9_drawn_5 : decode cX9_drawn 5 = .ok (.ifCond .ne 9, 3) := by decide +kernel
theorem dX9_drawn_8 : decode cX9_drawn 8 = .ok (.aload_n 0, 1) := by decide +kernel
theorem dX9_drawn_9 : decode cX9_drawn 9 = .ok (.iconst (-1), 1) := by decide +kernel
theorem dX9_drawn_10 : decode cX9_drawn 10 = .ok (.invokevirtual 71, 3) := by decide +kernel
theorem dX9_drawn_13 : decode cX9_drawn 13 = .ok (.ireturn, 1) := by decide +kernel
theorem dX9_drawn_14 : decode cX9_drawn 14 = .ok (.iload_n 2, 1) := by decide +kernel
theorem dX9_drawn_15 : decode cX9_drawn 15 = .ok (.iconst 1, 1) := by decide +kernel
theorem dX9_drawn_16 : decode cX9_drawn 16 = .ok (.bipush 60, 2) := by decide +kernel
theorem dX9_drawn_18 : decode cX9_drawn 18 = .ok (.invokestatic 75, 3) := by decide +kernel
theorem dX9_drawn_21 : decode cX9_drawn 21 = .ok (.ifCond .ne 10, 3) := by decide +kernel
theorem dX9_drawn_24 : decode cX9_drawn 24 = .ok (.aload_n 0, 1) := by decide +kernel
theorem dX9_drawn_25 : decode cX9_drawn 25 = .ok (.bipush (-2), 2) := by decide +kernel
theorem dX9_drawn_27 : decode cX9_drawn 27 = .ok (.invokevirtual 71, 3) := by decide +kernel
theorem dX9_drawn_30 : decode cX9_drawn 30 = .ok (.ireturn, 1) := by decide +kernel
theorem dX9_drawn_31 : decode cX9_drawn 31 = .ok (.aload_n 0, 1) := by decide +kernel
theorem dX9_drawn_32 : decode cX9_drawn 32 = .ok (.iconst 0, 1) := by decide +kernel
theorem dX9_drawn_33 : decode cX9_drawn 33 = .ok (.invokevirtual 144, 3) := by decide +kernel
theorem dX9_drawn_36 : decode cX9_drawn 36 = .ok (.ifCond .ne 10, 3) := by decide +kernel
theorem dX9_drawn_39 : decode cX9_drawn 39 = .ok (.aload_n 0, 1) := by decide +kernel
theorem dX9_drawn_40 : decode cX9_drawn 40 = .ok (.bipush (-7), 2) := by decide +kernel
theorem dX9_drawn_42 : decode cX9_drawn 42 = .ok (.invokevirtual 71, 3) := by decide +kernel
theorem dX9_drawn_45 : decode cX9_drawn 45 = .ok (.ireturn, 1) := by decide +kernel
theorem dX9_drawn_46 : decode cX9_drawn 46 = .ok (.lload_n 3, 1) := by decide +kernel
theorem dX9_drawn_47 : decode cX9_drawn 47 = .ok (.lstore 5, 2) := by decide +kernel
theorem dX9_drawn_49 : decode cX9_drawn 49 = .ok (.iconst 0, 1) := by decide +kernel
theorem dX9_drawn_50 : decode cX9_drawn 50 = .ok (.istore 7, 2) := by decide +kernel
theorem dX9_drawn_52 : decode cX9_drawn 52 = .ok (.iconst 0, 1) := by decide +kernel
theorem dX9_drawn_53 : decode cX9_drawn 53 = .ok (.istore 8, 2) := by decide +kernel
theorem dX9_drawn_55 : decode cX9_drawn 55 = .ok (.iload 8, 2) := by decide +kernel
theorem dX9_drawn_57 : decode cX9_drawn 57 = .ok (.iload_n 2, 1) := by decide +kernel
theorem dX9_drawn_58 : decode cX9_drawn 58 = .ok (.if_icmp .ge 56, 3) := by decide +kernel
theorem dX9_drawn_61 : decode cX9_drawn 61 = .ok (.lload 5, 2) := by decide +kernel
theorem dX9_drawn_63 : decode cX9_drawn 63 = .ok (.ldc2_w 254, 3) := by decide +kernel
theorem dX9_drawn_66 : decode cX9_drawn 66 = .ok (.lmul, 1) := by decide +kernel
theorem dX9_drawn_67 : decode cX9_drawn 67 = .ok (.ldc2_w 256, 3) := by decide +kernel
theorem dX9_drawn_70 : decode cX9_drawn 70 = .ok (.ladd, 1) := by decide +kernel
theorem dX9_drawn_71 : decode cX9_drawn 71 = .ok (.lstore 5, 2) := by decide +kernel
theorem dX9_drawn_73 : decode cX9_drawn 73 = .ok (.lload 5, 2) := by decide +kernel
theorem dX9_drawn_75 : decode cX9_drawn 75 = .ok (.bipush 33, 2) := by decide +kernel
theorem dX9_drawn_77 : decode cX9_drawn 77 = .ok (.lushr, 1) := by decide +kernel
theorem dX9_drawn_78 : decode cX9_drawn 78 = .ok (.aload_n 0, 1) := by decide +kernel
theorem dX9_drawn_79 : decode cX9_drawn 79 = .ok (.getfield 124, 3) := by decide +kernel
theorem dX9_drawn_82 : decode cX9_drawn 82 = .ok (.lrem, 1) := by decide +kernel
theorem dX9_drawn_83 : decode cX9_drawn 83 = .ok (.aload_n 0, 1) := by decide +kernel
theorem dX9_drawn_84 : decode cX9_drawn 84 = .ok (.getfield 25, 3) := by decide +kernel
theorem dX9_drawn_87 : decode cX9_drawn 87 = .ok (.iload_n 1, 1) := by decide +kernel
theorem dX9_drawn_88 : decode cX9_drawn 88 = .ok (.laload, 1) := by decide +kernel
theorem dX9_drawn_89 : decode cX9_drawn 89 = .ok (.aload_n 0, 1) := by decide +kernel
theorem dX9_drawn_90 : decode cX9_drawn 90 = .ok (.getfield 29, 3) := by decide +kernel
theorem dX9_drawn_93 : decode cX9_drawn 93 = .ok (.iload_n 1, 1) := by decide +kernel
theorem dX9_drawn_94 : decode cX9_drawn 94 = .ok (.laload, 1) := by decide +kernel
theorem dX9_drawn_95 : decode cX9_drawn 95 = .ok (.aload_n 0, 1) := by decide +kernel
theorem dX9_drawn_96 : decode cX9_drawn 96 = .ok (.getfield 124, 3) := by decide +kernel
theorem dX9_drawn_99 : decode cX9_drawn 99 = .ok (.invokestatic 147, 3) := by decide +kernel
theorem dX9_drawn_102 : decode cX9_drawn 102 = .ok (.ifCond .eq 6, 3) := by decide +kernel
theorem dX9_drawn_105 : decode cX9_drawn 105 = .ok (.iinc 7 1, 3) := by decide +kernel
theorem dX9_drawn_108 : decode cX9_drawn 108 = .ok (.iinc 8 1, 3) := by decide +kernel
theorem dX9_drawn_111 : decode cX9_drawn 111 = .ok (.goto (-56), 3) := by decide +kernel
theorem dX9_drawn_114 : decode cX9_drawn 114 = .ok (.iload 7, 2) := by decide +kernel
theorem dX9_drawn_116 : decode cX9_drawn 116 = .ok (.ireturn, 1) := by decide +kernel
theorem dX9_feed_0 : decode cX9_feed 0 = .ok (.iload_n 1, 1) := by decide +kernel
theorem dX9_feed_1 : decode cX9_feed 1 = .ok (.iconst 1, 1) := by decide +kernel
theorem dX9_feed_2 : decode cX9_feed 2 = .ok (.bipush 127, 2) := by decide +kernel
theorem dX9_feed_4 : decode cX9_feed 4 = .ok (.invokestatic 75, 3) := by decide +kernel
theorem dX9_feed_7 : decode cX9_feed 7 = .ok (.ifCond .ne 10, 3) := by decide +kernel
theorem dX9_feed_10 : decode cX9_feed 10 = .ok (.aload_n 0, 1) := by decide +kernel
theorem dX9_feed_11 : decode cX9_feed 11 = .ok (.bipush (-2), 2) := by decide +kernel
theorem dX9_feed_13 : decode cX9_feed 13 = .ok (.invokevirtual 71, 3) := by decide +kernel
theorem dX9_feed_16 : decode cX9_feed 16 = .ok (.ireturn, 1) := by decide +kernel
theorem dX9_feed_17 : decode cX9_feed 17 = .ok (.aload_n 0, 1) := by decide +kernel
theorem dX9_feed_18 : decode cX9_feed 18 = .ok (.getfield 258, 3) := by decide +kernel
theorem dX9_feed_21 : decode cX9_feed 21 = .ok (.bipush 120, 2) := by decide +kernel
theorem dX9_feed_23 : decode cX9_feed 23 = .ok (.if_icmp .ne 10, 3) := by decide +kernel
theorem dX9_feed_26 : decode cX9_feed 26 = .ok (.aload_n 0, 1) := by decide +kernel
theorem dX9_feed_27 : decode cX9_feed 27 = .ok (.bipush (-4), 2) := by decide +kernel
theorem dX9_feed_29 : decode cX9_feed 29 = .ok (.invokevirtual 71, 3) := by decide +kernel
theorem dX9_feed_32 : decode cX9_feed 32 = .ok (.ireturn, 1) := by decide +kernel
theorem dX9_feed_33 : decode cX9_feed 33 = .ok (.aload_n 0, 1) := by decide +kernel
theorem dX9_feed_34 : decode cX9_feed 34 = .ok (.getfield 53, 3) := by decide +kernel
theorem dX9_feed_37 : decode cX9_feed 37 = .ok (.aload_n 0, 1) := by decide +kernel
theorem dX9_feed_38 : decode cX9_feed 38 = .ok (.dup, 1) := by decide +kernel
theorem dX9_feed_39 : decode cX9_feed 39 = .ok (.getfield 258, 3) := by decide +kernel
theorem dX9_feed_42 : decode cX9_feed 42 = .ok (.dup_x1, 1) := by decide +kernel
theorem dX9_feed_43 : decode cX9_feed 43 = .ok (.iconst 1, 1) := by decide +kernel
theorem dX9_feed_44 : decode cX9_feed 44 = .ok (.iadd, 1) := by decide +kernel
theorem dX9_feed_45 : decode cX9_feed 45 = .ok (.putfield 258, 3) := by decide +kernel
theorem dX9_feed_48 : decode cX9_feed 48 = .ok (.iload_n 1, 1) := by decide +kernel
theorem dX9_feed_49 : decode cX9_feed 49 = .ok (.iastore, 1) := by decide +kernel
theorem dX9_feed_50 : decode cX9_feed 50 = .ok (.aload_n 0, 1) := by decide +kernel
theorem dX9_feed_51 : decode cX9_feed 51 = .ok (.getfield 258, 3) := by decide +kernel
theorem dX9_feed_54 : decode cX9_feed 54 = .ok (.ireturn, 1) := by decide +kernel
theorem dX9_isFrom_0 : decode cX9_isFrom 0 = .ok (.aload_n 0, 1) := by decide +kernel
theorem dX9_isFrom_1 : decode cX9_isFrom 1 = .ok (.getfield 261, 3) := by decide +kernel
theorem dX9_isFrom_4 : decode cX9_isFrom 4 = .ok (.ifCond .ge 35, 3) := by decide +kernel
theorem dX9_isFrom_7 : decode cX9_isFrom 7 = .ok (.aload_n 0, 1) := by decide +kernel
theorem dX9_isFrom_8 : decode cX9_isFrom 8 = .ok (.getfield 264, 3) := by decide +kernel
theorem dX9_isFrom_11 : decode cX9_isFrom 11 = .ok (.aload_n 0, 1) := by decide +kernel
theorem dX9_isFrom_12 : decode cX9_isFrom 12 = .ok (.getfield 258, 3) := by decide +kernel
theorem dX9_isFrom_15 : decode cX9_isFrom 15 = .ok (.if_icmp .ge 24, 3) := by decide +kernel
theorem dX9_isFrom_18 : decode cX9_isFrom 18 = .ok (.aload_n 0, 1) := by decide +kernel
theorem dX9_isFrom_19 : decode cX9_isFrom 19 = .ok (.getfield 53, 3) := by decide +kernel
theorem dX9_isFrom_22 : decode cX9_isFrom 22 = .ok (.aload_n 0, 1) := by decide +kernel
theorem dX9_isFrom_23 : decode cX9_isFrom 23 = .ok (.getfield 264, 3) := by decide +kernel
theorem dX9_isFrom_26 : decode cX9_isFrom 26 = .ok (.iaload, 1) := by decide +kernel
theorem dX9_isFrom_27 : decode cX9_isFrom 27 = .ok (.iload_n 1, 1) := by decide +kernel
theorem dX9_isFrom_28 : decode cX9_isFrom 28 = .ok (.iload_n 2, 1) := by decide +kernel
theorem dX9_isFrom_29 : decode cX9_isFrom 29 = .ok (.invokestatic 75, 3) := by decide +kernel
theorem dX9_isFrom_32 : decode cX9_isFrom 32 = .ok (.ifCond .eq 7, 3) := by decide +kernel
theorem dX9_isFrom_35 : decode cX9_isFrom 35 = .ok (.iconst 1, 1) := by decide +kernel
theorem dX9_isFrom_36 : decode cX9_isFrom 36 = .ok (.goto 4, 3) := by decide +kernel
theorem dX9_isFrom_39 : decode cX9_isFrom 39 = .ok (.iconst 0, 1) := by decide +kernel
theorem dX9_isFrom_40 : decode cX9_isFrom 40 = .ok (.ireturn, 1) := by decide +kernel
theorem dX9_wrong_0 : decode cX9_wrong 0 = .ok (.aload_n 0, 1) := by decide +kernel
theorem dX9_wrong_1 : decode cX9_wrong 1 = .ok (.getfield 261, 3) := by decide +kernel
theorem dX9_wrong_4 : decode cX9_wrong 4 = .ok (.ifCond .ge 11, 3) := by decide +kernel
theorem dX9_wrong_7 : decode cX9_wrong 7 = .ok (.aload_n 0, 1) := by decide +kernel
theorem dX9_wrong_8 : decode cX9_wrong 8 = .ok (.aload_n 0, 1) := by decide +kernel
theorem dX9_wrong_9 : decode cX9_wrong 9 = .ok (.getfield 264, 3) := by decide +kernel
theorem dX9_wrong_12 : decode cX9_wrong 12 = .ok (.putfield 261, 3) := by decide +kernel
theorem dX9_wrong_15 : decode cX9_wrong 15 = .ok (.return_, 1) := by decide +kernel
theorem dX9_needs_0 : decode cX9_needs 0 = .ok (.aload_n 0, 1) := by decide +kernel
theorem dX9_needs_1 : decode cX9_needs 1 = .ok (.iload_n 1, 1) := by decide +kernel
theorem dX9_needs_2 : decode cX9_needs 2 = .ok (.iload_n 1, 1) := by decide +kernel
theorem dX9_needs_3 : decode cX9_needs 3 = .ok (.invokevirtual 267, 3) := by decide +kernel
theorem dX9_needs_6 : decode cX9_needs 6 = .ok (.ifCond .eq 16, 3) := by decide +kernel
theorem dX9_needs_9 : decode cX9_needs 9 = .ok (.aload_n 0, 1) := by decide +kernel
theorem dX9_needs_10 : decode cX9_needs 10 = .ok (.dup, 1) := by decide +kernel
theorem dX9_needs_11 : decode cX9_needs 11 = .ok (.getfield 264, 3) := by decide +kernel
theorem dX9_needs_14 : decode cX9_needs 14 = .ok (.iconst 1, 1) := by decide +kernel
theorem dX9_needs_15 : decode cX9_needs 15 = .ok (.iadd, 1) := by decide +kernel
theorem dX9_needs_16 : decode cX9_needs 16 = .ok (.putfield 264, 3) := by decide +kernel
theorem dX9_needs_19 : decode cX9_needs 19 = .ok (.goto 7, 3) := by decide +kernel
theorem dX9_needs_22 : decode cX9_needs 22 = .ok (.aload_n 0, 1) := by decide +kernel
theorem dX9_needs_23 : decode cX9_needs 23 = .ok (.invokevirtual 270, 3) := by decide +kernel
theorem dX9_needs_26 : decode cX9_needs 26 = .ok (.return_, 1) := by decide +kernel
theorem dX9_number_0 : decode cX9_number 0 = .ok (.iconst 0, 1) := by decide +kernel
theorem dX9_number_1 : decode cX9_number 1 = .ok (.istore_n 2, 1) := by decide +kernel
theorem dX9_number_2 : decode cX9_number 2 = .ok (.iconst 0, 1) := by decide +kernel
theorem dX9_number_3 : decode cX9_number 3 = .ok (.istore_n 3, 1) := by decide +kernel
theorem dX9_number_4 : decode cX9_number 4 = .ok (.iload_n 3, 1) := by decide +kernel
theorem dX9_number_5 : decode cX9_number 5 = .ok (.iload_n 1, 1) := by decide +kernel
theorem dX9_number_6 : decode cX9_number 6 = .ok (.if_icmp .ge 48, 3) := by decide +kernel
theorem dX9_number_9 : decode cX9_number 9 = .ok (.aload_n 0, 1) := by decide +kernel
theorem dX9_number_10 : decode cX9_number 10 = .ok (.bipush 48, 2) := by decide +kernel
theorem dX9_number_12 : decode cX9_number 12 = .ok (.bipush 57, 2) := by decide +kernel
theorem dX9_number_14 : decode cX9_number 14 = .ok (.invokevirtual 267, 3) := by decide +kernel
theorem dX9_number_17 : decode cX9_number 17 = .ok (.ifCond .eq 37, 3) := by decide +kernel
theorem dX9_number_20 : decode cX9_number 20 = .ok (.bipush 10, 2) := by decide +kernel
theorem dX9_number_22 : decode cX9_number 22 = .ok (.iload_n 2, 1) := by decide +kernel
theorem dX9_number_23 : decode cX9_number 23 = .ok (.imul, 1) := by decide +kernel
theorem dX9_number_24 : decode cX9_number 24 = .ok (.aload_n 0, 1) := by decide +kernel
theorem dX9_number_25 : decode cX9_number 25 = .ok (.getfield 53, 3) := by decide +kernel
theorem dX9_number_28 : decode cX9_number 28 = .ok (.aload_n 0, 1) := by decide +kernel
theorem dX9_number_29 : decode cX9_number 29 = .ok (.getfield 264, 3) := by decide +kernel
theorem dX9_number_32 : decode cX9_number 32 = .ok (.iaload, 1) := by decide +kernel
theorem dX9_number_33 : decode cX9_number 33 = .ok (.iadd, 1) := by decide +kernel
theorem dX9_number_34 : decode cX9_number 34 = .ok (.bipush 48, 2) := by decide +kernel
theorem dX9_number_36 : decode cX9_number 36 = .ok (.isub, 1) := by decide +kernel
theorem dX9_number_37 : decode cX9_number 37 = .ok (.istore_n 2, 1) := by decide +kernel
theorem dX9_number_38 : decode cX9_number 38 = .ok (.aload_n 0, 1) := by decide +kernel
theorem dX9_number_39 : decode cX9_number 39 = .ok (.dup, 1) := by decide +kernel
theorem dX9_number_40 : decode cX9_number 40 = .ok (.getfield 264, 3) := by decide +kernel
theorem dX9_number_43 : decode cX9_number 43 = .ok (.iconst 1, 1) := by decide +kernel
theorem dX9_number_44 : decode cX9_number 44 = .ok (.iadd, 1) := by decide +kernel
theorem dX9_number_45 : decode cX9_number 45 = .ok (.putfield 264, 3) := by decide +kernel
theorem dX9_number_48 : decode cX9_number 48 = .ok (.iinc 3 1, 3) := by decide +kernel
theorem dX9_number_51 : decode cX9_number 51 = .ok (.goto (-47), 3) := by decide +kernel
theorem dX9_number_54 : decode cX9_number 54 = .ok (.iload_n 3, 1) := by decide +kernel
theorem dX9_number_55 : decode cX9_number 55 = .ok (.ifCond .ne 7, 3) := by decide +kernel
theorem dX9_number_58 : decode cX9_number 58 = .ok (.aload_n 0, 1) := by decide +kernel
theorem dX9_number_59 : decode cX9_number 59 = .ok (.invokevirtual 270, 3) := by decide +kernel
theorem dX9_number_62 : decode cX9_number 62 = .ok (.iload_n 2, 1) := by decide +kernel
theorem dX9_number_63 : decode cX9_number 63 = .ok (.ireturn, 1) := by decide +kernel
theorem dX9_reads_0 : decode cX9_reads 0 = .ok (.iconst 5, 1) := by decide +kernel
theorem dX9_reads_1 : decode cX9_reads 1 = .ok (.aload_n 0, 1) := by decide +kernel
theorem dX9_reads_2 : decode cX9_reads 2 = .ok (.getfield 273, 3) := by decide +kernel
theorem dX9_reads_5 : decode cX9_reads 5 = .ok (.imul, 1) := by decide +kernel
theorem dX9_reads_6 : decode cX9_reads 6 = .ok (.istore_n 1, 1) := by decide +kernel
theorem dX9_reads_7 : decode cX9_reads 7 = .ok (.aload_n 0, 1) := by decide +kernel
theorem dX9_reads_8 : decode cX9_reads 8 = .ok (.getfield 264, 3) := by decide +kernel
theorem dX9_reads_11 : decode cX9_reads 11 = .ok (.aload_n 0, 1) := by decide +kernel
theorem dX9_reads_12 : decode cX9_reads 12 = .ok (.getfield 258, 3) := by decide +kernel
theorem dX9_reads_15 : decode cX9_reads 15 = .ok (.if_icmp .ge 15, 3) := by decide +kernel
theorem dX9_reads_18 : decode cX9_reads 18 = .ok (.aload_n 0, 1) := by decide +kernel
theorem dX9_reads_19 : decode cX9_reads 19 = .ok (.getfield 53, 3) := by decide +kernel
theorem dX9_reads_22 : decode cX9_reads 22 = .ok (.aload_n 0, 1) := by decide +kernel
theorem dX9_reads_23 : decode cX9_reads 23 = .ok (.getfield 264, 3) := by decide +kernel
theorem dX9_reads_26 : decode cX9_reads 26 = .ok (.iaload, 1) := by decide +kernel
theorem dX9_reads_27 : decode cX9_reads 27 = .ok (.goto 4, 3) := by decide +kernel
theorem dX9_reads_30 : decode cX9_reads 30 = .ok (.iconst 0, 1) := by decide +kernel
theorem dX9_reads_31 : decode cX9_reads 31 = .ok (.istore_n 2, 1) := by decide +kernel
theorem dX9_reads_32 : decode cX9_reads 32 = .ok (.aload_n 0, 1) := by decide +kernel
theorem dX9_reads_33 : decode cX9_reads 33 = .ok (.getfield 56, 3) := by decide +kernel
theorem dX9_reads_36 : decode cX9_reads 36 = .ok (.iload_n 1, 1) := by decide +kernel
theorem dX9_reads_37 : decode cX9_reads 37 = .ok (.aload_n 0, 1) := by decide +kernel
theorem dX9_reads_38 : decode cX9_reads 38 = .ok (.getfield 264, 3) := by decide +kernel
theorem dX9_reads_41 : decode cX9_reads 41 = .ok (.iastore, 1) := by decide +kernel
theorem dX9_reads_42 : decode cX9_reads 42 = .ok (.iload_n 2, 1) := by decide +kernel
theorem dX9_reads_43 : decode cX9_reads 43 = .ok (.bipush 117, 2) := by decide +kernel
theorem dX9_reads_45 : decode cX9_reads 45 = .ok (.if_icmp .eq 38, 3) := by decide +kernel
theorem dX9_reads_48 : decode cX9_reads 48 = .ok (.iload_n 2, 1) := by decide +kernel
theorem dX9_reads_49 : decode cX9_reads 49 = .ok (.bipush 115, 2) := by decide +kernel
theorem dX9_reads_51 : decode cX9_reads 51 = .ok (.if_icmp .eq 32, 3) := by decide +kernel
theorem dX9_reads_54 : decode cX9_reads 54 = .ok (.iload_n 2, 1) := by decide +kernel
theorem dX9_reads_55 : decode cX9_reads 55 = .ok (.bipush 110, 2) := by decide +kernel
theorem dX9_reads_57 : decode cX9_reads 57 = .ok (.if_icmp .eq 26, 3) := by decide +kernel
theorem dX9_reads_60 : decode cX9_reads 60 = .ok (.iload_n 2, 1) := by decide +kernel
theorem dX9_reads_61 : decode cX9_reads 61 = .ok (.bipush 111, 2) := by decide +kernel
theorem dX9_reads_63 : decode cX9_reads 63 = .ok (.if_icmp .eq 20, 3) := by decide +kernel
theorem dX9_reads_66 : decode cX9_reads 66 = .ok (.iload_n 2, 1) := by decide +kernel
theorem dX9_reads_67 : decode cX9_reads 67 = .ok (.bipush 114, 2) := by decide +kernel
theorem dX9_reads_69 : decode cX9_reads 69 = .ok (.if_icmp .eq 14, 3) := by decide +kernel
theorem dX9_reads_72 : decode cX9_reads 72 = .ok (.iload_n 2, 1) := by decide +kernel
theorem dX9_reads_73 : decode cX9_reads 73 = .ok (.bipush 120, 2) := by decide +kernel
theorem dX9_reads_75 : decode cX9_reads 75 = .ok (.if_icmp .eq 8, 3) := by decide +kernel
theorem dX9_reads_78 : decode cX9_reads 78 = .ok (.aload_n 0, 1) := by decide +kernel
theorem dX9_reads_79 : decode cX9_reads 79 = .ok (.invokevirtual 270, 3) := by decide +kernel
theorem dX9_reads_82 : decode cX9_reads 82 = .ok (.return_, 1) := by decide +kernel
theorem dX9_reads_83 : decode cX9_reads 83 = .ok (.aload_n 0, 1) := by decide +kernel
theorem dX9_reads_84 : decode cX9_reads 84 = .ok (.dup, 1) := by decide +kernel
theorem dX9_reads_85 : decode cX9_reads 85 = .ok (.getfield 264, 3) := by decide +kernel
theorem dX9_reads_88 : decode cX9_reads 88 = .ok (.iconst 1, 1) := by decide +kernel
theorem dX9_reads_89 : decode cX9_reads 89 = .ok (.iadd, 1) := by decide +kernel
theorem dX9_reads_90 : decode cX9_reads 90 = .ok (.putfield 264, 3) := by decide +kernel
theorem dX9_reads_93 : decode cX9_reads 93 = .ok (.aload_n 0, 1) := by decide +kernel
theorem dX9_reads_94 : decode cX9_reads 94 = .ok (.getfield 56, 3) := by decide +kernel
theorem dX9_reads_97 : decode cX9_reads 97 = .ok (.iload_n 1, 1) := by decide +kernel
theorem dX9_reads_98 : decode cX9_reads 98 = .ok (.iconst 1, 1) := by decide +kernel
theorem dX9_reads_99 : decode cX9_reads 99 = .ok (.iadd, 1) := by decide +kernel
theorem dX9_reads_100 : decode cX9_reads 100 = .ok (.aload_n 0, 1) := by decide +kernel
theorem dX9_reads_101 : decode cX9_reads 101 = .ok (.iload_n 2, 1) := by decide +kernel
theorem dX9_reads_102 : decode cX9_reads 102 = .ok (.bipush 111, 2) := by decide +kernel
theorem dX9_reads_104 : decode cX9_reads 104 = .ok (.if_icmp .ne 7, 3) := by decide +kernel
theorem dX9_reads_107 : decode cX9_reads 107 = .ok (.iconst 1, 1) := by decide +kernel
theorem dX9_reads_108 : decode cX9_reads 108 = .ok (.goto 4, 3) := by decide +kernel
theorem dX9_reads_111 : decode cX9_reads 111 = .ok (.iconst 2, 1) := by decide +kernel
theorem dX9_reads_112 : decode cX9_reads 112 = .ok (.invokevirtual 276, 3) := by decide +kernel
theorem dX9_reads_115 : decode cX9_reads 115 = .ok (.iastore, 1) := by decide +kernel
theorem dX9_reads_116 : decode cX9_reads 116 = .ok (.iload_n 2, 1) := by decide +kernel
theorem dX9_reads_117 : decode cX9_reads 117 = .ok (.bipush 111, 2) := by decide +kernel
theorem dX9_reads_119 : decode cX9_reads 119 = .ok (.if_icmp .eq 9, 3) := by decide +kernel
theorem dX9_reads_122 : decode cX9_reads 122 = .ok (.iload_n 2, 1) := by decide +kernel
theorem dX9_reads_123 : decode cX9_reads 123 = .ok (.bipush 114, 2) := by decide +kernel
theorem dX9_reads_125 : decode cX9_reads 125 = .ok (.if_icmp .ne 4, 3) := by decide +kernel
theorem dX9_reads_128 : decode cX9_reads 128 = .ok (.return_, 1) := by decide +kernel
theorem dX9_reads_129 : decode cX9_reads 129 = .ok (.aload_n 0, 1) := by decide +kernel
theorem dX9_reads_130 : decode cX9_reads 130 = .ok (.iload_n 2, 1) := by decide +kernel
theorem dX9_reads_131 : decode cX9_reads 131 = .ok (.bipush 117, 2) := by decide +kernel
theorem dX9_reads_133 : decode cX9_reads 133 = .ok (.if_icmp .ne 8, 3) := by decide +kernel
theorem dX9_reads_136 : decode cX9_reads 136 = .ok (.bipush 47, 2) := by decide +kernel
theorem dX9_reads_138 : decode cX9_reads 138 = .ok (.goto 5, 3) := by decide +kernel
theorem dX9_reads_141 : decode cX9_reads 141 = .ok (.bipush 44, 2) := by decide +kernel
theorem dX9_reads_143 : decode cX9_reads 143 = .ok (.invokevirtual 279, 3) := by decide +kernel
theorem dX9_reads_146 : decode cX9_reads 146 = .ok (.aload_n 0, 1) := by decide +kernel
theorem dX9_reads_147 : decode cX9_reads 147 = .ok (.getfield 56, 3) := by decide +kernel
theorem dX9_reads_150 : decode cX9_reads 150 = .ok (.iload_n 1, 1) := by decide +kernel
theorem dX9_reads_151 : decode cX9_reads 151 = .ok (.iconst 2, 1) := by decide +kernel
theorem dX9_reads_152 : decode cX9_reads 152 = .ok (.iadd, 1) := by decide +kernel
theorem dX9_reads_153 : decode cX9_reads 153 = .ok (.aload_n 0, 1) := by decide +kernel
theorem dX9_reads_154 : decode cX9_reads 154 = .ok (.iconst 2, 1) := by decide +kernel
theorem dX9_reads_155 : decode cX9_reads 155 = .ok (.invokevirtual 276, 3) := by decide +kernel
theorem dX9_reads_158 : decode cX9_reads 158 = .ok (.iastore, 1) := by decide +kernel
theorem dX9_reads_159 : decode cX9_reads 159 = .ok (.iload_n 2, 1) := by decide +kernel
theorem dX9_reads_160 : decode cX9_reads 160 = .ok (.bipush 120, 2) := by decide +kernel
theorem dX9_reads_162 : decode cX9_reads 162 = .ok (.if_icmp .ne 4, 3) := by decide +kernel
theorem dX9_reads_165 : decode cX9_reads 165 = .ok (.return_, 1) := by decide +kernel
theorem dX9_reads_166 : decode cX9_reads 166 = .ok (.aload_n 0, 1) := by decide +kernel
theorem dX9_reads_167 : decode cX9_reads 167 = .ok (.iload_n 2, 1) := by decide +kernel
theorem dX9_reads_168 : decode cX9_reads 168 = .ok (.bipush 117, 2) := by decide +kernel
theorem dX9_reads_170 : decode cX9_reads 170 = .ok (.if_icmp .ne 8, 3) := by decide +kernel
theorem dX9_reads_173 : decode cX9_reads 173 = .ok (.bipush 44, 2) := by decide +kernel
theorem dX9_reads_175 : decode cX9_reads 175 = .ok (.goto 5, 3) := by decide +kernel
theorem dX9_reads_178 : decode cX9_reads 178 = .ok (.bipush 47, 2) := by decide +kernel
theorem dX9_reads_180 : decode cX9_reads 180 = .ok (.invokevirtual 279, 3) := by decide +kernel
theorem dX9_reads_183 : decode cX9_reads 183 = .ok (.aload_n 0, 1) := by decide +kernel
theorem dX9_reads_184 : decode cX9_reads 184 = .ok (.getfield 56, 3) := by decide +kernel
theorem dX9_reads_187 : decode cX9_reads 187 = .ok (.iload_n 1, 1) := by decide +kernel
theorem dX9_reads_188 : decode cX9_reads 188 = .ok (.iconst 3, 1) := by decide +kernel
theorem dX9_reads_189 : decode cX9_reads 189 = .ok (.iadd, 1) := by decide +kernel
theorem dX9_reads_190 : decode cX9_reads 190 = .ok (.aload_n 0, 1) := by decide +kernel
theorem dX9_reads_191 : decode cX9_reads 191 = .ok (.iload_n 2, 1) := by decide +kernel
theorem dX9_reads_192 : decode cX9_reads 192 = .ok (.bipush 117, 2) := by decide +kernel
theorem dX9_reads_194 : decode cX9_reads 194 = .ok (.if_icmp .ne 7, 3) := by decide +kernel
theorem dX9_reads_197 : decode cX9_reads 197 = .ok (.iconst 1, 1) := by decide +kernel
theorem dX9_reads_198 : decode cX9_reads 198 = .ok (.goto 4, 3) := by decide +kernel
theorem dX9_reads_201 : decode cX9_reads 201 = .ok (.iconst 2, 1) := by decide +kernel
theorem dX9_reads_202 : decode cX9_reads 202 = .ok (.invokevirtual 276, 3) := by decide +kernel
theorem dX9_reads_205 : decode cX9_reads 205 = .ok (.iastore, 1) := by decide +kernel
theorem dX9_reads_206 : decode cX9_reads 206 = .ok (.iload_n 2, 1) := by decide +kernel
theorem dX9_reads_207 : decode cX9_reads 207 = .ok (.bipush 117, 2) := by decide +kernel
theorem dX9_reads_209 : decode cX9_reads 209 = .ok (.if_icmp .eq 4, 3) := by decide +kernel
theorem dX9_reads_212 : decode cX9_reads 212 = .ok (.return_, 1) := by decide +kernel
theorem dX9_reads_213 : decode cX9_reads 213 = .ok (.aload_n 0, 1) := by decide +kernel
theorem dX9_reads_214 : decode cX9_reads 214 = .ok (.bipush 44, 2) := by decide +kernel
theorem dX9_reads_216 : decode cX9_reads 216 = .ok (.invokevirtual 279, 3) := by decide +kernel
theorem dX9_reads_219 : decode cX9_reads 219 = .ok (.aload_n 0, 1) := by decide +kernel
theorem dX9_reads_220 : decode cX9_reads 220 = .ok (.bipush 45, 2) := by decide +kernel
theorem dX9_reads_222 : decode cX9_reads 222 = .ok (.bipush 45, 2) := by decide +kernel
theorem dX9_reads_224 : decode cX9_reads 224 = .ok (.invokevirtual 267, 3) := by decide +kernel
theorem dX9_reads_227 : decode cX9_reads 227 = .ok (.istore_n 3, 1) := by decide +kernel
theorem dX9_reads_228 : decode cX9_reads 228 = .ok (.iload_n 3, 1) := by decide +kernel
theorem dX9_reads_229 : decode cX9_reads 229 = .ok (.ifCond .eq 13, 3) := by decide +kernel
theorem dX9_reads_232 : decode cX9_reads 232 = .ok (.aload_n 0, 1) := by decide +kernel
theorem dX9_reads_233 : decode cX9_reads 233 = .ok (.dup, 1) := by decide +kernel
theorem dX9_reads_234 : decode cX9_reads 234 = .ok (.getfield 264, 3) := by decide +kernel
theorem dX9_reads_237 : decode cX9_reads 237 = .ok (.iconst 1, 1) := by decide +kernel
theorem dX9_reads_238 : decode cX9_reads 238 = .ok (.iadd, 1) := by decide +kernel
theorem dX9_reads_239 : decode cX9_reads 239 = .ok (.putfield 264, 3) := by decide +kernel
theorem dX9_reads_242 : decode cX9_reads 242 = .ok (.aload_n 0, 1) := by decide +kernel
theorem dX9_reads_243 : decode cX9_reads 243 = .ok (.iconst 2, 1) := by decide +kernel
theorem dX9_reads_244 : decode cX9_reads 244 = .ok (.invokevirtual 276, 3) := by decide +kernel
theorem dX9_reads_247 : decode cX9_reads 247 = .ok (.istore 4, 2) := by decide +kernel
theorem dX9_reads_249 : decode cX9_reads 249 = .ok (.aload_n 0, 1) := by decide +kernel
theorem dX9_reads_250 : decode cX9_reads 250 = .ok (.getfield 56, 3) := by decide +kernel
theorem dX9_reads_253 : decode cX9_reads 253 = .ok (.iload_n 1, 1) := by decide +kernel
theorem dX9_reads_254 : decode cX9_reads 254 = .ok (.iconst 4, 1) := by decide +kernel
theorem dX9_reads_255 : decode cX9_reads 255 = .ok (.iadd, 1) := by decide +kernel
theorem dX9_reads_256 : decode cX9_reads 256 = .ok (.iload_n 3, 1) := by decide +kernel
theorem dX9_reads_257 : decode cX9_reads 257 = .ok (.ifCond .eq 9, 3) := by decide +kernel
theorem dX9_reads_260 : decode cX9_reads 260 = .ok (.iload 4, 2) := by decide +kernel
theorem dX9_reads_262 : decode cX9_reads 262 = .ok (.ineg, 1) := by decide +kernel
theorem dX9_reads_263 : decode cX9_reads 263 = .ok (.goto 5, 3) := by decide +kernel
theorem dX9_reads_266 : decode cX9_reads 266 = .ok (.iload 4, 2) := by decide +kernel
theorem dX9_reads_268 : decode cX9_reads 268 = .ok (.iastore, 1) := by decide +kernel
theorem dX9_reads_269 : decode cX9_reads 269 = .ok (.return_, 1) := by decide +kernel
theorem dX9_does_0 : decode cX9_does 0 = .ok (.iconst 5, 1) := by decide +kernel
theorem dX9_does_1 : decode cX9_does 1 = .ok (.iload_n 1, 1) := by decide +kernel
theorem dX9_does_2 : decode cX9_does 2 = .ok (.imul, 1) := by decide +kernel
theorem dX9_does_3 : decode cX9_does 3 = .ok (.istore_n 2, 1) := by decide +kernel
theorem dX9_does_4 : decode cX9_does 4 = .ok (.aload_n 0, 1) := by decide +kernel
theorem dX9_does_5 : decode cX9_does 5 = .ok (.getfield 56, 3) := by decide +kernel
theorem dX9_does_8 : decode cX9_does 8 = .ok (.iload_n 2, 1) := by decide +kernel
theorem dX9_does_9 : decode cX9_does 9 = .ok (.iconst 1, 1) := by decide +kernel
theorem dX9_does_10 : decode cX9_does 10 = .ok (.iadd, 1) := by decide +kernel
theorem dX9_does_11 : decode cX9_does 11 = .ok (.iaload, 1) := by decide +kernel
theorem dX9_does_12 : decode cX9_does 12 = .ok (.istore_n 3, 1) := by decide +kernel
theorem dX9_does_13 : decode cX9_does 13 = .ok (.aload_n 0, 1) := by decide +kernel
theorem dX9_does_14 : decode cX9_does 14 = .ok (.getfield 56, 3) := by decide +kernel
theorem dX9_does_17 : decode cX9_does 17 = .ok (.iload_n 2, 1) := by decide +kernel
theorem dX9_does_18 : decode cX9_does 18 = .ok (.iconst 2, 1) := by decide +kernel
theorem dX9_does_19 : decode cX9_does 19 = .ok (.iadd, 1) := by decide +kernel
theorem dX9_does_20 : decode cX9_does 20 = .ok (.iaload, 1) := by decide +kernel
theorem dX9_does_21 : decode cX9_does 21 = .ok (.istore 4, 2) := by decide +kernel
theorem dX9_does_23 : decode cX9_does 23 = .ok (.aload_n 0, 1) := by decide +kernel
theorem dX9_does_24 : decode cX9_does 24 = .ok (.getfield 53, 3) := by decide +kernel
theorem dX9_does_27 : decode cX9_does 27 = .ok (.aload_n 0, 1) := by decide +kernel
theorem dX9_does_28 : decode cX9_does 28 = .ok (.getfield 56, 3) := by decide +kernel
theorem dX9_does_31 : decode cX9_does 31 = .ok (.iload_n 2, 1) := by decide +kernel
theorem dX9_does_32 : decode cX9_does 32 = .ok (.iaload, 1) := by decide +kernel
theorem dX9_does_33 : decode cX9_does 33 = .ok (.iaload, 1) := by decide +kernel
theorem dX9_does_34 : decode cX9_does 34 = .ok (.tableswitch 156 110 120 #[99, 156, 156, 156, 124, 82, 156, 58, 156, 156, 116], 58) := by decide +kernel
theorem dX9_does_92 : decode cX9_does 92 = .ok (.aload_n 0, 1) := by decide +kernel
theorem dX9_does_93 : decode cX9_does 93 = .ok (.iload_n 3, 1) := by decide +kernel
theorem dX9_does_94 : decode cX9_does 94 = .ok (.iload 4, 2) := by decide +kernel
theorem dX9_does_96 : decode cX9_does 96 = .ok (.aload_n 0, 1) := by decide +kernel
theorem dX9_does_97 : decode cX9_does 97 = .ok (.getfield 56, 3) := by decide +kernel
theorem dX9_does_100 : decode cX9_does 100 = .ok (.iload_n 2, 1) := by decide +kernel
theorem dX9_does_101 : decode cX9_does 101 = .ok (.iconst 3, 1) := by decide +kernel
theorem dX9_does_102 : decode cX9_does 102 = .ok (.iadd, 1) := by decide +kernel
theorem dX9_does_103 : decode cX9_does 103 = .ok (.iaload, 1) := by decide +kernel
theorem dX9_does_104 : decode cX9_does 104 = .ok (.aload_n 0, 1) := by decide +kernel
theorem dX9_does_105 : decode cX9_does 105 = .ok (.getfield 56, 3) := by decide +kernel
theorem dX9_does_108 : decode cX9_does 108 = .ok (.iload_n 2, 1) := by decide +kernel
theorem dX9_does_109 : decode cX9_does 109 = .ok (.iconst 4, 1) := by decide +kernel
theorem dX9_does_110 : decode cX9_does 110 = .ok (.iadd, 1) := by decide +kernel
theorem dX9_does_111 : decode cX9_does 111 = .ok (.iaload, 1) := by decide +kernel
theorem dX9_does_112 : decode cX9_does 112 = .ok (.invokevirtual 82, 3) := by decide +kernel
theorem dX9_does_115 : decode cX9_does 115 = .ok (.ireturn, 1) := by decide +kernel
theorem dX9_does_116 : decode cX9_does 116 = .ok (.aload_n 0, 1) := by decide +kernel
theorem dX9_does_117 : decode cX9_does 117 = .ok (.iload_n 3, 1) := by decide +kernel
theorem dX9_does_118 : decode cX9_does 118 = .ok (.iconst 1, 1) := by decide +kernel
theorem dX9_does_119 : decode cX9_does 119 = .ok (.iload 4, 2) := by decide +kernel
theorem dX9_does_121 : decode cX9_does 121 = .ok (.aload_n 0, 1) := by decide +kernel
theorem dX9_does_122 : decode cX9_does 122 = .ok (.getfield 56, 3) := by decide +kernel
theorem dX9_does_125 : decode cX9_does 125 = .ok (.iload_n 2, 1) := by decide +kernel
theorem dX9_does_126 : decode cX9_does 126 = .ok (.iconst 3, 1) := by decide +kernel
theorem dX9_does_127 : decode cX9_does 127 = .ok (.iadd, 1) := by decide +kernel
theorem dX9_does_128 : decode cX9_does 128 = .ok (.iaload, 1) := by decide +kernel
theorem dX9_does_129 : decode cX9_does 129 = .ok (.invokevirtual 89, 3) := by decide +kernel
theorem dX9_does_132 : decode cX9_does 132 = .ok (.ireturn, 1) := by decide +kernel
theorem dX9_does_133 : decode cX9_does 133 = .ok (.aload_n 0, 1) := by decide +kernel
theorem dX9_does_134 : decode cX9_does 134 = .ok (.iload_n 3, 1) := by decide +kernel
theorem dX9_does_135 : decode cX9_does 135 = .ok (.iconst 2, 1) := by decide +kernel
theorem dX9_does_136 : decode cX9_does 136 = .ok (.iload 4, 2) := by decide +kernel
theorem dX9_does_138 : decode cX9_does 138 = .ok (.aload_n 0, 1) := by decide +kernel
theorem dX9_does_139 : decode cX9_does 139 = .ok (.getfield 56, 3) := by decide +kernel
theorem dX9_does_142 : decode cX9_does 142 = .ok (.iload_n 2, 1) := by decide +kernel
theorem dX9_does_143 : decode cX9_does 143 = .ok (.iconst 3, 1) := by decide +kernel
theorem dX9_does_144 : decode cX9_does 144 = .ok (.iadd, 1) := by decide +kernel
theorem dX9_does_145 : decode cX9_does 145 = .ok (.iaload, 1) := by decide +kernel
theorem dX9_does_146 : decode cX9_does 146 = .ok (.invokevirtual 89, 3) := by decide +kernel
theorem dX9_does_149 : decode cX9_does 149 = .ok (.ireturn, 1) := by decide +kernel
theorem dX9_does_150 : decode cX9_does 150 = .ok (.aload_n 0, 1) := by decide +kernel
theorem dX9_does_151 : decode cX9_does 151 = .ok (.iload_n 3, 1) := by decide +kernel
theorem dX9_does_152 : decode cX9_does 152 = .ok (.iload 4, 2) := by decide +kernel
theorem dX9_does_154 : decode cX9_does 154 = .ok (.invokevirtual 121, 3) := by decide +kernel
theorem dX9_does_157 : decode cX9_does 157 = .ok (.ireturn, 1) := by decide +kernel
theorem dX9_does_158 : decode cX9_does 158 = .ok (.aload_n 0, 1) := by decide +kernel
theorem dX9_does_159 : decode cX9_does 159 = .ok (.iload_n 3, 1) := by decide +kernel
theorem dX9_does_160 : decode cX9_does 160 = .ok (.invokevirtual 85, 3) := by decide +kernel
theorem dX9_does_163 : decode cX9_does 163 = .ok (.ifCond .ne 5, 3) := by decide +kernel
theorem dX9_does_166 : decode cX9_does 166 = .ok (.iconst (-1), 1) := by decide +kernel
theorem dX9_does_167 : decode cX9_does 167 = .ok (.ireturn, 1) := by decide +kernel
theorem dX9_does_168 : decode cX9_does 168 = .ok (.aload_n 0, 1) := by decide +kernel
theorem dX9_does_169 : decode cX9_does 169 = .ok (.getfield 7, 3) := by decide +kernel
theorem dX9_does_172 : decode cX9_does 172 = .ok (.bipush 38, 2) := by decide +kernel
theorem dX9_does_174 : decode cX9_does 174 = .ok (.iload_n 3, 1) := by decide +kernel
theorem dX9_does_175 : decode cX9_does 175 = .ok (.iadd, 1) := by decide +kernel
theorem dX9_does_176 : decode cX9_does 176 = .ok (.iconst 1, 1) := by decide +kernel
theorem dX9_does_177 : decode cX9_does 177 = .ok (.aload_n 0, 1) := by decide +kernel
theorem dX9_does_178 : decode cX9_does 178 = .ok (.getfield 7, 3) := by decide +kernel
theorem dX9_does_181 : decode cX9_does 181 = .ok (.bipush 38, 2) := by decide +kernel
theorem dX9_does_183 : decode cX9_does 183 = .ok (.iload_n 3, 1) := by decide +kernel
theorem dX9_does_184 : decode cX9_does 184 = .ok (.iadd, 1) := by decide +kernel
theorem dX9_does_185 : decode cX9_does 185 = .ok (.iaload, 1) := by decide +kernel
theorem dX9_does_186 : decode cX9_does 186 = .ok (.isub, 1) := by decide +kernel
theorem dX9_does_187 : decode cX9_does 187 = .ok (.iastore, 1) := by decide +kernel
theorem dX9_does_188 : decode cX9_does 188 = .ok (.iconst 1, 1) := by decide +kernel
theorem dX9_does_189 : decode cX9_does 189 = .ok (.ireturn, 1) := by decide +kernel
theorem dX9_does_190 : decode cX9_does 190 = .ok (.iload_n 3, 1) := by decide +kernel
theorem dX9_does_191 : decode cX9_does 191 = .ok (.iconst 5, 1) := by decide +kernel
theorem dX9_does_192 : decode cX9_does 192 = .ok (.if_icmp .le 6, 3) := by decide +kernel
theorem dX9_does_195 : decode cX9_does 195 = .ok (.bipush (-2), 2) := by decide +kernel
theorem dX9_does_197 : decode cX9_does 197 = .ok (.ireturn, 1) := by decide +kernel
theorem dX9_does_198 : decode cX9_does 198 = .ok (.aload_n 0, 1) := by decide +kernel
theorem dX9_does_199 : decode cX9_does 199 = .ok (.getfield 7, 3) := by decide +kernel
theorem dX9_does_202 : decode cX9_does 202 = .ok (.iconst 1, 1) := by decide +kernel
theorem dX9_does_203 : decode cX9_does 203 = .ok (.iload_n 3, 1) := by decide +kernel
theorem dX9_does_204 : decode cX9_does 204 = .ok (.iastore, 1) := by decide +kernel
theorem dX9_does_205 : decode cX9_does 205 = .ok (.iconst 1, 1) := by decide +kernel
theorem dX9_does_206 : decode cX9_does 206 = .ok (.ireturn, 1) := by decide +kernel
theorem dX9_pours_0 : decode cX9_pours 0 = .ok (.iconst 0, 1) := by decide +kernel
theorem dX9_pours_1 : decode cX9_pours 1 = .ok (.istore_n 2, 1) := by decide +kernel
theorem dX9_pours_2 : decode cX9_pours 2 = .ok (.iload_n 2, 1) := by decide +kernel
theorem dX9_pours_3 : decode cX9_pours 3 = .ok (.bipush 122, 2) := by decide +kernel
theorem dX9_pours_5 : decode cX9_pours 5 = .ok (.if_icmp .ge 15, 3) := by decide +kernel
theorem dX9_pours_8 : decode cX9_pours 8 = .ok (.aload_n 1, 1) := by decide +kernel
theorem dX9_pours_9 : decode cX9_pours 9 = .ok (.iload_n 2, 1) := by decide +kernel
theorem dX9_pours_10 : decode cX9_pours 10 = .ok (.aload_n 0, 1) := by decide +kernel
theorem dX9_pours_11 : decode cX9_pours 11 = .ok (.iload_n 2, 1) := by decide +kernel
theorem dX9_pours_12 : decode cX9_pours 12 = .ok (.iaload, 1) := by decide +kernel
theorem dX9_pours_13 : decode cX9_pours 13 = .ok (.iastore, 1) := by decide +kernel
theorem dX9_pours_14 : decode cX9_pours 14 = .ok (.iinc 2 1, 3) := by decide +kernel
theorem dX9_pours_17 : decode cX9_pours 17 = .ok (.goto (-15), 3) := by decide +kernel
theorem dX9_pours_20 : decode cX9_pours 20 = .ok (.return_, 1) := by decide +kernel
theorem dX9_tells_0 : decode cX9_tells 0 = .ok (.aload_n 0, 1) := by decide +kernel
theorem dX9_tells_1 : decode cX9_tells 1 = .ok (.iconst 0, 1) := by decide +kernel
theorem dX9_tells_2 : decode cX9_tells 2 = .ok (.putfield 264, 3) := by decide +kernel
theorem dX9_tells_5 : decode cX9_tells 5 = .ok (.aload_n 0, 1) := by decide +kernel
theorem dX9_tells_6 : decode cX9_tells 6 = .ok (.iconst (-1), 1) := by decide +kernel
theorem dX9_tells_7 : decode cX9_tells 7 = .ok (.putfield 261, 3) := by decide +kernel
theorem dX9_tells_10 : decode cX9_tells 10 = .ok (.aload_n 0, 1) := by decide +kernel
theorem dX9_tells_11 : decode cX9_tells 11 = .ok (.iconst 0, 1) := by decide +kernel
theorem dX9_tells_12 : decode cX9_tells 12 = .ok (.putfield 273, 3) := by decide +kernel
theorem dX9_tells_15 : decode cX9_tells 15 = .ok (.aload_n 0, 1) := by decide +kernel
theorem dX9_tells_16 : decode cX9_tells 16 = .ok (.invokevirtual 282, 3) := by decide +kernel
theorem dX9_tells_19 : decode cX9_tells 19 = .ok (.aload_n 0, 1) := by decide +kernel
theorem dX9_tells_20 : decode cX9_tells 20 = .ok (.bipush 59, 2) := by decide +kernel
theorem dX9_tells_22 : decode cX9_tells 22 = .ok (.bipush 59, 2) := by decide +kernel
theorem dX9_tells_24 : decode cX9_tells 24 = .ok (.invokevirtual 267, 3) := by decide +kernel
theorem dX9_tells_27 : decode cX9_tells 27 = .ok (.ifCond .eq 30, 3) := by decide +kernel
theorem dX9_tells_30 : decode cX9_tells 30 = .ok (.aload_n 0, 1) := by decide +kernel
theorem dX9_tells_31 : decode cX9_tells 31 = .ok (.dup, 1) := by decide +kernel
theorem dX9_tells_32 : decode cX9_tells 32 = .ok (.getfield 273, 3) := by decide +kernel
theorem dX9_tells_35 : decode cX9_tells 35 = .ok (.iconst 1, 1) := by decide +kernel
theorem dX9_tells_36 : decode cX9_tells 36 = .ok (.iadd, 1) := by decide +kernel
theorem dX9_tells_37 : decode cX9_tells 37 = .ok (.putfield 273, 3) := by decide +kernel
theorem dX9_tells_40 : decode cX9_tells 40 = .ok (.aload_n 0, 1) := by decide +kernel
theorem dX9_tells_41 : decode cX9_tells 41 = .ok (.dup, 1) := by decide +kernel
theorem dX9_tells_42 : decode cX9_tells 42 = .ok (.getfield 264, 3) := by decide +kernel
theorem dX9_tells_45 : decode cX9_tells 45 = .ok (.iconst 1, 1) := by decide +kernel
theorem dX9_tells_46 : decode cX9_tells 46 = .ok (.iadd, 1) := by decide +kernel
theorem dX9_tells_47 : decode cX9_tells 47 = .ok (.putfield 264, 3) := by decide +kernel
theorem dX9_tells_50 : decode cX9_tells 50 = .ok (.aload_n 0, 1) := by decide +kernel
theorem dX9_tells_51 : decode cX9_tells 51 = .ok (.invokevirtual 282, 3) := by decide +kernel
theorem dX9_tells_54 : decode cX9_tells 54 = .ok (.goto (-35), 3) := by decide +kernel
theorem dX9_tells_57 : decode cX9_tells 57 = .ok (.aload_n 0, 1) := by decide +kernel
theorem dX9_tells_58 : decode cX9_tells 58 = .ok (.getfield 261, 3) := by decide +kernel
theorem dX9_tells_61 : decode cX9_tells 61 = .ok (.ifCond .ge 18, 3) := by decide +kernel
theorem dX9_tells_64 : decode cX9_tells 64 = .ok (.aload_n 0, 1) := by decide +kernel
theorem dX9_tells_65 : decode cX9_tells 65 = .ok (.getfield 264, 3) := by decide +kernel
theorem dX9_tells_68 : decode cX9_tells 68 = .ok (.aload_n 0, 1) := by decide +kernel
theorem dX9_tells_69 : decode cX9_tells 69 = .ok (.getfield 258, 3) := by decide +kernel
theorem dX9_tells_72 : decode cX9_tells 72 = .ok (.if_icmp .ge 7, 3) := by decide +kernel
theorem dX9_tells_75 : decode cX9_tells 75 = .ok (.aload_n 0, 1) := by decide +kernel
theorem dX9_tells_76 : decode cX9_tells 76 = .ok (.invokevirtual 270, 3) := by decide +kernel
theorem dX9_tells_79 : decode cX9_tells 79 = .ok (.aload_n 0, 1) := by decide +kernel
theorem dX9_tells_80 : decode cX9_tells 80 = .ok (.dup, 1) := by decide +kernel
theorem dX9_tells_81 : decode cX9_tells 81 = .ok (.getfield 273, 3) := by decide +kernel
theorem dX9_tells_84 : decode cX9_tells 84 = .ok (.iconst 1, 1) := by decide +kernel
theorem dX9_tells_85 : decode cX9_tells 85 = .ok (.iadd, 1) := by decide +kernel
theorem dX9_tells_86 : decode cX9_tells 86 = .ok (.putfield 273, 3) := by decide +kernel
theorem dX9_tells_89 : decode cX9_tells 89 = .ok (.aload_n 0, 1) := by decide +kernel
theorem dX9_tells_90 : decode cX9_tells 90 = .ok (.iconst 0, 1) := by decide +kernel
theorem dX9_tells_91 : decode cX9_tells 91 = .ok (.putfield 258, 3) := by decide +kernel
theorem dX9_tells_94 : decode cX9_tells 94 = .ok (.aload_n 0, 1) := by decide +kernel
theorem dX9_tells_95 : decode cX9_tells 95 = .ok (.getfield 261, 3) := by decide +kernel
theorem dX9_tells_98 : decode cX9_tells 98 = .ok (.ifCond .lt 15, 3) := by decide +kernel
theorem dX9_tells_101 : decode cX9_tells 101 = .ok (.aload_n 0, 1) := by decide +kernel
theorem dX9_tells_102 : decode cX9_tells 102 = .ok (.bipush (-100), 2) := by decide +kernel
theorem dX9_tells_104 : decode cX9_tells 104 = .ok (.aload_n 0, 1) := by decide +kernel
theorem dX9_tells_105 : decode cX9_tells 105 = .ok (.getfield 261, 3) := by decide +kernel
theorem dX9_tells_108 : decode cX9_tells 108 = .ok (.isub, 1) := by decide +kernel
theorem dX9_tells_109 : decode cX9_tells 109 = .ok (.invokevirtual 71, 3) := by decide +kernel
theorem dX9_tells_112 : decode cX9_tells 112 = .ok (.ireturn, 1) := by decide +kernel
theorem dX9_tells_113 : decode cX9_tells 113 = .ok (.aload_n 0, 1) := by decide +kernel
theorem dX9_tells_114 : decode cX9_tells 114 = .ok (.getfield 7, 3) := by decide +kernel
theorem dX9_tells_117 : decode cX9_tells 117 = .ok (.aload_n 0, 1) := by decide +kernel
theorem dX9_tells_118 : decode cX9_tells 118 = .ok (.getfield 16, 3) := by decide +kernel
theorem dX9_tells_121 : decode cX9_tells 121 = .ok (.invokestatic 285, 3) := by decide +kernel
theorem dX9_tells_124 : decode cX9_tells 124 = .ok (.iconst 0, 1) := by decide +kernel
theorem dX9_tells_125 : decode cX9_tells 125 = .ok (.istore_n 1, 1) := by decide +kernel
theorem dX9_tells_126 : decode cX9_tells 126 = .ok (.iload_n 1, 1) := by decide +kernel
theorem dX9_tells_127 : decode cX9_tells 127 = .ok (.aload_n 0, 1) := by decide +kernel
theorem dX9_tells_128 : decode cX9_tells 128 = .ok (.getfield 273, 3) := by decide +kernel
theorem dX9_tells_131 : decode cX9_tells 131 = .ok (.if_icmp .ge 53, 3) := by decide +kernel
theorem dX9_tells_134 : decode cX9_tells 134 = .ok (.aload_n 0, 1) := by decide +kernel
theorem dX9_tells_135 : decode cX9_tells 135 = .ok (.iload_n 1, 1) := by decide +kernel
theorem dX9_tells_136 : decode cX9_tells 136 = .ok (.invokevirtual 289, 3) := by decide +kernel
theorem dX9_tells_139 : decode cX9_tells 139 = .ok (.istore_n 2, 1) := by decide +kernel
theorem dX9_tells_140 : decode cX9_tells 140 = .ok (.iload_n 2, 1) := by decide +kernel
theorem dX9_tells_141 : decode cX9_tells 141 = .ok (.ifCond .lt 6, 3) := by decide +kernel
theorem dX9_tells_144 : decode cX9_tells 144 = .ok (.goto 34, 3) := by decide +kernel
theorem dX9_tells_147 : decode cX9_tells 147 = .ok (.aload_n 0, 1) := by decide +kernel
theorem dX9_tells_148 : decode cX9_tells 148 = .ok (.getfield 16, 3) := by decide +kernel
theorem dX9_tells_151 : decode cX9_tells 151 = .ok (.aload_n 0, 1) := by decide +kernel
theorem dX9_tells_152 : decode cX9_tells 152 = .ok (.getfield 7, 3) := by decide +kernel
theorem dX9_tells_155 : decode cX9_tells 155 = .ok (.invokestatic 285, 3) := by decide +kernel
theorem dX9_tells_158 : decode cX9_tells 158 = .ok (.aload_n 0, 1) := by decide +kernel
theorem dX9_tells_159 : decode cX9_tells 159 = .ok (.sipush (-300), 3) := by decide +kernel
theorem dX9_tells_162 : decode cX9_tells 162 = .ok (.aload_n 0, 1) := by decide +kernel
theorem dX9_tells_163 : decode cX9_tells 163 = .ok (.getfield 56, 3) := by decide +kernel
theorem dX9_tells_166 : decode cX9_tells 166 = .ok (.iconst 5, 1) := by decide +kernel
theorem dX9_tells_167 : decode cX9_tells 167 = .ok (.iload_n 1, 1) := by decide +kernel
theorem dX9_tells_168 : decode cX9_tells 168 = .ok (.imul, 1) := by decide +kernel
theorem dX9_tells_169 : decode cX9_tells 169 = .ok (.iaload, 1) := by decide +kernel
theorem dX9_tells_170 : decode cX9_tells 170 = .ok (.isub, 1) := by decide +kernel
theorem dX9_tells_171 : decode cX9_tells 171 = .ok (.iconst 1, 1) := by decide +kernel
theorem dX9_tells_172 : decode cX9_tells 172 = .ok (.iload_n 2, 1) := by decide +kernel
theorem dX9_tells_173 : decode cX9_tells 173 = .ok (.iload_n 2, 1) := by decide +kernel
theorem dX9_tells_174 : decode cX9_tells 174 = .ok (.invokevirtual 65, 3) := by decide +kernel
theorem dX9_tells_177 : decode cX9_tells 177 = .ok (.ireturn, 1) := by decide +kernel
theorem dX9_tells_178 : decode cX9_tells 178 = .ok (.iinc 1 1, 3) := by decide +kernel
theorem dX9_tells_181 : decode cX9_tells 181 = .ok (.goto (-55), 3) := by decide +kernel
theorem dX9_tells_184 : decode cX9_tells 184 = .ok (.aload_n 0, 1) := by decide +kernel
theorem dX9_tells_185 : decode cX9_tells 185 = .ok (.iconst 0, 1) := by decide +kernel
theorem dX9_tells_186 : decode cX9_tells 186 = .ok (.invokevirtual 144, 3) := by decide +kernel
theorem dX9_tells_189 : decode cX9_tells 189 = .ok (.ifCond .eq 8, 3) := by decide +kernel
theorem dX9_tells_192 : decode cX9_tells 192 = .ok (.aload_n 0, 1) := by decide +kernel
theorem dX9_tells_193 : decode cX9_tells 193 = .ok (.getfield 273, 3) := by decide +kernel
theorem dX9_tells_196 : decode cX9_tells 196 = .ok (.ireturn, 1) := by decide +kernel
theorem dX9_tells_197 : decode cX9_tells 197 = .ok (.aload_n 0, 1) := by decide +kernel
theorem dX9_tells_198 : decode cX9_tells 198 = .ok (.getfield 16, 3) := by decide +kernel
theorem dX9_tells_201 : decode cX9_tells 201 = .ok (.aload_n 0, 1) := by decide +kernel
theorem dX9_tells_202 : decode cX9_tells 202 = .ok (.getfield 7, 3) := by decide +kernel
theorem dX9_tells_205 : decode cX9_tells 205 = .ok (.invokestatic 285, 3) := by decide +kernel
theorem dX9_tells_208 : decode cX9_tells 208 = .ok (.aload_n 0, 1) := by decide +kernel
theorem dX9_tells_209 : decode cX9_tells 209 = .ok (.bipush (-7), 2) := by decide +kernel
theorem dX9_tells_211 : decode cX9_tells 211 = .ok (.iconst 2, 1) := by decide +kernel
theorem dX9_tells_212 : decode cX9_tells 212 = .ok (.bipush (-7), 2) := by decide +kernel
theorem dX9_tells_214 : decode cX9_tells 214 = .ok (.bipush (-9), 2) := by decide +kernel
theorem dX9_tells_216 : decode cX9_tells 216 = .ok (.invokevirtual 65, 3) := by decide +kernel
theorem dX9_tells_219 : decode cX9_tells 219 = .ok (.ireturn, 1) := by decide +kernel
theorem dX9_reason_0 : decode cX9_reason 0 = .ok (.iload_n 1, 1) := by decide +kernel
theorem dX9_reason_1 : decode cX9_reason 1 = .ok (.iconst 0, 1) := by decide +kernel
theorem dX9_reason_2 : decode cX9_reason 2 = .ok (.iconst 3, 1) := by decide +kernel
theorem dX9_reason_3 : decode cX9_reason 3 = .ok (.invokestatic 75, 3) := by decide +kernel
theorem dX9_reason_6 : decode cX9_reason 6 = .ok (.ifCond .eq 12, 3) := by decide +kernel
theorem dX9_reason_9 : decode cX9_reason 9 = .ok (.aload_n 0, 1) := by decide +kernel
theorem dX9_reason_10 : decode cX9_reason 10 = .ok (.getfield 19, 3) := by decide +kernel
theorem dX9_reason_13 : decode cX9_reason 13 = .ok (.iload_n 1, 1) := by decide +kernel
theorem dX9_reason_14 : decode cX9_reason 14 = .ok (.iaload, 1) := by decide +kernel
theorem dX9_reason_15 : decode cX9_reason 15 = .ok (.goto 4, 3) := by decide +kernel
theorem dX9_reason_18 : decode cX9_reason 18 = .ok (.iconst 0, 1) := by decide +kernel
theorem dX9_reason_19 : decode cX9_reason 19 = .ok (.ireturn, 1) := by decide +kernel
theorem dX9_isList_0 : decode cX9_isList 0 = .ok (.iload_n 0, 1) := by decide +kernel
theorem dX9_isList_1 : decode cX9_isList 1 = .ok (.iconst 0, 1) := by decide +kernel
theorem dX9_isList_2 : decode cX9_isList 2 = .ok (.iconst 2, 1) := by decide +kernel
theorem dX9_isList_3 : decode cX9_isList 3 = .ok (.invokestatic 75, 3) := by decide +kernel
theorem dX9_isList_6 : decode cX9_isList 6 = .ok (.ireturn, 1) := by decide +kernel
theorem dX9_list_0 : decode cX9_list 0 = .ok (.iload_n 1, 1) := by decide +kernel
theorem dX9_list_1 : decode cX9_list 1 = .ok (.invokestatic 292, 3) := by decide +kernel
theorem dX9_list_4 : decode cX9_list 4 = .ok (.ifCond .ne 9, 3) := by decide +kernel
theorem dX9_list_7 : decode cX9_list 7 = .ok (.aload_n 0, 1) := by decide +kernel
theorem dX9_list_8 : decode cX9_list 8 = .ok (.iconst (-1), 1) := by decide +kernel
theorem dX9_list_9 : decode cX9_list 9 = .ok (.invokevirtual 71, 3) := by decide +kernel
theorem dX9_list_12 : decode cX9_list 12 = .ok (.ireturn, 1) := by decide +kernel
theorem dX9_list_13 : decode cX9_list 13 = .ok (.iload_n 2, 1) := by decide +kernel
theorem dX9_list_14 : decode cX9_list 14 = .ok (.bipush 15, 2) := by decide +kernel
theorem dX9_list_16 : decode cX9_list 16 = .ok (.if_icmp .le 10, 3) := by decide +kernel
theorem dX9_list_19 : decode cX9_list 19 = .ok (.aload_n 0, 1) := by decide +kernel
theorem dX9_list_20 : decode cX9_list 20 = .ok (.bipush (-2), 2) := by decide +kernel
theorem dX9_list_22 : decode cX9_list 22 = .ok (.invokevirtual 71, 3) := by decide +kernel
theorem dX9_list_25 : decode cX9_list 25 = .ok (.ireturn, 1) := by decide +kernel
theorem dX9_list_26 : decode cX9_list 26 = .ok (.iload_n 2, 1) := by decide +kernel
theorem dX9_list_27 : decode cX9_list 27 = .ok (.ifCond .ge 10, 3) := by decide +kernel
theorem dX9_list_30 : decode cX9_list 30 = .ok (.aload_n 0, 1) := by decide +kernel
theorem dX9_list_31 : decode cX9_list 31 = .ok (.bipush (-14), 2) := by decide +kernel
theorem dX9_list_33 : decode cX9_list 33 = .ok (.invokevirtual 71, 3) := by decide +kernel
theorem dX9_list_36 : decode cX9_list 36 = .ok (.ireturn, 1) := by decide +kernel
theorem dX9_list_37 : decode cX9_list 37 = .ok (.aload_n 0, 1) := by decide +kernel
theorem dX9_list_38 : decode cX9_list 38 = .ok (.getfield 59, 3) := by decide +kernel
theorem dX9_list_41 : decode cX9_list 41 = .ok (.iload_n 1, 1) := by decide +kernel
theorem dX9_list_42 : decode cX9_list 42 = .ok (.iload_n 2, 1) := by decide +kernel
theorem dX9_list_43 : decode cX9_list 43 = .ok (.iconst 1, 1) := by decide +kernel
theorem dX9_list_44 : decode cX9_list 44 = .ok (.iadd, 1) := by decide +kernel
theorem dX9_list_45 : decode cX9_list 45 = .ok (.iastore, 1) := by decide +kernel
theorem dX9_list_46 : decode cX9_list 46 = .ok (.iconst 0, 1) := by decide +kernel
theorem dX9_list_47 : decode cX9_list 47 = .ok (.istore_n 3, 1) := by decide +kernel
theorem dX9_list_48 : decode cX9_list 48 = .ok (.iload_n 3, 1) := by decide +kernel
theorem dX9_list_49 : decode cX9_list 49 = .ok (.bipush 15, 2) := by decide +kernel
theorem dX9_list_51 : decode cX9_list 51 = .ok (.if_icmp .ge 21, 3) := by decide +kernel
theorem dX9_list_54 : decode cX9_list 54 = .ok (.aload_n 0, 1) := by decide +kernel
theorem dX9_list_55 : decode cX9_list 55 = .ok (.getfield 62, 3) := by decide +kernel
theorem dX9_list_58 : decode cX9_list 58 = .ok (.bipush 15, 2) := by decide +kernel
theorem dX9_list_60 : decode cX9_list 60 = .ok (.iload_n 1, 1) := by decide +kernel
theorem dX9_list_61 : decode cX9_list 61 = .ok (.imul, 1) := by decide +kernel
theorem dX9_list_62 : decode cX9_list 62 = .ok (.iload_n 3, 1) := by decide +kernel
theorem dX9_list_63 : decode cX9_list 63 = .ok (.iadd, 1) := by decide +kernel
theorem dX9_list_64 : decode cX9_list 64 = .ok (.lconst 0, 1) := by decide +kernel
theorem dX9_list_65 : decode cX9_list 65 = .ok (.lastore, 1) := by decide +kernel
theorem dX9_list_66 : decode cX9_list 66 = .ok (.iinc 3 1, 3) := by decide +kernel
theorem dX9_list_69 : decode cX9_list 69 = .ok (.goto (-21), 3) := by decide +kernel
theorem dX9_list_72 : decode cX9_list 72 = .ok (.iconst 1, 1) := by decide +kernel
theorem dX9_list_73 : decode cX9_list 73 = .ok (.ireturn, 1) := by decide +kernel
theorem dX9_put_0 : decode cX9_put 0 = .ok (.iload_n 1, 1) := by decide +kernel
theorem dX9_put_1 : decode cX9_put 1 = .ok (.invokestatic 292, 3) := by decide +kernel
theorem dX9_put_4 : decode cX9_put 4 = .ok (.ifCond .ne 9, 3) := by decide +kernel
theorem dX9_put_7 : decode cX9_put 7 = .ok (.aload_n 0, 1) := by decide +kernel
theorem dX9_put_8 : decode cX9_put 8 = .ok (.iconst (-1), 1) := by decide +kernel
theorem dX9_put_9 : decode cX9_put 9 = .ok (.invokevirtual 71, 3) := by decide +kernel
theorem dX9_put_12 : decode cX9_put 12 = .ok (.ireturn, 1) := by decide +kernel
theorem dX9_put_13 : decode cX9_put 13 = .ok (.aload_n 0, 1) := by decide +kernel
theorem dX9_put_14 : decode cX9_put 14 = .ok (.getfield 59, 3) := by decide +kernel
theorem dX9_put_17 : decode cX9_put 17 = .ok (.iload_n 1, 1) := by decide +kernel
theorem dX9_put_18 : decode cX9_put 18 = .ok (.iaload, 1) := by decide +kernel
theorem dX9_put_19 : decode cX9_put 19 = .ok (.ifCond .ne 10, 3) := by decide +kernel
theorem dX9_put_22 : decode cX9_put 22 = .ok (.aload_n 0, 1) := by decide +kernel
theorem dX9_put_23 : decode cX9_put 23 = .ok (.bipush (-11), 2) := by decide +kernel
theorem dX9_put_25 : decode cX9_put 25 = .ok (.invokevirtual 71, 3) := by decide +kernel
theorem dX9_put_28 : decode cX9_put 28 = .ok (.ireturn, 1) := by decide +kernel
theorem dX9_put_29 : decode cX9_put 29 = .ok (.iload_n 2, 1) := by decide +kernel
theorem dX9_put_30 : decode cX9_put 30 = .ok (.iconst 0, 1) := by decide +kernel
theorem dX9_put_31 : decode cX9_put 31 = .ok (.aload_n 0, 1) := by decide +kernel
theorem dX9_put_32 : decode cX9_put 32 = .ok (.getfield 59, 3) := by decide +kernel
theorem dX9_put_35 : decode cX9_put 35 = .ok (.iload_n 1, 1) := by decide +kernel
theorem dX9_put_36 : decode cX9_put 36 = .ok (.iaload, 1) := by decide +kernel
theorem dX9_put_37 : decode cX9_put 37 = .ok (.iconst 2, 1) := by decide +kernel
theorem dX9_put_38 : decode cX9_put 38 = .ok (.isub, 1) := by decide +kernel
theorem dX9_put_39 : decode cX9_put 39 = .ok (.invokestatic 75, 3) := by decide +kernel
theorem dX9_put_42 : decode cX9_put 42 = .ok (.ifCond .ne 10, 3) := by decide +kernel
theorem dX9_put_45 : decode cX9_put 45 = .ok (.aload_n 0, 1) := by decide +kernel
theorem dX9_put_46 : decode cX9_put 46 = .ok (.bipush (-13), 2) := by decide +kernel
theorem dX9_put_48 : decode cX9_put 48 = .ok (.invokevirtual 71, 3) := by decide +kernel
theorem dX9_put_51 : decode cX9_put 51 = .ok (.ireturn, 1) := by decide +kernel
theorem dX9_put_52 : decode cX9_put 52 = .ok (.aload_n 0, 1) := by decide +kernel
theorem dX9_put_53 : decode cX9_put 53 = .ok (.getfield 62, 3) := by decide +kernel
theorem dX9_put_56 : decode cX9_put 56 = .ok (.bipush 15, 2) := by decide +kernel
theorem dX9_put_58 : decode cX9_put 58 = .ok (.iload_n 1, 1) := by decide +kernel
theorem dX9_put_59 : decode cX9_put 59 = .ok (.imul, 1) := by decide +kernel
theorem dX9_put_60 : decode cX9_put 60 = .ok (.iload_n 2, 1) := by decide +kernel
theorem dX9_put_61 : decode cX9_put 61 = .ok (.iadd, 1) := by decide +kernel
theorem dX9_put_62 : decode cX9_put 62 = .ok (.lload_n 3, 1) := by decide +kernel
theorem dX9_put_63 : decode cX9_put 63 = .ok (.lastore, 1) := by decide +kernel
theorem dX9_put_64 : decode cX9_put 64 = .ok (.iconst 1, 1) := by decide +kernel
theorem dX9_put_65 : decode cX9_put 65 = .ok (.ireturn, 1) := by decide +kernel
theorem dX9_look_0 : decode cX9_look 0 = .ok (.iload_n 1, 1) := by decide +kernel
theorem dX9_look_1 : decode cX9_look 1 = .ok (.invokestatic 292, 3) := by decide +kernel
theorem dX9_look_4 : decode cX9_look 4 = .ok (.ifCond .ne 9, 3) := by decide +kernel
theorem dX9_look_7 : decode cX9_look 7 = .ok (.aload_n 0, 1) := by decide +kernel
theorem dX9_look_8 : decode cX9_look 8 = .ok (.iconst (-1), 1) := by decide +kernel
theorem dX9_look_9 : decode cX9_look 9 = .ok (.invokevirtual 92, 3) := by decide +kernel
theorem dX9_look_12 : decode cX9_look 12 = .ok (.lreturn, 1) := by decide +kernel
theorem dX9_look_13 : decode cX9_look 13 = .ok (.aload_n 0, 1) := by decide +kernel
theorem dX9_look_14 : decode cX9_look 14 = .ok (.getfield 59, 3) := by decide +kernel
theorem dX9_look_17 : decode cX9_look 17 = .ok (.iload_n 1, 1) := by decide +kernel
theorem dX9_look_18 : decode cX9_look 18 = .ok (.iaload, 1) := by decide +kernel
theorem dX9_look_19 : decode cX9_look 19 = .ok (.ifCond .ne 10, 3) := by decide +kernel
theorem dX9_look_22 : decode cX9_look 22 = .ok (.aload_n 0, 1) := by decide +kernel
theorem dX9_look_23 : decode cX9_look 23 = .ok (.bipush (-11), 2) := by decide +kernel
theorem dX9_look_25 : decode cX9_look 25 = .ok (.invokevirtual 92, 3) := by decide +kernel
theorem dX9_look_28 : decode cX9_look 28 = .ok (.lreturn, 1) := by decide +kernel
theorem dX9_look_29 : decode cX9_look 29 = .ok (.iload_n 2, 1) := by decide +kernel
theorem dX9_look_30 : decode cX9_look 30 = .ok (.iconst 0, 1) := by decide +kernel
theorem dX9_look_31 : decode cX9_look 31 = .ok (.aload_n 0, 1) := by decide +kernel
theorem dX9_look_32 : decode cX9_look 32 = .ok (.getfield 59, 3) := by decide +kernel
theorem dX9_look_35 : decode cX9_look 35 = .ok (.iload_n 1, 1) := by decide +kernel
theorem dX9_look_36 : decode cX9_look 36 = .ok (.iaload, 1) := by decide +kernel
theorem dX9_look_37 : decode cX9_look 37 = .ok (.iconst 2, 1) := by decide +kernel
theorem dX9_look_38 : decode cX9_look 38 = .ok (.isub, 1) := by decide +kernel
theorem dX9_look_39 : decode cX9_look 39 = .ok (.invokestatic 75, 3) := by decide +kernel
theorem dX9_look_42 : decode cX9_look 42 = .ok (.ifCond .eq 17, 3) := by decide +kernel
theorem dX9_look_45 : decode cX9_look 45 = .ok (.aload_n 0, 1) := by decide +kernel
theorem dX9_look_46 : decode cX9_look 46 = .ok (.getfield 62, 3) := by decide +kernel
theorem dX9_look_49 : decode cX9_look 49 = .ok (.bipush 15, 2) := by decide +kernel
theorem dX9_look_51 : decode cX9_look 51 = .ok (.iload_n 1, 1) := by decide +kernel
theorem dX9_look_52 : decode cX9_look 52 = .ok (.imul, 1) := by decide +kernel
theorem dX9_look_53 : decode cX9_look 53 = .ok (.iload_n 2, 1) := by decide +kernel
theorem dX9_look_54 : decode cX9_look 54 = .ok (.iadd, 1) := by decide +kernel
theorem dX9_look_55 : decode cX9_look 55 = .ok (.laload, 1) := by decide +kernel
theorem dX9_look_56 : decode cX9_look 56 = .ok (.goto 9, 3) := by decide +kernel
theorem dX9_look_59 : decode cX9_look 59 = .ok (.aload_n 0, 1) := by decide +kernel
theorem dX9_look_60 : decode cX9_look 60 = .ok (.bipush (-13), 2) := by decide +kernel
theorem dX9_look_62 : decode cX9_look 62 = .ok (.invokevirtual 92, 3) := by decide +kernel
theorem dX9_look_65 : decode cX9_look 65 = .ok (.lreturn, 1) := by decide +kernel
theorem dX9_judge_0 : decode cX9_judge 0 = .ok (.iload_n 1, 1) := by decide +kernel
theorem dX9_judge_1 : decode cX9_judge 1 = .ok (.invokestatic 292, 3) := by decide +kernel
theorem dX9_judge_4 : decode cX9_judge 4 = .ok (.ifCond .eq 7, 3) := by decide +kernel
theorem dX9_judge_7 : decode cX9_judge 7 = .ok (.iload_n 2, 1) := by decide +kernel
theorem dX9_judge_8 : decode cX9_judge 8 = .ok (.ifCond .ge 9, 3) := by decide +kernel
theorem dX9_judge_11 : decode cX9_judge 11 = .ok (.aload_n 0, 1) := by decide +kernel
theorem dX9_judge_12 : decode cX9_judge 12 = .ok (.iconst (-1), 1) := by decide +kernel
theorem dX9_judge_13 : decode cX9_judge 13 = .ok (.invokevirtual 71, 3) := by decide +kernel
theorem dX9_judge_16 : decode cX9_judge 16 = .ok (.ireturn, 1) := by decide +kernel
theorem dX9_judge_17 : decode cX9_judge 17 = .ok (.aload_n 0, 1) := by decide +kernel
theorem dX9_judge_18 : decode cX9_judge 18 = .ok (.getfield 59, 3) := by decide +kernel
theorem dX9_judge_21 : decode cX9_judge 21 = .ok (.iload_n 1, 1) := by decide +kernel
theorem dX9_judge_22 : decode cX9_judge 22 = .ok (.iaload, 1) := by decide +kernel
theorem dX9_judge_23 : decode cX9_judge 23 = .ok (.ifCond .ne 10, 3) := by decide +kernel
theorem dX9_judge_26 : decode cX9_judge 26 = .ok (.aload_n 0, 1) := by decide +kernel
theorem dX9_judge_27 : decode cX9_judge 27 = .ok (.bipush (-11), 2) := by decide +kernel
theorem dX9_judge_29 : decode cX9_judge 29 = .ok (.invokevirtual 71, 3) := by decide +kernel
theorem dX9_judge_32 : decode cX9_judge 32 = .ok (.ireturn, 1) := by decide +kernel
theorem dX9_judge_33 : decode cX9_judge 33 = .ok (.aload_n 0, 1) := by decide +kernel
theorem dX9_judge_34 : decode cX9_judge 34 = .ok (.iconst 0, 1) := by decide +kernel
theorem dX9_judge_35 : decode cX9_judge 35 = .ok (.invokevirtual 144, 3) := by decide +kernel
theorem dX9_judge_38 : decode cX9_judge 38 = .ok (.ifCond .ne 10, 3) := by decide +kernel
theorem dX9_judge_41 : decode cX9_judge 41 = .ok (.aload_n 0, 1) := by decide +kernel
theorem dX9_judge_42 : decode cX9_judge 42 = .ok (.bipush (-7), 2) := by decide +kernel
theorem dX9_judge_44 : decode cX9_judge 44 = .ok (.invokevirtual 71, 3) := by decide +kernel
theorem dX9_judge_47 : decode cX9_judge 47 = .ok (.ireturn, 1) := by decide +kernel
theorem dX9_judge_48 : decode cX9_judge 48 = .ok (.iconst 0, 1) := by decide +kernel
theorem dX9_judge_49 : decode cX9_judge 49 = .ok (.istore_n 3, 1) := by decide +kernel
theorem dX9_judge_50 : decode cX9_judge 50 = .ok (.iload_n 3, 1) := by decide +kernel
theorem dX9_judge_51 : decode cX9_judge 51 = .ok (.aload_n 0, 1) := by decide +kernel
theorem dX9_judge_52 : decode cX9_judge 52 = .ok (.getfield 7, 3) := by decide +kernel
theorem dX9_judge_55 : decode cX9_judge 55 = .ok (.iconst 0, 1) := by decide +kernel
theorem dX9_judge_56 : decode cX9_judge 56 = .ok (.iaload, 1) := by decide +kernel
theorem dX9_judge_57 : decode cX9_judge 57 = .ok (.if_icmp .ge 57, 3) := by decide +kernel
theorem dX9_judge_60 : decode cX9_judge 60 = .ok (.iload_n 2, 1) := by decide +kernel
theorem dX9_judge_61 : decode cX9_judge 61 = .ok (.i2l, 1) := by decide +kernel
theorem dX9_judge_62 : decode cX9_judge 62 = .ok (.iload_n 3, 1) := by decide +kernel
theorem dX9_judge_63 : decode cX9_judge 63 = .ok (.i2l, 1) := by decide +kernel
theorem dX9_judge_64 : decode cX9_judge 64 = .ok (.ladd, 1) := by decide +kernel
theorem dX9_judge_65 : decode cX9_judge 65 = .ok (.aload_n 0, 1) := by decide +kernel
theorem dX9_judge_66 : decode cX9_judge 66 = .ok (.getfield 59, 3) := by decide +kernel
theorem dX9_judge_69 : decode cX9_judge 69 = .ok (.iload_n 1, 1) := by decide +kernel
theorem dX9_judge_70 : decode cX9_judge 70 = .ok (.iaload, 1) := by decide +kernel
theorem dX9_judge_71 : decode cX9_judge 71 = .ok (.iconst 1, 1) := by decide +kernel
theorem dX9_judge_72 : decode cX9_judge 72 = .ok (.isub, 1) := by decide +kernel
theorem dX9_judge_73 : decode cX9_judge 73 = .ok (.i2l, 1) := by decide +kernel
theorem dX9_judge_74 : decode cX9_judge 74 = .ok (.lcmp, 1) := by decide +kernel
theorem dX9_judge_75 : decode cX9_judge 75 = .ok (.ifCond .lt 8, 3) := by decide +kernel
theorem dX9_judge_78 : decode cX9_judge 78 = .ok (.bipush 100, 2) := by decide +kernel
theorem dX9_judge_80 : decode cX9_judge 80 = .ok (.iload_n 3, 1) := by decide +kernel
theorem dX9_judge_81 : decode cX9_judge 81 = .ok (.iadd, 1) := by decide +kernel
theorem dX9_judge_82 : decode cX9_judge 82 = .ok (.ireturn, 1) := by decide +kernel
theorem dX9_judge_83 : decode cX9_judge 83 = .ok (.aload_n 0, 1) := by decide +kernel
theorem dX9_judge_84 : decode cX9_judge 84 = .ok (.getfield 62, 3) := by decide +kernel
theorem dX9_judge_87 : decode cX9_judge 87 = .ok (.bipush 15, 2) := by decide +kernel
theorem dX9_judge_89 : decode cX9_judge 89 = .ok (.iload_n 1, 1) := by decide +kernel
theorem dX9_judge_90 : decode cX9_judge 90 = .ok (.imul, 1) := by decide +kernel
theorem dX9_judge_91 : decode cX9_judge 91 = .ok (.iload_n 2, 1) := by decide +kernel
theorem dX9_judge_92 : decode cX9_judge 92 = .ok (.iadd, 1) := by decide +kernel
theorem dX9_judge_93 : decode cX9_judge 93 = .ok (.iload_n 3, 1) := by decide +kernel
theorem dX9_judge_94 : decode cX9_judge 94 = .ok (.iadd, 1) := by decide +kernel
theorem dX9_judge_95 : decode cX9_judge 95 = .ok (.laload, 1) := by decide +kernel
theorem dX9_judge_96 : decode cX9_judge 96 = .ok (.aload_n 0, 1) := by decide +kernel
theorem dX9_judge_97 : decode cX9_judge 97 = .ok (.getfield 29, 3) := by decide +kernel
theorem dX9_judge_100 : decode cX9_judge 100 = .ok (.iload_n 3, 1) := by decide +kernel
theorem dX9_judge_101 : decode cX9_judge 101 = .ok (.laload, 1) := by decide +kernel
theorem dX9_judge_102 : decode cX9_judge 102 = .ok (.lcmp, 1) := by decide +kernel
theorem dX9_judge_103 : decode cX9_judge 103 = .ok (.ifCond .eq 5, 3) := by decide +kernel
theorem dX9_judge_106 : decode cX9_judge 106 = .ok (.iload_n 3, 1) := by decide +kernel
theorem dX9_judge_107 : decode cX9_judge 107 = .ok (.ireturn, 1) := by decide +kernel
theorem dX9_judge_108 : decode cX9_judge 108 = .ok (.iinc 3 1, 3) := by decide +kernel
theorem dX9_judge_111 : decode cX9_judge 111 = .ok (.goto (-61), 3) := by decide +kernel
theorem dX9_judge_114 : decode cX9_judge 114 = .ok (.bipush (-5), 2) := by decide +kernel
theorem dX9_judge_116 : decode cX9_judge 116 = .ok (.ireturn, 1) := by decide +kernel
theorem dX9_image_0 : decode cX9_image 0 = .ok (.aload_n 0, 1) := by decide +kernel
theorem dX9_image_1 : decode cX9_image 1 = .ok (.iconst 1, 1) := by decide +kernel
theorem dX9_image_2 : decode cX9_image 2 = .ok (.putfield 295, 3) := by decide +kernel
theorem dX9_image_5 : decode cX9_image 5 = .ok (.aload_n 0, 1) := by decide +kernel
theorem dX9_image_6 : decode cX9_image 6 = .ok (.getfield 7, 3) := by decide +kernel
theorem dX9_image_9 : decode cX9_image 9 = .ok (.aload_n 0, 1) := by decide +kernel
theorem dX9_image_10 : decode cX9_image 10 = .ok (.getfield 13, 3) := by decide +kernel
theorem dX9_image_13 : decode cX9_image 13 = .ok (.invokestatic 285, 3) := by decide +kernel
theorem dX9_image_16 : decode cX9_image 16 = .ok (.aload_n 0, 1) := by decide +kernel
theorem dX9_image_17 : decode cX9_image 17 = .ok (.getfield 7, 3) := by decide +kernel
theorem dX9_image_20 : decode cX9_image 20 = .ok (.iconst 0, 1) := by decide +kernel
theorem dX9_image_21 : decode cX9_image 21 = .ok (.iaload, 1) := by decide +kernel
theorem dX9_image_22 : decode cX9_image 22 = .ok (.ireturn, 1) := by decide +kernel
theorem dX9_undo_0 : decode cX9_undo 0 = .ok (.aload_n 0, 1) := by decide +kernel
theorem dX9_undo_1 : decode cX9_undo 1 = .ok (.getfield 295, 3) := by decide +kernel
theorem dX9_undo_4 : decode cX9_undo 4 = .ok (.ifCond .ne 10, 3) := by decide +kernel
theorem dX9_undo_7 : decode cX9_undo 7 = .ok (.aload_n 0, 1) := by decide +kernel
theorem dX9_undo_8 : decode cX9_undo 8 = .ok (.bipush (-3), 2) := by decide +kernel
theorem dX9_undo_10 : decode cX9_undo 10 = .ok (.invokevirtual 71, 3) := by decide +kernel
theorem dX9_undo_13 : decode cX9_undo 13 = .ok (.ireturn, 1) := by decide +kernel
theorem dX9_undo_14 : decode cX9_undo 14 = .ok (.aload_n 0, 1) := by decide +kernel
theorem dX9_undo_15 : decode cX9_undo 15 = .ok (.getfield 13, 3) := by decide +kernel
theorem dX9_undo_18 : decode cX9_undo 18 = .ok (.aload_n 0, 1) := by decide +kernel
theorem dX9_undo_19 : decode cX9_undo 19 = .ok (.getfield 7, 3) := by decide +kernel
theorem dX9_undo_22 : decode cX9_undo 22 = .ok (.invokestatic 285, 3) := by decide +kernel
theorem dX9_undo_25 : decode cX9_undo 25 = .ok (.aload_n 0, 1) := by decide +kernel
theorem dX9_undo_26 : decode cX9_undo 26 = .ok (.getfield 7, 3) := by decide +kernel
theorem dX9_undo_29 : decode cX9_undo 29 = .ok (.iconst 0, 1) := by decide +kernel
theorem dX9_undo_30 : decode cX9_undo 30 = .ok (.iaload, 1) := by decide +kernel
theorem dX9_undo_31 : decode cX9_undo 31 = .ok (.ireturn, 1) := by decide +kernel
theorem dX9_count_0 : decode cX9_count 0 = .ok (.iload_n 1, 1) := by decide +kernel
theorem dX9_count_1 : decode cX9_count 1 = .ok (.iconst 0, 1) := by decide +kernel
theorem dX9_count_2 : decode cX9_count 2 = .ok (.iconst 3, 1) := by decide +kernel
theorem dX9_count_3 : decode cX9_count 3 = .ok (.invokestatic 75, 3) := by decide +kernel
theorem dX9_count_6 : decode cX9_count 6 = .ok (.ifCond .ne 9, 3) := by decide +kernel
theorem dX9_count_9 : decode cX9_count 9 = .ok (.aload_n 0, 1) := by decide +kernel
theorem dX9_count_10 : decode cX9_count 10 = .ok (.iconst (-1), 1) := by decide +kernel
theorem dX9_count_11 : decode cX9_count 11 = .ok (.invokevirtual 71, 3) := by decide +kernel
theorem dX9_count_14 : decode cX9_count 14 = .ok (.ireturn, 1) := by decide +kernel
theorem dX9_count_15 : decode cX9_count 15 = .ok (.iload_n 1, 1) := by decide +kernel
theorem dX9_count_16 : decode cX9_count 16 = .ok (.iconst 2, 1) := by decide +kernel
theorem dX9_count_17 : decode cX9_count 17 = .ok (.if_icmp .ge 10, 3) := by decide +kernel
theorem dX9_count_20 : decode cX9_count 20 = .ok (.aload_n 0, 1) := by decide +kernel
theorem dX9_count_21 : decode cX9_count 21 = .ok (.getfield 7, 3) := by decide +kernel
theorem dX9_count_24 : decode cX9_count 24 = .ok (.iload_n 1, 1) := by decide +kernel
theorem dX9_count_25 : decode cX9_count 25 = .ok (.iaload, 1) := by decide +kernel
theorem dX9_count_26 : decode cX9_count 26 = .ok (.ireturn, 1) := by decide +kernel
theorem dX9_count_27 : decode cX9_count 27 = .ok (.iload_n 1, 1) := by decide +kernel
theorem dX9_count_28 : decode cX9_count 28 = .ok (.iconst 2, 1) := by decide +kernel
theorem dX9_count_29 : decode cX9_count 29 = .ok (.if_icmp .ne 8, 3) := by decide +kernel
theorem dX9_count_32 : decode cX9_count 32 = .ok (.aload_n 0, 1) := by decide +kernel
theorem dX9_count_33 : decode cX9_count 33 = .ok (.getfield 258, 3) := by decide +kernel
theorem dX9_count_36 : decode cX9_count 36 = .ok (.ireturn, 1) := by decide +kernel
theorem dX9_count_37 : decode cX9_count 37 = .ok (.iconst 0, 1) := by decide +kernel
theorem dX9_count_38 : decode cX9_count 38 = .ok (.istore_n 2, 1) := by decide +kernel
theorem dX9_count_39 : decode cX9_count 39 = .ok (.iconst 0, 1) := by decide +kernel
theorem dX9_count_40 : decode cX9_count 40 = .ok (.istore_n 3, 1) := by decide +kernel
theorem dX9_count_41 : decode cX9_count 41 = .ok (.iload_n 3, 1) := by decide +kernel
theorem dX9_count_42 : decode cX9_count 42 = .ok (.aload_n 0, 1) := by decide +kernel
theorem dX9_count_43 : decode cX9_count 43 = .ok (.getfield 7, 3) := by decide +kernel
theorem dX9_count_46 : decode cX9_count 46 = .ok (.iconst 0, 1) := by decide +kernel
theorem dX9_count_47 : decode cX9_count 47 = .ok (.iaload, 1) := by decide +kernel
theorem dX9_count_48 : decode cX9_count 48 = .ok (.if_icmp .ge 23, 3) := by decide +kernel
theorem dX9_count_51 : decode cX9_count 51 = .ok (.iload_n 2, 1) := by decide +kernel
theorem dX9_count_52 : decode cX9_count 52 = .ok (.aload_n 0, 1) := by decide +kernel
theorem dX9_count_53 : decode cX9_count 53 = .ok (.getfield 7, 3) := by decide +kernel
theorem dX9_count_56 : decode cX9_count 56 = .ok (.bipush 38, 2) := by decide +kernel
theorem dX9_count_58 : decode cX9_count 58 = .ok (.iload_n 3, 1) := by decide +kernel
theorem dX9_count_59 : decode cX9_count 59 = .ok (.iadd, 1) := by decide +kernel
theorem dX9_count_60 : decode cX9_count 60 = .ok (.iaload, 1) := by decide +kernel
theorem dX9_count_61 : decode cX9_count 61 = .ok (.iload_n 3, 1) := by decide +kernel
theorem dX9_count_62 : decode cX9_count 62 = .ok (.ishl, 1) := by decide +kernel
theorem dX9_count_63 : decode cX9_count 63 = .ok (.ior, 1) := by decide +kernel
theorem dX9_count_64 : decode cX9_count 64 = .ok (.istore_n 2, 1) := by decide +kernel
theorem dX9_count_65 : decode cX9_count 65 = .ok (.iinc 3 1, 3) := by decide +kernel
theorem dX9_count_68 : decode cX9_count 68 = .ok (.goto (-27), 3) := by decide +kernel
theorem dX9_count_71 : decode cX9_count 71 = .ok (.iload_n 2, 1) := by decide +kernel
theorem dX9_count_72 : decode cX9_count 72 = .ok (.ireturn, 1) := by decide +kernel
theorem dJ6_bitCount_0f7a4_0 : decode cJ6_bitCount_0f7a4 0 = .ok (.iload_n 0, 1) := by decide +kernel
theorem dJ6_bitCount_0f7a4_1 : decode cJ6_bitCount_0f7a4 1 = .ok (.iload_n 0, 1) := by decide +kernel
theorem dJ6_bitCount_0f7a4_2 : decode cJ6_bitCount_0f7a4 2 = .ok (.iconst 1, 1) := by decide +kernel
theorem dJ6_bitCount_0f7a4_3 : decode cJ6_bitCount_0f7a4 3 = .ok (.iushr, 1) := by decide +kernel
theorem dJ6_bitCount_0f7a4_4 : decode cJ6_bitCount_0f7a4 4 = .ok (.ldc_w 265, 3) := by decide +kernel
theorem dJ6_bitCount_0f7a4_7 : decode cJ6_bitCount_0f7a4 7 = .ok (.iand, 1) := by decide +kernel
theorem dJ6_bitCount_0f7a4_8 : decode cJ6_bitCount_0f7a4 8 = .ok (.isub, 1) := by decide +kernel
theorem dJ6_bitCount_0f7a4_9 : decode cJ6_bitCount_0f7a4 9 = .ok (.istore_n 0, 1) := by decide +kernel
theorem dJ6_bitCount_0f7a4_10 : decode cJ6_bitCount_0f7a4 10 = .ok (.iload_n 0, 1) := by decide +kernel
theorem dJ6_bitCount_0f7a4_11 : decode cJ6_bitCount_0f7a4 11 = .ok (.ldc_w 266, 3) := by decide +kernel
theorem dJ6_bitCount_0f7a4_14 : decode cJ6_bitCount_0f7a4 14 = .ok (.iand, 1) := by decide +kernel
theorem dJ6_bitCount_0f7a4_15 : decode cJ6_bitCount_0f7a4 15 = .ok (.iload_n 0, 1) := by decide +kernel
theorem dJ6_bitCount_0f7a4_16 : decode cJ6_bitCount_0f7a4 16 = .ok (.iconst 2, 1) := by decide +kernel
theorem dJ6_bitCount_0f7a4_17 : decode cJ6_bitCount_0f7a4 17 = .ok (.iushr, 1) := by decide +kernel
theorem dJ6_bitCount_0f7a4_18 : decode cJ6_bitCount_0f7a4 18 = .ok (.ldc_w 266, 3) := by decide +kernel
theorem dJ6_bitCount_0f7a4_21 : decode cJ6_bitCount_0f7a4 21 = .ok (.iand, 1) := by decide +kernel
theorem dJ6_bitCount_0f7a4_22 : decode cJ6_bitCount_0f7a4 22 = .ok (.iadd, 1) := by decide +kernel
theorem dJ6_bitCount_0f7a4_23 : decode cJ6_bitCount_0f7a4 23 = .ok (.istore_n 0, 1) := by decide +kernel
theorem dJ6_bitCount_0f7a4_24 : decode cJ6_bitCount_0f7a4 24 = .ok (.iload_n 0, 1) := by decide +kernel
theorem dJ6_bitCount_0f7a4_25 : decode cJ6_bitCount_0f7a4 25 = .ok (.iload_n 0, 1) := by decide +kernel
theorem dJ6_bitCount_0f7a4_26 : decode cJ6_bitCount_0f7a4 26 = .ok (.iconst 4, 1) := by decide +kernel
theorem dJ6_bitCount_0f7a4_27 : decode cJ6_bitCount_0f7a4 27 = .ok (.iushr, 1) := by decide +kernel
theorem dJ6_bitCount_0f7a4_28 : decode cJ6_bitCount_0f7a4 28 = .ok (.iadd, 1) := by decide +kernel
theorem dJ6_bitCount_0f7a4_29 : decode cJ6_bitCount_0f7a4 29 = .ok (.ldc_w 267, 3) := by decide +kernel
theorem dJ6_bitCount_0f7a4_32 : decode cJ6_bitCount_0f7a4 32 = .ok (.iand, 1) := by decide +kernel
theorem dJ6_bitCount_0f7a4_33 : decode cJ6_bitCount_0f7a4 33 = .ok (.istore_n 0, 1) := by decide +kernel
theorem dJ6_bitCount_0f7a4_34 : decode cJ6_bitCount_0f7a4 34 = .ok (.iload_n 0, 1) := by decide +kernel
theorem dJ6_bitCount_0f7a4_35 : decode cJ6_bitCount_0f7a4 35 = .ok (.iload_n 0, 1) := by decide +kernel
theorem dJ6_bitCount_0f7a4_36 : decode cJ6_bitCount_0f7a4 36 = .ok (.bipush 8, 2) := by decide +kernel
theorem dJ6_bitCount_0f7a4_38 : decode cJ6_bitCount_0f7a4 38 = .ok (.iushr, 1) := by decide +kernel
theorem dJ6_bitCount_0f7a4_39 : decode cJ6_bitCount_0f7a4 39 = .ok (.iadd, 1) := by decide +kernel
theorem dJ6_bitCount_0f7a4_40 : decode cJ6_bitCount_0f7a4 40 = .ok (.istore_n 0, 1) := by decide +kernel
theorem dJ6_bitCount_0f7a4_41 : decode cJ6_bitCount_0f7a4 41 = .ok (.iload_n 0, 1) := by decide +kernel
theorem dJ6_bitCount_0f7a4_42 : decode cJ6_bitCount_0f7a4 42 = .ok (.iload_n 0, 1) := by decide +kernel
theorem dJ6_bitCount_0f7a4_43 : decode cJ6_bitCount_0f7a4 43 = .ok (.bipush 16, 2) := by decide +kernel
theorem dJ6_bitCount_0f7a4_45 : decode cJ6_bitCount_0f7a4 45 = .ok (.iushr, 1) := by decide +kernel
theorem dJ6_bitCount_0f7a4_46 : decode cJ6_bitCount_0f7a4 46 = .ok (.iadd, 1) := by decide +kernel
theorem dJ6_bitCount_0f7a4_47 : decode cJ6_bitCount_0f7a4 47 = .ok (.istore_n 0, 1) := by decide +kernel
theorem dJ6_bitCount_0f7a4_48 : decode cJ6_bitCount_0f7a4 48 = .ok (.iload_n 0, 1) := by decide +kernel
theorem dJ6_bitCount_0f7a4_49 : decode cJ6_bitCount_0f7a4 49 = .ok (.bipush 63, 2) := by decide +kernel
theorem dJ6_bitCount_0f7a4_51 : decode cJ6_bitCount_0f7a4 51 = .ok (.iand, 1) := by decide +kernel
theorem dJ6_bitCount_0f7a4_52 : decode cJ6_bitCount_0f7a4 52 = .ok (.ireturn, 1) := by decide +kernel
theorem dJ9_floorMod_f86c9_0 : decode cJ9_floorMod_f86c9 0 = .ok (.lload_n 0, 1) := by decide +kernel
theorem dJ9_floorMod_f86c9_1 : decode cJ9_floorMod_f86c9 1 = .ok (.lload_n 2, 1) := by decide +kernel
theorem dJ9_floorMod_f86c9_2 : decode cJ9_floorMod_f86c9 2 = .ok (.lrem, 1) := by decide +kernel
theorem dJ9_floorMod_f86c9_3 : decode cJ9_floorMod_f86c9 3 = .ok (.lstore 4, 2) := by decide +kernel
theorem dJ9_floorMod_f86c9_5 : decode cJ9_floorMod_f86c9 5 = .ok (.lload_n 0, 1) := by decide +kernel
theorem dJ9_floorMod_f86c9_6 : decode cJ9_floorMod_f86c9 6 = .ok (.lload_n 2, 1) := by decide +kernel
theorem dJ9_floorMod_f86c9_7 : decode cJ9_floorMod_f86c9 7 = .ok (.lxor, 1) := by decide +kernel
theorem dJ9_floorMod_f86c9_8 : decode cJ9_floorMod_f86c9 8 = .ok (.lconst 0, 1) := by decide +kernel
theorem dJ9_floorMod_f86c9_9 : decode cJ9_floorMod_f86c9 9 = .ok (.lcmp, 1) := by decide +kernel
theorem dJ9_floorMod_f86c9_10 : decode cJ9_floorMod_f86c9 10 = .ok (.ifCond .ge 15, 3) := by decide +kernel
theorem dJ9_floorMod_f86c9_13 : decode cJ9_floorMod_f86c9 13 = .ok (.lload 4, 2) := by decide +kernel
theorem dJ9_floorMod_f86c9_15 : decode cJ9_floorMod_f86c9 15 = .ok (.lconst 0, 1) := by decide +kernel
theorem dJ9_floorMod_f86c9_16 : decode cJ9_floorMod_f86c9 16 = .ok (.lcmp, 1) := by decide +kernel
theorem dJ9_floorMod_f86c9_17 : decode cJ9_floorMod_f86c9 17 = .ok (.ifCond .eq 8, 3) := by decide +kernel
theorem dJ9_floorMod_f86c9_20 : decode cJ9_floorMod_f86c9 20 = .ok (.lload 4, 2) := by decide +kernel
theorem dJ9_floorMod_f86c9_22 : decode cJ9_floorMod_f86c9 22 = .ok (.lload_n 2, 1) := by decide +kernel
theorem dJ9_floorMod_f86c9_23 : decode cJ9_floorMod_f86c9 23 = .ok (.ladd, 1) := by decide +kernel
theorem dJ9_floorMod_f86c9_24 : decode cJ9_floorMod_f86c9 24 = .ok (.lreturn, 1) := by decide +kernel
theorem dJ9_floorMod_f86c9_25 : decode cJ9_floorMod_f86c9 25 = .ok (.lload 4, 2) := by decide +kernel
theorem dJ9_floorMod_f86c9_27 : decode cJ9_floorMod_f86c9 27 = .ok (.lreturn, 1) := by decide +kernel
theorem dJ9_max_f86c9_0 : decode cJ9_max_f86c9 0 = .ok (.lload_n 0, 1) := by decide +kernel
theorem dJ9_max_f86c9_1 : decode cJ9_max_f86c9 1 = .ok (.lload_n 2, 1) := by decide +kernel
theorem dJ9_max_f86c9_2 : decode cJ9_max_f86c9 2 = .ok (.lcmp, 1) := by decide +kernel
theorem dJ9_max_f86c9_3 : decode cJ9_max_f86c9 3 = .ok (.ifCond .lt 7, 3) := by decide +kernel
theorem dJ9_max_f86c9_6 : decode cJ9_max_f86c9 6 = .ok (.lload_n 0, 1) := by decide +kernel
theorem dJ9_max_f86c9_7 : decode cJ9_max_f86c9 7 = .ok (.goto 4, 3) := by decide +kernel
theorem dJ9_max_f86c9_10 : decode cJ9_max_f86c9 10 = .ok (.lload_n 2, 1) := by decide +kernel
theorem dJ9_max_f86c9_11 : decode cJ9_max_f86c9 11 = .ok (.lreturn, 1) := by decide +kernel
theorem dJ9_min_f86c9_0 : decode cJ9_min_f86c9 0 = .ok (.lload_n 0, 1) := by decide +kernel
theorem dJ9_min_f86c9_1 : decode cJ9_min_f86c9 1 = .ok (.lload_n 2, 1) := by decide +kernel
theorem dJ9_min_f86c9_2 : decode cJ9_min_f86c9 2 = .ok (.lcmp, 1) := by decide +kernel
theorem dJ9_min_f86c9_3 : decode cJ9_min_f86c9 3 = .ok (.ifCond .gt 7, 3) := by decide +kernel
theorem dJ9_min_f86c9_6 : decode cJ9_min_f86c9 6 = .ok (.lload_n 0, 1) := by decide +kernel
theorem dJ9_min_f86c9_7 : decode cJ9_min_f86c9 7 = .ok (.goto 4, 3) := by decide +kernel
theorem dJ9_min_f86c9_10 : decode cJ9_min_f86c9 10 = .ok (.lload_n 2, 1) := by decide +kernel
theorem dJ9_min_f86c9_11 : decode cJ9_min_f86c9 11 = .ok (.lreturn, 1) := by decide +kernel
theorem dJ0_length_8abf5_0 : decode cJ0_length_8abf5 0 = .ok (.aload_n 0, 1) := by decide +kernel
theorem dJ0_length_8abf5_1 : decode cJ0_length_8abf5 1 = .ok (.getfield 9, 3) := by decide +kernel
theorem dJ0_length_8abf5_4 : decode cJ0_length_8abf5 4 = .ok (.arraylength, 1) := by decide +kernel
theorem dJ0_length_8abf5_5 : decode cJ0_length_8abf5 5 = .ok (.aload_n 0, 1) := by decide +kernel
theorem dJ0_length_8abf5_6 : decode cJ0_length_8abf5 6 = .ok (.invokevirtual 335, 3) := by decide +kernel
theorem dJ0_length_8abf5_9 : decode cJ0_length_8abf5 9 = .ok (.ishr, 1) := by decide +kernel
theorem dJ0_length_8abf5_10 : decode cJ0_length_8abf5 10 = .ok (.ireturn, 1) := by decide +kernel
theorem dJ0_isEmpty_aae02_0 : decode cJ0_isEmpty_aae02 0 = .ok (.aload_n 0, 1) := by decide +kernel
theorem dJ0_isEmpty_aae02_1 : decode cJ0_isEmpty_aae02 1 = .ok (.getfield 9, 3) := by decide +kernel
theorem dJ0_isEmpty_aae02_4 : decode cJ0_isEmpty_aae02 4 = .ok (.arraylength, 1) := by decide +kernel
theorem dJ0_isEmpty_aae02_5 : decode cJ0_isEmpty_aae02 5 = .ok (.ifCond .ne 7, 3) := by decide +kernel
theorem dJ0_isEmpty_aae02_8 : decode cJ0_isEmpty_aae02 8 = .ok (.iconst 1, 1) := by decide +kernel
theorem dJ0_isEmpty_aae02_9 : decode cJ0_isEmpty_aae02 9 = .ok (.goto 4, 3) := by decide +kernel
theorem dJ0_isEmpty_aae02_12 : decode cJ0_isEmpty_aae02 12 = .ok (.iconst 0, 1) := by decide +kernel
theorem dJ0_isEmpty_aae02_13 : decode cJ0_isEmpty_aae02 13 = .ok (.ireturn, 1) := by decide +kernel
theorem dJ0_charAt_5068e_0 : decode cJ0_charAt_5068e 0 = .ok (.aload_n 0, 1) := by decide +kernel
theorem dJ0_charAt_5068e_1 : decode cJ0_charAt_5068e 1 = .ok (.invokevirtual 492, 3) := by decide +kernel
theorem dJ0_charAt_5068e_4 : decode cJ0_charAt_5068e 4 = .ok (.ifCond .eq 12, 3) := by decide +kernel
theorem dJ0_charAt_5068e_7 : decode cJ0_charAt_5068e 7 = .ok (.aload_n 0, 1) := by decide +kernel
theorem dJ0_charAt_5068e_8 : decode cJ0_charAt_5068e 8 = .ok (.getfield 9, 3) := by decide +kernel
theorem dJ0_charAt_5068e_11 : decode cJ0_charAt_5068e 11 = .ok (.iload_n 1, 1) := by decide +kernel
theorem dJ0_charAt_5068e_12 : decode cJ0_charAt_5068e 12 = .ok (.invokestatic 495, 3) := by decide +kernel
theorem dJ0_charAt_5068e_15 : decode cJ0_charAt_5068e 15 = .ok (.ireturn, 1) := by decide +kernel
theorem dJ0_charAt_5068e_16 : decode cJ0_charAt_5068e 16 = .ok (.aload_n 0, 1) := by decide +kernel
theorem dJ0_charAt_5068e_17 : decode cJ0_charAt_5068e 17 = .ok (.getfield 9, 3) := by decide +kernel
theorem dJ0_charAt_5068e_20 : decode cJ0_charAt_5068e 20 = .ok (.iload_n 1, 1) := by decide +kernel
theorem dJ0_charAt_5068e_21 : decode cJ0_charAt_5068e 21 = .ok (.invokestatic 498, 3) := by decide +kernel
theorem dJ0_charAt_5068e_24 : decode cJ0_charAt_5068e 24 = .ok (.ireturn, 1) := by decide +kernel
theorem dJ0_coder_7d493_0 : decode cJ0_coder_7d493 0 = .ok (.getstatic 38, 3) := by decide +kernel
theorem dJ0_coder_7d493_3 : decode cJ0_coder_7d493 3 = .ok (.ifCond .eq 10, 3) := by decide +kernel
theorem dJ0_coder_7d493_6 : decode cJ0_coder_7d493 6 = .ok (.aload_n 0, 1) := by decide +kernel
theorem dJ0_coder_7d493_7 : decode cJ0_coder_7d493 7 = .ok (.getfield 15, 3) := by decide +kernel
theorem dJ0_coder_7d493_10 : decode cJ0_coder_7d493 10 = .ok (.goto 4, 3) := by decide +kernel
theorem dJ0_coder_7d493_13 : decode cJ0_coder_7d493 13 = .ok (.iconst 1, 1) := by decide +kernel
theorem dJ0_coder_7d493_14 : decode cJ0_coder_7d493 14 = .ok (.ireturn, 1) := by decide +kernel
theorem dJ0_isLatin1_aae02_0 : decode cJ0_isLatin1_aae02 0 = .ok (.getstatic 38, 3) := by decide +kernel
theorem dJ0_isLatin1_aae02_3 : decode cJ0_isLatin1_aae02 3 = .ok (.ifCond .eq 14, 3) := by decide +kernel
theorem dJ0_isLatin1_aae02_6 : decode cJ0_isLatin1_aae02 6 = .ok (.aload_n 0, 1) := by decide +kernel
theorem dJ0_isLatin1_aae02_7 : decode cJ0_isLatin1_aae02 7 = .ok (.getfield 15, 3) := by decide +kernel
theorem dJ0_isLatin1_aae02_10 : decode cJ0_isLatin1_aae02 10 = .ok (.ifCond .ne 7, 3) := by decide +kernel
theorem dJ0_isLatin1_aae02_13 : decode cJ0_isLatin1_aae02 13 = .ok (.iconst 1, 1) := by decide +kernel
theorem dJ0_isLatin1_aae02_14 : decode cJ0_isLatin1_aae02 14 = .ok (.goto 4, 3) := by decide +kernel
theorem dJ0_isLatin1_aae02_17 : decode cJ0_isLatin1_aae02 17 = .ok (.iconst 0, 1) := by decide +kernel
theorem dJ0_isLatin1_aae02_18 : decode cJ0_isLatin1_aae02 18 = .ok (.ireturn, 1) := by decide +kernel
theorem dJ0_checkIndex_df160_0 : decode cJ0_checkIndex_df160 0 = .ok (.iload_n 0, 1) := by decide +kernel
theorem dJ0_checkIndex_df160_1 : decode cJ0_checkIndex_df160 1 = .ok (.iload_n 1, 1) := by decide +kernel
theorem dJ0_checkIndex_df160_2 : decode cJ0_checkIndex_df160 2 = .ok (.getstatic 1053, 3) := by decide +kernel
theorem dJ0_checkIndex_df160_5 : decode cJ0_checkIndex_df160 5 = .ok (.invokestatic 1059, 3) := by decide +kernel
theorem dJ0_checkIndex_df160_8 : decode cJ0_checkIndex_df160 8 = .ok (.pop, 1) := by decide +kernel
theorem dJ0_checkIndex_df160_9 : decode cJ0_checkIndex_df160 9 = .ok (.return_, 1) := by decide +kernel
theorem dJ1_charAt_3b067_0 : decode cJ1_charAt_3b067 0 = .ok (.iload_n 1, 1) := by decide +kernel
theorem dJ1_charAt_3b067_1 : decode cJ1_charAt_3b067 1 = .ok (.aload_n 0, 1) := by decide +kernel
theorem dJ1_charAt_3b067_2 : decode cJ1_charAt_3b067 2 = .ok (.arraylength, 1) := by decide +kernel
theorem dJ1_charAt_3b067_3 : decode cJ1_charAt_3b067 3 = .ok (.invokestatic 9, 3) := by decide +kernel
theorem dJ1_charAt_3b067_6 : decode cJ1_charAt_3b067 6 = .ok (.aload_n 0, 1) := by decide +kernel
theorem dJ1_charAt_3b067_7 : decode cJ1_charAt_3b067 7 = .ok (.iload_n 1, 1) := by decide +kernel
theorem dJ1_charAt_3b067_8 : decode cJ1_charAt_3b067 8 = .ok (.baload, 1) := by decide +kernel
theorem dJ1_charAt_3b067_9 : decode cJ1_charAt_3b067 9 = .ok (.sipush 255, 3) := by decide +kernel
theorem dJ1_charAt_3b067_12 : decode cJ1_charAt_3b067 12 = .ok (.iand, 1) := by decide +kernel
theorem dJ1_charAt_3b067_13 : decode cJ1_charAt_3b067 13 = .ok (.i2c, 1) := by decide +kernel
theorem dJ1_charAt_3b067_14 : decode cJ1_charAt_3b067 14 = .ok (.ireturn, 1) := by decide +kernel
theorem dJ2_getChar_3b067_0 : decode cJ2_getChar_3b067 0 = .ok (.getstatic 44, 3) := by decide +kernel
theorem dJ2_getChar_3b067_3 : decode cJ2_getChar_3b067 3 = .ok (.ifCond .ne 25, 3) := by decide +kernel
theorem dJ2_getChar_3b067_6 : decode cJ2_getChar_3b067 6 = .ok (.iload_n 1, 1) := by decide +kernel
theorem dJ2_getChar_3b067_7 : decode cJ2_getChar_3b067 7 = .ok (.ifCond .lt 11, 3) := by decide +kernel
theorem dJ2_getChar_3b067_10 : decode cJ2_getChar_3b067 10 = .ok (.iload_n 1, 1) := by decide +kernel
theorem dJ2_getChar_3b067_11 : decode cJ2_getChar_3b067 11 = .ok (.aload_n 0, 1) := by decide +kernel
theorem dJ2_getChar_3b067_12 : decode cJ2_getChar_3b067 12 = .ok (.invokestatic 48, 3) := by decide +kernel
theorem dJ2_getChar_3b067_15 : decode cJ2_getChar_3b067 15 = .ok (.if_icmp .lt 13, 3) := by decide +kernel
theorem dJ2_getChar_3b067_18 : decode cJ2_getChar_3b067 18 = .ok (.new 52, 3) := by decide +kernel
theorem dJ2_getChar_3b067_21 : decode cJ2_getChar_3b067 21 = .ok (.dup, 1) := by decide +kernel
theorem dJ2_getChar_3b067_22 : decode cJ2_getChar_3b067 22 = .ok (.ldc 54, 2) := by decide +kernel
theorem dJ2_getChar_3b067_24 : decode cJ2_getChar_3b067 24 = .ok (.invokespecial 56, 3) := by decide +kernel
theorem dJ2_getChar_3b067_27 : decode cJ2_getChar_3b067 27 = .ok (.athrow, 1) := by decide +kernel
theorem dJ2_getChar_3b067_28 : decode cJ2_getChar_3b067 28 = .ok (.iload_n 1, 1) := by decide +kernel
theorem dJ2_getChar_3b067_29 : decode cJ2_getChar_3b067 29 = .ok (.iconst 1, 1) := by decide +kernel
theorem dJ2_getChar_3b067_30 : decode cJ2_getChar_3b067 30 = .ok (.ishl, 1) := by decide +kernel
theorem dJ2_getChar_3b067_31 : decode cJ2_getChar_3b067 31 = .ok (.istore_n 1, 1) := by decide +kernel
theorem dJ2_getChar_3b067_32 : decode cJ2_getChar_3b067 32 = .ok (.aload_n 0, 1) := by decide +kernel
theorem dJ2_getChar_3b067_33 : decode cJ2_getChar_3b067 33 = .ok (.iload_n 1, 1) := by decide +kernel
theorem dJ2_getChar_3b067_34 : decode cJ2_getChar_3b067 34 = .ok (.iinc 1 1, 3) := by decide +kernel
theorem dJ2_getChar_3b067_37 : decode cJ2_getChar_3b067 37 = .ok (.baload, 1) := by decide +kernel
theorem dJ2_getChar_3b067_38 : decode cJ2_getChar_3b067 38 = .ok (.sipush 255, 3) := by decide +kernel
theorem dJ2_getChar_3b067_41 : decode cJ2_getChar_3b067 41 = .ok (.iand, 1) := by decide +kernel
theorem dJ2_getChar_3b067_42 : decode cJ2_getChar_3b067 42 = .ok (.getstatic 59, 3) := by decide +kernel
theorem dJ2_getChar_3b067_45 : decode cJ2_getChar_3b067 45 = .ok (.ishl, 1) := by decide +kernel
theorem dJ2_getChar_3b067_46 : decode cJ2_getChar_3b067 46 = .ok (.aload_n 0, 1) := by decide +kernel
theorem dJ2_getChar_3b067_47 : decode cJ2_getChar_3b067 47 = .ok (.iload_n 1, 1) := by decide +kernel
theorem dJ2_getChar_3b067_48 : decode cJ2_getChar_3b067 48 = .ok (.baload, 1) := by decide +kernel
theorem dJ2_getChar_3b067_49 : decode cJ2_getChar_3b067 49 = .ok (.sipush 255, 3) := by decide +kernel
theorem dJ2_getChar_3b067_52 : decode cJ2_getChar_3b067 52 = .ok (.iand, 1) := by decide +kernel
theorem dJ2_getChar_3b067_53 : decode cJ2_getChar_3b067 53 = .ok (.getstatic 63, 3) := by decide +kernel
theorem dJ2_getChar_3b067_56 : decode cJ2_getChar_3b067 56 = .ok (.ishl, 1) := by decide +kernel
theorem dJ2_getChar_3b067_57 : decode cJ2_getChar_3b067 57 = .ok (.ior, 1) := by decide +kernel
theorem dJ2_getChar_3b067_58 : decode cJ2_getChar_3b067 58 = .ok (.i2c, 1) := by decide +kernel
theorem dJ2_getChar_3b067_59 : decode cJ2_getChar_3b067 59 = .ok (.ireturn, 1) := by decide +kernel
theorem dJ2_length_9d52b_0 : decode cJ2_length_9d52b 0 = .ok (.aload_n 0, 1) := by decide +kernel
theorem dJ2_length_9d52b_1 : decode cJ2_length_9d52b 1 = .ok (.arraylength, 1) := by decide +kernel
theorem dJ2_length_9d52b_2 : decode cJ2_length_9d52b 2 = .ok (.iconst 1, 1) := by decide +kernel
theorem dJ2_length_9d52b_3 : decode cJ2_length_9d52b 3 = .ok (.ishr, 1) := by decide +kernel
theorem dJ2_length_9d52b_4 : decode cJ2_length_9d52b 4 = .ok (.ireturn, 1) := by decide +kernel
theorem dJ2_charAt_3b067_0 : decode cJ2_charAt_3b067 0 = .ok (.iload_n 1, 1) := by decide +kernel
theorem dJ2_charAt_3b067_1 : decode cJ2_charAt_3b067 1 = .ok (.aload_n 0, 1) := by decide +kernel
theorem dJ2_charAt_3b067_2 : decode cJ2_charAt_3b067 2 = .ok (.invokestatic 67, 3) := by decide +kernel
theorem dJ2_charAt_3b067_5 : decode cJ2_charAt_3b067 5 = .ok (.aload_n 0, 1) := by decide +kernel
theorem dJ2_charAt_3b067_6 : decode cJ2_charAt_3b067 6 = .ok (.iload_n 1, 1) := by decide +kernel
theorem dJ2_charAt_3b067_7 : decode cJ2_charAt_3b067 7 = .ok (.invokestatic 71, 3) := by decide +kernel
theorem dJ2_charAt_3b067_10 : decode cJ2_charAt_3b067 10 = .ok (.ireturn, 1) := by decide +kernel
theorem dJ2_checkIndex_2214a_0 : decode cJ2_checkIndex_2214a 0 = .ok (.iload_n 0, 1) := by decide +kernel
theorem dJ2_checkIndex_2214a_1 : decode cJ2_checkIndex_2214a 1 = .ok (.aload_n 1, 1) := by decide +kernel
theorem dJ2_checkIndex_2214a_2 : decode cJ2_checkIndex_2214a 2 = .ok (.invokestatic 48, 3) := by decide +kernel
theorem dJ2_checkIndex_2214a_5 : decode cJ2_checkIndex_2214a 5 = .ok (.invokestatic 414, 3) := by decide +kernel
theorem dJ2_checkIndex_2214a_8 : decode cJ2_checkIndex_2214a 8 = .ok (.return_, 1) := by decide +kernel
theorem dJ3_checkIndex_8e157_0 : decode cJ3_checkIndex_8e157 0 = .ok (.iload_n 0, 1) := by decide +kernel
theorem dJ3_checkIndex_8e157_1 : decode cJ3_checkIndex_8e157 1 = .ok (.ifCond .lt 8, 3) := by decide +kernel
theorem dJ3_checkIndex_8e157_4 : decode cJ3_checkIndex_8e157 4 = .ok (.iload_n 0, 1) := by decide +kernel
theorem dJ3_checkIndex_8e157_5 : decode cJ3_checkIndex_8e157 5 = .ok (.iload_n 1, 1) := by decide +kernel
theorem dJ3_checkIndex_8e157_6 : decode cJ3_checkIndex_8e157 6 = .ok (.if_icmp .lt 10, 3) := by decide +kernel
theorem dJ3_checkIndex_8e157_9 : decode cJ3_checkIndex_8e157 9 = .ok (.aload_n 2, 1) := by decide +kernel
theorem dJ3_checkIndex_8e157_10 : decode cJ3_checkIndex_8e157 10 = .ok (.iload_n 0, 1) := by decide +kernel
theorem dJ3_checkIndex_8e157_11 : decode cJ3_checkIndex_8e157 11 = .ok (.iload_n 1, 1) := by decide +kernel
theorem dJ3_checkIndex_8e157_12 : decode cJ3_checkIndex_8e157 12 = .ok (.invokestatic 95, 3) := by decide +kernel
theorem dJ3_checkIndex_8e157_15 : decode cJ3_checkIndex_8e157 15 = .ok (.athrow, 1) := by decide +kernel
theorem dJ3_checkIndex_8e157_16 : decode cJ3_checkIndex_8e157 16 = .ok (.iload_n 0, 1) := by decide +kernel
theorem dJ3_checkIndex_8e157_17 : decode cJ3_checkIndex_8e157 17 = .ok (.ireturn, 1) := by decide +kernel
abbrev vwCl : List vw_C := [(RX0, TX0, 3), (RX1, TX1, 4), (RX2, TX2, 2), (RX3, TX3, 9), (RX4, TX4, 2), (RX5, TX5, 4), (RX6, TX6, 6), (RX7, TX7, 3), (RX8, TX8, 14), (RX9, TX9, 29)]
