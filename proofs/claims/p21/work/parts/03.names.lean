/-! ===== BEGIN printed: names, fields, word lists, decode rows ===== -/
def RX0 : String := "NightdeskRota$Book"
def TX0 : u_T := fun k => match k with
  | 0 => ("NightdeskRota$Book", "kinds", "[I", true)
  | 1 => ("NightdeskRota$Book", "firsts", "[I", true)
  | 2 => ("NightdeskRota$Book", "seconds", "[I", true)
  | 3 => ("NightdeskRota$Book", "depths", "[I", true)
  | 4 => ("NightdeskRota$Book", "parts", "[J", true)
  | 5 => ("NightdeskRota$Book", "speaking", "[J", true)
  | _ => ("NightdeskRota$Book", "size", "I", false)
def tyX0 : Nat → FieldType := fun k => match k with
  | 0 => .array .int
  | 1 => .array .int
  | 2 => .array .int
  | 3 => .array .int
  | 4 => .array .long
  | 5 => .array .long
  | _ => .int
abbrev wsX00 : List Cond := u_ws RX0 TX0 7
theorem nmX0 : ∀ a, a < 7 → ∀ b, b < 7 → a ≠ b → (TX0 a).2.1 ≠ (TX0 b).2.1 := by decide +kernel
theorem tyX0_ok : ∀ k, k < 7 → parseFieldDescriptor (TX0 k).2.2.1 = some (tyX0 k) := by decide +kernel
abbrev cX0_init : ByteArray := prog_2_method_1_code
def yX0_init : MethodName := ⟨RX0, "<init>", "()V"⟩
abbrev cX0_count : ByteArray := prog_2_method_2_code
def yX0_count : MethodName := ⟨RX0, "count", "()I"⟩
abbrev cX0_isFull : ByteArray := prog_2_method_3_code
def yX0_isFull : MethodName := ⟨RX0, "isFull", "()Z"⟩
abbrev cX0_holds : ByteArray := prog_2_method_4_code
def yX0_holds : MethodName := ⟨RX0, "holds", "(I)Z"⟩
abbrev cX0_everySentence : ByteArray := prog_2_method_5_code
def yX0_everySentence : MethodName := ⟨RX0, "everySentence", "()J"⟩
abbrev cX0_kindOf : ByteArray := prog_2_method_6_code
def yX0_kindOf : MethodName := ⟨RX0, "kindOf", "(I)I"⟩
abbrev cX0_firstOf : ByteArray := prog_2_method_7_code
def yX0_firstOf : MethodName := ⟨RX0, "firstOf", "(I)I"⟩
abbrev cX0_secondOf : ByteArray := prog_2_method_8_code
def yX0_secondOf : MethodName := ⟨RX0, "secondOf", "(I)I"⟩
abbrev cX0_builtDeep : ByteArray := prog_2_method_9_code
def yX0_builtDeep : MethodName := ⟨RX0, "builtDeep", "(I)I"⟩
abbrev cX0_partsOf : ByteArray := prog_2_method_10_code
def yX0_partsOf : MethodName := ⟨RX0, "partsOf", "(I)J"⟩
abbrev cX0_hangingOn : ByteArray := prog_2_method_11_code
def yX0_hangingOn : MethodName := ⟨RX0, "hangingOn", "(II)J"⟩
abbrev cX0_fits : ByteArray := prog_2_method_12_code
def yX0_fits : MethodName := ⟨RX0, "fits", "(III)Z"⟩
abbrev cX0_add : ByteArray := prog_2_method_13_code
def yX0_add : MethodName := ⟨RX0, "add", "(III)I"⟩
abbrev cX0_names : ByteArray := prog_2_method_14_code
def yX0_names : MethodName := ⟨RX0, "names", "(III)Z"⟩
abbrev cX0_signsOf : ByteArray := prog_2_method_15_code
def yX0_signsOf : MethodName := ⟨RX0, "signsOf", "(I)Ljava/lang/String;"⟩
abbrev cX0_write : ByteArray := prog_2_method_16_code
def yX0_write : MethodName := ⟨RX0, "write", "(LNightdeskRota$Book;ILjava/lang/StringBuilder;I)V"⟩
abbrev cX0_letterOf : ByteArray := prog_2_method_17_code
def yX0_letterOf : MethodName := ⟨RX0, "letterOf", "(I)C"⟩
def RX1 : String := "NightdeskRota$Scene"
def TX1 : u_T := fun k => match k with
  | 0 => ("NightdeskRota$Scene", "book", "LNightdeskRota$Book;", true)
  | 1 => ("NightdeskRota$Scene", "desks", "[J", true)
  | 2 => ("NightdeskRota$Scene", "weighed", "[J", true)
  | 3 => ("NightdeskRota$Scene", "open", "J", false)
  | _ => ("NightdeskRota$Scene", "real", "I", false)
def tyX1 : Nat → FieldType := fun k => match k with
  | 0 => .object "NightdeskRota$Book"
  | 1 => .array .long
  | 2 => .array .long
  | 3 => .long
  | _ => .int
abbrev wsX10 : List Cond := u_ws RX1 TX1 5
theorem nmX1 : ∀ a, a < 5 → ∀ b, b < 5 → a ≠ b → (TX1 a).2.1 ≠ (TX1 b).2.1 := by decide +kernel
theorem tyX1_ok : ∀ k, k < 5 → parseFieldDescriptor (TX1 k).2.2.1 = some (tyX1 k) := by decide +kernel
abbrev cX1_init : ByteArray := prog_3_method_1_code
def yX1_init : MethodName := ⟨RX1, "<init>", "(LNightdeskRota$Book;)V"⟩
abbrev cX1_restart : ByteArray := prog_3_method_2_code
def yX1_restart : MethodName := ⟨RX1, "restart", "(I)V"⟩
abbrev cX1_copyFrom : ByteArray := prog_3_method_3_code
def yX1_copyFrom : MethodName := ⟨RX1, "copyFrom", "(LNightdeskRota$Scene;)V"⟩
abbrev cX1_keepOnly : ByteArray := prog_3_method_4_code
def yX1_keepOnly : MethodName := ⟨RX1, "keepOnly", "(J)V"⟩
abbrev cX1_tellApart : ByteArray := prog_3_method_5_code
def yX1_tellApart : MethodName := ⟨RX1, "tellApart", "(IJ)V"⟩
abbrev cX1_passOn : ByteArray := prog_3_method_6_code
def yX1_passOn : MethodName := ⟨RX1, "passOn", "(II)Z"⟩
abbrev cX1_turn : ByteArray := prog_3_method_7_code
def yX1_turn : MethodName := ⟨RX1, "turn", "(I)V"⟩
abbrev cX1_weigh : ByteArray := prog_3_method_8_code
def yX1_weigh : MethodName := ⟨RX1, "weigh", "(J)V"⟩
abbrev cX1_worldsOf : ByteArray := prog_3_method_9_code
def yX1_worldsOf : MethodName := ⟨RX1, "worldsOf", "(I)J"⟩
abbrev cX1_isTrueInReal : ByteArray := prog_3_method_10_code
def yX1_isTrueInReal : MethodName := ⟨RX1, "isTrueInReal", "(I)Z"⟩
abbrev cX1_cell : ByteArray := prog_3_method_11_code
def yX1_cell : MethodName := ⟨RX1, "cell", "(II)J"⟩
abbrev cX1_cellTogether : ByteArray := prog_3_method_12_code
def yX1_cellTogether : MethodName := ⟨RX1, "cellTogether", "(II)J"⟩
abbrev cX1_spread : ByteArray := prog_3_method_13_code
def yX1_spread : MethodName := ⟨RX1, "spread", "(IJ)J"⟩
abbrev cX1_reached : ByteArray := prog_3_method_14_code
def yX1_reached : MethodName := ⟨RX1, "reached", "(IJ)J"⟩
abbrev cX1_reachedFromReal : ByteArray := prog_3_method_15_code
def yX1_reachedFromReal : MethodName := ⟨RX1, "reachedFromReal", "(I)J"⟩
abbrev cX1_knownToAll : ByteArray := prog_3_method_16_code
def yX1_knownToAll : MethodName := ⟨RX1, "knownToAll", "(IJ)J"⟩
abbrev cX1_knownTogether : ByteArray := prog_3_method_17_code
def yX1_knownTogether : MethodName := ⟨RX1, "knownTogether", "(IJ)J"⟩
abbrev cX1_knows : ByteArray := prog_3_method_18_code
def yX1_knows : MethodName := ⟨RX1, "knows", "(II)Z"⟩
abbrev cX1_knowersOf : ByteArray := prog_3_method_19_code
def yX1_knowersOf : MethodName := ⟨RX1, "knowersOf", "(I)I"⟩
abbrev cX1_answeringAlike : ByteArray := prog_3_method_20_code
def yX1_answeringAlike : MethodName := ⟨RX1, "answeringAlike", "(II)J"⟩
abbrev cX1_fewestFor : ByteArray := prog_3_method_21_code
def yX1_fewestFor : MethodName := ⟨RX1, "fewestFor", "(I)I"⟩
abbrev cX1_depthFor : ByteArray := prog_3_method_22_code
def yX1_depthFor : MethodName := ⟨RX1, "depthFor", "(IJ)I"⟩
abbrev cX1_countTrueInReal : ByteArray := prog_3_method_23_code
def yX1_countTrueInReal : MethodName := ⟨RX1, "countTrueInReal", "()I"⟩
abbrev cX1_countTrueInAllOf : ByteArray := prog_3_method_24_code
def yX1_countTrueInAllOf : MethodName := ⟨RX1, "countTrueInAllOf", "(J)I"⟩
abbrev cX1_countKnownBy : ByteArray := prog_3_method_25_code
def yX1_countKnownBy : MethodName := ⟨RX1, "countKnownBy", "(I)I"⟩
abbrev cX1_countCells : ByteArray := prog_3_method_26_code
def yX1_countCells : MethodName := ⟨RX1, "countCells", "(I)I"⟩
abbrev cX1_factsSettledFor : ByteArray := prog_3_method_27_code
def yX1_factsSettledFor : MethodName := ⟨RX1, "factsSettledFor", "(I)I"⟩
abbrev cX1_asSharpAs : ByteArray := prog_3_method_28_code
def yX1_asSharpAs : MethodName := ⟨RX1, "asSharpAs", "(I)I"⟩
abbrev cX1_isAsSharpAs : ByteArray := prog_3_method_29_code
def yX1_isAsSharpAs : MethodName := ⟨RX1, "isAsSharpAs", "(II)Z"⟩
abbrev cX1_nearestToReal : ByteArray := prog_3_method_30_code
def yX1_nearestToReal : MethodName := ⟨RX1, "nearestToReal", "()I"⟩
abbrev cX1_isSoundOf : ByteArray := prog_3_method_31_code
def yX1_isSoundOf : MethodName := ⟨RX1, "isSoundOf", "(I)Z"⟩
def RX2 : String := "NightdeskRota"
def TX2 : u_T := fun k => match k with
  | 0 => ("NightdeskRota", "book", "LNightdeskRota$Book;", true)
  | 1 => ("NightdeskRota", "now", "LNightdeskRota$Scene;", true)
  | 2 => ("NightdeskRota", "once", "LNightdeskRota$Scene;", true)
  | 3 => ("NightdeskRota", "twice", "LNightdeskRota$Scene;", true)
  | 4 => ("NightdeskRota", "toldAloud", "I", false)
  | 5 => ("NightdeskRota", "whispered", "I", false)
  | 6 => ("NightdeskRota", "noted", "I", false)
  | 7 => ("NightdeskRota", "asked", "I", false)
  | 8 => ("NightdeskRota", "looked", "I", false)
  | 9 => ("NightdeskRota", "switched", "I", false)
  | _ => ("NightdeskRota", "refused", "I", false)
def tyX2 : Nat → FieldType := fun k => match k with
  | 0 => .object "NightdeskRota$Book"
  | 1 => .object "NightdeskRota$Scene"
  | 2 => .object "NightdeskRota$Scene"
  | 3 => .object "NightdeskRota$Scene"
  | 4 => .int
  | 5 => .int
  | 6 => .int
  | 7 => .int
  | 8 => .int
  | 9 => .int
  | _ => .int
abbrev wsX20 : List Cond := u_ws RX2 TX2 11
theorem nmX2 : ∀ a, a < 11 → ∀ b, b < 11 → a ≠ b → (TX2 a).2.1 ≠ (TX2 b).2.1 := by decide +kernel
theorem tyX2_ok : ∀ k, k < 11 → parseFieldDescriptor (TX2 k).2.2.1 = some (tyX2 k) := by decide +kernel
abbrev cX2_init : ByteArray := prog_1_method_1_code
def yX2_init : MethodName := ⟨RX2, "<init>", "()V"⟩
abbrev cX2_begin : ByteArray := prog_1_method_2_code
def yX2_begin : MethodName := ⟨RX2, "begin", "(I)I"⟩
abbrev cX2_say : ByteArray := prog_1_method_3_code
def yX2_say : MethodName := ⟨RX2, "say", "(III)I"⟩
abbrev cX2_look : ByteArray := prog_1_method_4_code
def yX2_look : MethodName := ⟨RX2, "look", "(II)I"⟩
abbrev cX2_aloud : ByteArray := prog_1_method_5_code
def yX2_aloud : MethodName := ⟨RX2, "aloud", "(I)I"⟩
abbrev cX2_whisper : ByteArray := prog_1_method_6_code
def yX2_whisper : MethodName := ⟨RX2, "whisper", "(II)Z"⟩
abbrev cX2_note : ByteArray := prog_1_method_7_code
def yX2_note : MethodName := ⟨RX2, "note", "(II)I"⟩
abbrev cX2_ask : ByteArray := prog_1_method_8_code
def yX2_ask : MethodName := ⟨RX2, "ask", "(II)I"⟩
abbrev cX2_flip : ByteArray := prog_1_method_9_code
def yX2_flip : MethodName := ⟨RX2, "flip", "(I)I"⟩
abbrev cX2_call : ByteArray := prog_1_method_10_code
def yX2_call : MethodName := ⟨RX2, "call", "()I"⟩
abbrev cX2_isTrue : ByteArray := prog_1_method_11_code
def yX2_isTrue : MethodName := ⟨RX2, "isTrue", "(II)Z"⟩
abbrev cX2_truth : ByteArray := prog_1_method_12_code
def yX2_truth : MethodName := ⟨RX2, "truth", "(I)J"⟩
abbrev cX2_of : ByteArray := prog_1_method_13_code
def yX2_of : MethodName := ⟨RX2, "of", "(II)I"⟩
abbrev cX2_alike : ByteArray := prog_1_method_14_code
def yX2_alike : MethodName := ⟨RX2, "alike", "(II)J"⟩
abbrev cX2_ofGuard : ByteArray := prog_1_method_15_code
def yX2_ofGuard : MethodName := ⟨RX2, "ofGuard", "(II)I"⟩
abbrev cX2_depth : ByteArray := prog_1_method_16_code
def yX2_depth : MethodName := ⟨RX2, "depth", "(II)I"⟩
abbrev cX2_night : ByteArray := prog_1_method_17_code
def yX2_night : MethodName := ⟨RX2, "night", "(I)I"⟩
abbrev cX2_possible : ByteArray := prog_1_method_18_code
def yX2_possible : MethodName := ⟨RX2, "possible", "()J"⟩
abbrev cX2_text : ByteArray := prog_1_method_19_code
def yX2_text : MethodName := ⟨RX2, "text", "(I)Ljava/lang/String;"⟩
abbrev cX2_wit : ByteArray := prog_1_method_20_code
def yX2_wit : MethodName := ⟨RX2, "wit", "(I)D"⟩
abbrev cX2_notes : ByteArray := prog_1_method_21_code
def yX2_notes : MethodName := ⟨RX2, "notes", "(II)I"⟩
abbrev cX2_rounds : ByteArray := prog_1_method_22_code
def yX2_rounds : MethodName := ⟨RX2, "rounds", "(II)I"⟩
abbrev cX2_wouldTell : ByteArray := prog_1_method_23_code
def yX2_wouldTell : MethodName := ⟨RX2, "wouldTell", "(I)I"⟩
abbrev cX2_bestNote : ByteArray := prog_1_method_24_code
def yX2_bestNote : MethodName := ⟨RX2, "bestNote", "(II)I"⟩
abbrev cX2_isSound : ByteArray := prog_1_method_25_code
def yX2_isSound : MethodName := ⟨RX2, "isSound", "()Z"⟩
abbrev cX2_digest : ByteArray := prog_1_method_26_code
def yX2_digest : MethodName := ⟨RX2, "digest", "()J"⟩
abbrev cX2_digestOfSentence : ByteArray := prog_1_method_27_code
def yX2_digestOfSentence : MethodName := ⟨RX2, "digestOfSentence", "(JI)J"⟩
abbrev cX2_oneNoteDoes : ByteArray := prog_1_method_28_code
def yX2_oneNoteDoes : MethodName := ⟨RX2, "oneNoteDoes", "(LNightdeskRota$Scene;LNightdeskRota$Scene;II)Z"⟩
abbrev cX2_isFact : ByteArray := prog_1_method_29_code
def yX2_isFact : MethodName := ⟨RX2, "isFact", "(I)Z"⟩
abbrev cX2_isWorld : ByteArray := prog_1_method_30_code
def yX2_isWorld : MethodName := ⟨RX2, "isWorld", "(I)Z"⟩
abbrev cX2_isGuard : ByteArray := prog_1_method_31_code
def yX2_isGuard : MethodName := ⟨RX2, "isGuard", "(I)Z"⟩
abbrev cX2_isSetOfGuards : ByteArray := prog_1_method_32_code
def yX2_isSetOfGuards : MethodName := ⟨RX2, "isSetOfGuards", "(I)Z"⟩
abbrev cX2_worldsOfFact : ByteArray := prog_1_method_33_code
def yX2_worldsOfFact : MethodName := ⟨RX2, "worldsOfFact", "(I)J"⟩
abbrev cX2_setOf : ByteArray := prog_1_method_34_code
def yX2_setOf : MethodName := ⟨RX2, "setOf", "(I)J"⟩
abbrev cX2_has : ByteArray := prog_1_method_35_code
def yX2_has : MethodName := ⟨RX2, "has", "(JI)Z"⟩
abbrev cX2_isWithin : ByteArray := prog_1_method_36_code
def yX2_isWithin : MethodName := ⟨RX2, "isWithin", "(JJ)Z"⟩
abbrev cX2_smallestOf : ByteArray := prog_1_method_37_code
def yX2_smallestOf : MethodName := ⟨RX2, "smallestOf", "(J)I"⟩
abbrev cX2_turned : ByteArray := prog_1_method_38_code
def yX2_turned : MethodName := ⟨RX2, "turned", "(JI)J"⟩
def RX3 : String := "NightdeskRotaLaw$Out"
def TX3 : u_T := fun k => match k with
  | 0 => ("NightdeskRotaLaw$Out", "n", "J", false)
  | 1 => ("NightdeskRotaLaw$Out", "d", "D", false)
  | _ => ("NightdeskRotaLaw$Out", "s", "Ljava/lang/String;", false)
def tyX3 : Nat → FieldType := fun k => match k with
  | 0 => .long
  | 1 => .double
  | _ => .object "java/lang/String"
abbrev wsX30 : List Cond := u_ws RX3 TX3 3
theorem nmX3 : ∀ a, a < 3 → ∀ b, b < 3 → a ≠ b → (TX3 a).2.1 ≠ (TX3 b).2.1 := by decide +kernel
theorem tyX3_ok : ∀ k, k < 3 → parseFieldDescriptor (TX3 k).2.2.1 = some (tyX3 k) := by decide +kernel
abbrev cX3_init : ByteArray := prog_5_method_1_code
def yX3_init : MethodName := ⟨RX3, "<init>", "()V"⟩
def RX4 : String := "NightdeskRotaModel"
def TX4 : u_T := fun k => match k with
  | 0 => ("NightdeskRotaModel", "thrown", "I", false)
  | 1 => ("NightdeskRotaModel", "real", "I", false)
  | 2 => ("NightdeskRotaModel", "possible", "J", false)
  | 3 => ("NightdeskRotaModel", "desks", "[[I", true)
  | 4 => ("NightdeskRotaModel", "sentences", "Ljava/util/List;", true)
  | 5 => ("NightdeskRotaModel", "counts", "[I", true)
  | 6 => ("NightdeskRotaModel", "refused", "I", false)
  | 7 => ("NightdeskRotaModel", "stamp", "I", false)
  | 8 => ("NightdeskRotaModel", "stamps", "[I", true)
  | 9 => ("NightdeskRotaModel", "firsts", "[I", true)
  | 10 => ("NightdeskRotaModel", "joined", "[I", true)
  | 11 => ("NightdeskRotaModel", "row", "[I", true)
  | 12 => ("NightdeskRotaModel", "found", "[J", true)
  | 13 => ("NightdeskRotaModel", "areFound", "[Z", true)
  | _ => ("NightdeskRotaModel", "kept", "[[I", true)
def tyX4 : Nat → FieldType := fun k => match k with
  | 0 => .int
  | 1 => .int
  | 2 => .long
  | 3 => .array (.array .int)
  | 4 => .object "java/util/List"
  | 5 => .array .int
  | 6 => .int
  | 7 => .int
  | 8 => .array .int
  | 9 => .array .int
  | 10 => .array .int
  | 11 => .array .int
  | 12 => .array .long
  | 13 => .array .boolean
  | _ => .array (.array .int)
abbrev wsX40 : List Cond := u_ws RX4 TX4 15
theorem nmX4 : ∀ a, a < 15 → ∀ b, b < 15 → a ≠ b → (TX4 a).2.1 ≠ (TX4 b).2.1 := by decide +kernel
theorem tyX4_ok : ∀ k, k < 15 → parseFieldDescriptor (TX4 k).2.2.1 = some (tyX4 k) := by decide +kernel
abbrev cX4_init : ByteArray := prog_6_method_1_code
def yX4_init : MethodName := ⟨RX4, "<init>", "()V"⟩
abbrev cX4_thrown : ByteArray := prog_6_method_2_code
def yX4_thrown : MethodName := ⟨RX4, "thrown", "()I"⟩
abbrev cX4_no : ByteArray := prog_6_method_3_code
def yX4_no : MethodName := ⟨RX4, "no", "(I)I"⟩
abbrev cX4_in : ByteArray := prog_6_method_4_code
def yX4_in : MethodName := ⟨RX4, "in", "(III)Z"⟩
abbrev cX4_has : ByteArray := prog_6_method_5_code
def yX4_has : MethodName := ⟨RX4, "has", "(II)Z"⟩
abbrev cX4_has_ : ByteArray := prog_6_method_6_code
def yX4_has_ : MethodName := ⟨RX4, "has", "(JI)Z"⟩
abbrev cX4_size : ByteArray := prog_6_method_7_code
def yX4_size : MethodName := ⟨RX4, "size", "(I)I"⟩
abbrev cX4_size_ : ByteArray := prog_6_method_8_code
def yX4_size_ : MethodName := ⟨RX4, "size", "(J)I"⟩
abbrev cX4_part : ByteArray := prog_6_method_9_code
def yX4_part : MethodName := ⟨RX4, "part", "(II)J"⟩
abbrev cX4_alikeNow : ByteArray := prog_6_method_10_code
def yX4_alikeNow : MethodName := ⟨RX4, "alikeNow", "(II)J"⟩
abbrev cX4_known : ByteArray := prog_6_method_11_code
def yX4_known : MethodName := ⟨RX4, "known", "(IJ)J"⟩
abbrev cX4_known_ : ByteArray := prog_6_method_12_code
def yX4_known_ : MethodName := ⟨RX4, "known", "([IJ)J"⟩
abbrev cX4_knownByAll : ByteArray := prog_6_method_13_code
def yX4_knownByAll : MethodName := ⟨RX4, "knownByAll", "(IJ)J"⟩
abbrev cX4_common : ByteArray := prog_6_method_14_code
def yX4_common : MethodName := ⟨RX4, "common", "(IJ)J"⟩
abbrev cX4_join : ByteArray := prog_6_method_15_code
def yX4_join : MethodName := ⟨RX4, "join", "([I[I[I)V"⟩
abbrev cX4_together : ByteArray := prog_6_method_16_code
def yX4_together : MethodName := ⟨RX4, "together", "(IJ)J"⟩
abbrev cX4_fact : ByteArray := prog_6_method_17_code
def yX4_fact : MethodName := ⟨RX4, "fact", "(I)J"⟩
abbrev cX4_truthOf : ByteArray := prog_6_method_18_code
def yX4_truthOf : MethodName := ⟨RX4, "truthOf", "([I[J)J"⟩
abbrev cX4_truths : ByteArray := prog_6_method_19_code
def yX4_truths : MethodName := ⟨RX4, "truths", "(I)[J"⟩
abbrev cX4_truths_ : ByteArray := prog_6_method_20_code
def yX4_truths_ : MethodName := ⟨RX4, "truths", "()[J"⟩
abbrev cX4_truthNow : ByteArray := prog_6_method_21_code
def yX4_truthNow : MethodName := ⟨RX4, "truthNow", "(I)J"⟩
abbrev cX4_find : ByteArray := prog_6_method_22_code
def yX4_find : MethodName := ⟨RX4, "find", "(I[J[Z)V"⟩
abbrev cX4_trueIn : ByteArray := prog_6_method_23_code
def yX4_trueIn : MethodName := ⟨RX4, "trueIn", "([JI)I"⟩
abbrev cX4_isSentence : ByteArray := prog_6_method_24_code
def yX4_isSentence : MethodName := ⟨RX4, "isSentence", "(I)Z"⟩
abbrev cX4_isGuard : ByteArray := prog_6_method_25_code
def yX4_isGuard : MethodName := ⟨RX4, "isGuard", "(I)Z"⟩
abbrev cX4_isSet : ByteArray := prog_6_method_26_code
def yX4_isSet : MethodName := ⟨RX4, "isSet", "(I)Z"⟩
abbrev cX4_begin : ByteArray := prog_6_method_27_code
def yX4_begin : MethodName := ⟨RX4, "begin", "(I)I"⟩
abbrev cX4_say : ByteArray := prog_6_method_28_code
def yX4_say : MethodName := ⟨RX4, "say", "(III)I"⟩
abbrev cX4_part_ : ByteArray := prog_6_method_29_code
def yX4_part_ : MethodName := ⟨RX4, "part", "(IJ)V"⟩
abbrev cX4_look : ByteArray := prog_6_method_30_code
def yX4_look : MethodName := ⟨RX4, "look", "(II)I"⟩
abbrev cX4_aloud : ByteArray := prog_6_method_31_code
def yX4_aloud : MethodName := ⟨RX4, "aloud", "(I)I"⟩
abbrev cX4_whisper : ByteArray := prog_6_method_32_code
def yX4_whisper : MethodName := ⟨RX4, "whisper", "(II)Z"⟩
abbrev cX4_tell : ByteArray := prog_6_method_33_code
def yX4_tell : MethodName := ⟨RX4, "tell", "(III)[I"⟩
abbrev cX4_restore : ByteArray := prog_6_method_34_code
def yX4_restore : MethodName := ⟨RX4, "restore", "(I[I)V"⟩
abbrev cX4_note : ByteArray := prog_6_method_35_code
def yX4_note : MethodName := ⟨RX4, "note", "(II)I"⟩
abbrev cX4_who : ByteArray := prog_6_method_36_code
def yX4_who : MethodName := ⟨RX4, "who", "(IJI)I"⟩
abbrev cX4_asked : ByteArray := prog_6_method_37_code
def yX4_asked : MethodName := ⟨RX4, "asked", "(IJ)J"⟩
abbrev cX4_ask : ByteArray := prog_6_method_38_code
def yX4_ask : MethodName := ⟨RX4, "ask", "(II)I"⟩
abbrev cX4_turned : ByteArray := prog_6_method_39_code
def yX4_turned : MethodName := ⟨RX4, "turned", "(JI)J"⟩
abbrev cX4_flip : ByteArray := prog_6_method_40_code
def yX4_flip : MethodName := ⟨RX4, "flip", "(I)I"⟩
abbrev cX4_call : ByteArray := prog_6_method_41_code
def yX4_call : MethodName := ⟨RX4, "call", "()I"⟩
abbrev cX4_isTrue : ByteArray := prog_6_method_42_code
def yX4_isTrue : MethodName := ⟨RX4, "isTrue", "(II)Z"⟩
abbrev cX4_truth : ByteArray := prog_6_method_43_code
def yX4_truth : MethodName := ⟨RX4, "truth", "(I)J"⟩
abbrev cX4_knowsTogether : ByteArray := prog_6_method_44_code
def yX4_knowsTogether : MethodName := ⟨RX4, "knowsTogether", "(IJ)Z"⟩
abbrev cX4_few : ByteArray := prog_6_method_45_code
def yX4_few : MethodName := ⟨RX4, "few", "(J)I"⟩
abbrev cX4_built : ByteArray := prog_6_method_46_code
def yX4_built : MethodName := ⟨RX4, "built", "(I)I"⟩
abbrev cX4_ofNow : ByteArray := prog_6_method_47_code
def yX4_ofNow : MethodName := ⟨RX4, "ofNow", "(IIJ)I"⟩
abbrev cX4_of : ByteArray := prog_6_method_48_code
def yX4_of : MethodName := ⟨RX4, "of", "(II)I"⟩
abbrev cX4_alike : ByteArray := prog_6_method_49_code
def yX4_alike : MethodName := ⟨RX4, "alike", "(II)J"⟩
abbrev cX4_knows : ByteArray := prog_6_method_50_code
def yX4_knows : MethodName := ⟨RX4, "knows", "(I[J)I"⟩
abbrev cX4_isFiner : ByteArray := prog_6_method_51_code
def yX4_isFiner : MethodName := ⟨RX4, "isFiner", "(II)Z"⟩
abbrev cX4_guardNow : ByteArray := prog_6_method_52_code
def yX4_guardNow : MethodName := ⟨RX4, "guardNow", "(II[J)I"⟩
abbrev cX4_ofGuard : ByteArray := prog_6_method_53_code
def yX4_ofGuard : MethodName := ⟨RX4, "ofGuard", "(II)I"⟩
abbrev cX4_depthNow : ByteArray := prog_6_method_54_code
def yX4_depthNow : MethodName := ⟨RX4, "depthNow", "(IJ)I"⟩
abbrev cX4_depth : ByteArray := prog_6_method_55_code
def yX4_depth : MethodName := ⟨RX4, "depth", "(II)I"⟩
abbrev cX4_nightNow : ByteArray := prog_6_method_56_code
def yX4_nightNow : MethodName := ⟨RX4, "nightNow", "(I[J)I"⟩
abbrev cX4_night : ByteArray := prog_6_method_57_code
def yX4_night : MethodName := ⟨RX4, "night", "(I)I"⟩
abbrev cX4_possible : ByteArray := prog_6_method_58_code
def yX4_possible : MethodName := ⟨RX4, "possible", "()J"⟩
abbrev cX4_textNow : ByteArray := prog_6_method_59_code
def yX4_textNow : MethodName := ⟨RX4, "textNow", "(I)Ljava/lang/String;"⟩
abbrev cX4_text : ByteArray := prog_6_method_60_code
def yX4_text : MethodName := ⟨RX4, "text", "(I)Ljava/lang/String;"⟩
abbrev cX4_witNow : ByteArray := prog_6_method_61_code
def yX4_witNow : MethodName := ⟨RX4, "witNow", "(I[J)D"⟩
abbrev cX4_wit : ByteArray := prog_6_method_62_code
def yX4_wit : MethodName := ⟨RX4, "wit", "(I)D"⟩
abbrev cX4_knowsIt : ByteArray := prog_6_method_63_code
def yX4_knowsIt : MethodName := ⟨RX4, "knowsIt", "(II)Z"⟩
abbrev cX4_canBy : ByteArray := prog_6_method_64_code
def yX4_canBy : MethodName := ⟨RX4, "canBy", "(III)Z"⟩
abbrev cX4_notesNow : ByteArray := prog_6_method_65_code
def yX4_notesNow : MethodName := ⟨RX4, "notesNow", "(II)I"⟩
abbrev cX4_notes : ByteArray := prog_6_method_66_code
def yX4_notes : MethodName := ⟨RX4, "notes", "(II)I"⟩
abbrev cX4_roundsNow : ByteArray := prog_6_method_67_code
def yX4_roundsNow : MethodName := ⟨RX4, "roundsNow", "(II)I"⟩
abbrev cX4_rounds : ByteArray := prog_6_method_68_code
def yX4_rounds : MethodName := ⟨RX4, "rounds", "(II)I"⟩
abbrev cX4_wouldTell : ByteArray := prog_6_method_69_code
def yX4_wouldTell : MethodName := ⟨RX4, "wouldTell", "(I)I"⟩
abbrev cX4_bestNote : ByteArray := prog_6_method_70_code
def yX4_bestNote : MethodName := ⟨RX4, "bestNote", "(II)I"⟩
abbrev cX4_isSoundNow : ByteArray := prog_6_method_71_code
def yX4_isSoundNow : MethodName := ⟨RX4, "isSoundNow", "([J)Z"⟩
abbrev cX4_isSound : ByteArray := prog_6_method_72_code
def yX4_isSound : MethodName := ⟨RX4, "isSound", "()Z"⟩
abbrev cX4_digest : ByteArray := prog_6_method_73_code
def yX4_digest : MethodName := ⟨RX4, "digest", "()J"⟩
def RJx145de : String := "java/io/Serializable"
def TJx145de : u_T := fun k => match k with
  | _ => ("", "", "", false)
def tyJx145de : Nat → FieldType := fun k => match k with
  | _ => .int
abbrev wsJx145de0 : List Cond := u_ws RJx145de TJx145de 0
theorem nmJx145de : ∀ a, a < 0 → ∀ b, b < 0 → a ≠ b → (TJx145de a).2.1 ≠ (TJx145de b).2.1 := by decide +kernel
theorem tyJx145de_ok : ∀ k, k < 0 → parseFieldDescriptor (TJx145de k).2.2.1 = some (tyJx145de k) := by decide +kernel
def RJ5 : String := "java/lang/AbstractStringBuilder"
def TJ5 : u_T := fun k => match k with
  | _ => ("", "", "", false)
def tyJ5 : Nat → FieldType := fun k => match k with
  | _ => .int
abbrev wsJ50 : List Cond := u_ws RJ5 TJ5 0
theorem nmJ5 : ∀ a, a < 0 → ∀ b, b < 0 → a ≠ b → (TJ5 a).2.1 ≠ (TJ5 b).2.1 := by decide +kernel
theorem tyJ5_ok : ∀ k, k < 0 → parseFieldDescriptor (TJ5 k).2.2.1 = some (tyJ5 k) := by decide +kernel
abbrev cJ5_init_d00df : ByteArray := prog_8_method_2_code
def yJ5_init_d00df : MethodName := ⟨RJ5, "<init>", "(I)V"⟩
abbrev cJ5_length_8abf5 : ByteArray := prog_8_method_6_code
def yJ5_length_8abf5 : MethodName := ⟨RJ5, "length", "()I"⟩
abbrev cJ5_ensureCapacityInternal_d00df : ByteArray := prog_8_method_9_code
def yJ5_ensureCapacityInternal_d00df : MethodName := ⟨RJ5, "ensureCapacityInternal", "(I)V"⟩
abbrev cJ5_newCapacity_0f7a4 : ByteArray := prog_8_method_10_code
def yJ5_newCapacity_0f7a4 : MethodName := ⟨RJ5, "newCapacity", "(I)I"⟩
abbrev cJ5_inflate_da8c8 : ByteArray := prog_8_method_11_code
def yJ5_inflate_da8c8 : MethodName := ⟨RJ5, "inflate", "()V"⟩
abbrev cJ5_append_cf1ce : ByteArray := prog_8_method_22_code
def yJ5_append_cf1ce : MethodName := ⟨RJ5, "append", "(Ljava/lang/String;)Ljava/lang/AbstractStringBuilder;"⟩
abbrev cJ5_appendNull_278bc : ByteArray := prog_8_method_26_code
def yJ5_appendNull_278bc : MethodName := ⟨RJ5, "appendNull", "()Ljava/lang/AbstractStringBuilder;"⟩
abbrev cJ5_append_3fe6f : ByteArray := prog_8_method_31_code
def yJ5_append_3fe6f : MethodName := ⟨RJ5, "append", "(C)Ljava/lang/AbstractStringBuilder;"⟩
abbrev cJ5_append_c97b9 : ByteArray := prog_8_method_32_code
def yJ5_append_c97b9 : MethodName := ⟨RJ5, "append", "(I)Ljava/lang/AbstractStringBuilder;"⟩
abbrev cJ5_getValue_6d5f1 : ByteArray := prog_8_method_64_code
def yJ5_getValue_6d5f1 : MethodName := ⟨RJ5, "getValue", "()[B"⟩
abbrev cJ5_isLatin1_aae02 : ByteArray := prog_8_method_68_code
def yJ5_isLatin1_aae02 : MethodName := ⟨RJ5, "isLatin1", "()Z"⟩
abbrev cJ5_inflateIfNeededFor_a7421 : ByteArray := prog_8_method_71_code
def yJ5_inflateIfNeededFor_a7421 : MethodName := ⟨RJ5, "inflateIfNeededFor", "(Ljava/lang/String;)V"⟩
abbrev cJ5_putStringAt_47b60 : ByteArray := prog_8_method_73_code
def yJ5_putStringAt_47b60 : MethodName := ⟨RJ5, "putStringAt", "(ILjava/lang/String;)V"⟩
def RJx2cfe8 : String := "java/lang/Appendable"
def TJx2cfe8 : u_T := fun k => match k with
  | _ => ("", "", "", false)
def tyJx2cfe8 : Nat → FieldType := fun k => match k with
  | _ => .int
abbrev wsJx2cfe80 : List Cond := u_ws RJx2cfe8 TJx2cfe8 0
theorem nmJx2cfe8 : ∀ a, a < 0 → ∀ b, b < 0 → a ≠ b → (TJx2cfe8 a).2.1 ≠ (TJx2cfe8 b).2.1 := by decide +kernel
theorem tyJx2cfe8_ok : ∀ k, k < 0 → parseFieldDescriptor (TJx2cfe8 k).2.2.1 = some (tyJx2cfe8 k) := by decide +kernel
def RJx9f9b0 : String := "java/lang/CharSequence"
def TJx9f9b0 : u_T := fun k => match k with
  | _ => ("", "", "", false)
def tyJx9f9b0 : Nat → FieldType := fun k => match k with
  | _ => .int
abbrev wsJx9f9b00 : List Cond := u_ws RJx9f9b0 TJx9f9b0 0
theorem nmJx9f9b0 : ∀ a, a < 0 → ∀ b, b < 0 → a ≠ b → (TJx9f9b0 a).2.1 ≠ (TJx9f9b0 b).2.1 := by decide +kernel
theorem tyJx9f9b0_ok : ∀ k, k < 0 → parseFieldDescriptor (TJx9f9b0 k).2.2.1 = some (tyJx9f9b0 k) := by decide +kernel
def RJx8e188 : String := "java/lang/Cloneable"
def TJx8e188 : u_T := fun k => match k with
  | _ => ("", "", "", false)
def tyJx8e188 : Nat → FieldType := fun k => match k with
  | _ => .int
abbrev wsJx8e1880 : List Cond := u_ws RJx8e188 TJx8e188 0
theorem nmJx8e188 : ∀ a, a < 0 → ∀ b, b < 0 → a ≠ b → (TJx8e188 a).2.1 ≠ (TJx8e188 b).2.1 := by decide +kernel
theorem tyJx8e188_ok : ∀ k, k < 0 → parseFieldDescriptor (TJx8e188 k).2.2.1 = some (tyJx8e188 k) := by decide +kernel
def RJxb160c : String := "java/lang/Comparable"
def TJxb160c : u_T := fun k => match k with
  | _ => ("", "", "", false)
def tyJxb160c : Nat → FieldType := fun k => match k with
  | _ => .int
abbrev wsJxb160c0 : List Cond := u_ws RJxb160c TJxb160c 0
theorem nmJxb160c : ∀ a, a < 0 → ∀ b, b < 0 → a ≠ b → (TJxb160c a).2.1 ≠ (TJxb160c b).2.1 := by decide +kernel
theorem tyJxb160c_ok : ∀ k, k < 0 → parseFieldDescriptor (TJxb160c k).2.2.1 = some (tyJxb160c k) := by decide +kernel
def RJ6 : String := "java/lang/Integer"
def TJ6 : u_T := fun k => match k with
  | _ => ("", "", "", false)
def tyJ6 : Nat → FieldType := fun k => match k with
  | _ => .int
abbrev wsJ60 : List Cond := u_ws RJ6 TJ6 0
theorem nmJ6 : ∀ a, a < 0 → ∀ b, b < 0 → a ≠ b → (TJ6 a).2.1 ≠ (TJ6 b).2.1 := by decide +kernel
theorem tyJ6_ok : ∀ k, k < 0 → parseFieldDescriptor (TJ6 k).2.2.1 = some (tyJ6 k) := by decide +kernel
abbrev cJ6_getChars_ba4f3 : ByteArray := prog_17_method_12_code
def yJ6_getChars_ba4f3 : MethodName := ⟨RJ6, "getChars", "(II[B)I"⟩
abbrev cJ6_stringSize_0f7a4 : ByteArray := prog_17_method_13_code
def yJ6_stringSize_0f7a4 : MethodName := ⟨RJ6, "stringSize", "(I)I"⟩
abbrev cJ6_bitCount_0f7a4 : ByteArray := prog_17_method_49_code
def yJ6_bitCount_0f7a4 : MethodName := ⟨RJ6, "bitCount", "(I)I"⟩
def RJxab1ab : String := "java/lang/Iterable"
def TJxab1ab : u_T := fun k => match k with
  | _ => ("", "", "", false)
def tyJxab1ab : Nat → FieldType := fun k => match k with
  | _ => .int
abbrev wsJxab1ab0 : List Cond := u_ws RJxab1ab TJxab1ab 0
theorem nmJxab1ab : ∀ a, a < 0 → ∀ b, b < 0 → a ≠ b → (TJxab1ab a).2.1 ≠ (TJxab1ab b).2.1 := by decide +kernel
theorem tyJxab1ab_ok : ∀ k, k < 0 → parseFieldDescriptor (TJxab1ab k).2.2.1 = some (tyJxab1ab k) := by decide +kernel
def RJ13 : String := "java/lang/Long"
def TJ13 : u_T := fun k => match k with
  | _ => ("", "", "", false)
def tyJ13 : Nat → FieldType := fun k => match k with
  | _ => .int
abbrev wsJ130 : List Cond := u_ws RJ13 TJ13 0
theorem nmJ13 : ∀ a, a < 0 → ∀ b, b < 0 → a ≠ b → (TJ13 a).2.1 ≠ (TJ13 b).2.1 := by decide +kernel
theorem tyJ13_ok : ∀ k, k < 0 → parseFieldDescriptor (TJ13 k).2.2.1 = some (tyJ13 k) := by decide +kernel
abbrev cJ13_bitCount_95d88 : ByteArray := prog_19_method_50_code
def yJ13_bitCount_95d88 : MethodName := ⟨RJ13, "bitCount", "(J)I"⟩
def RJ9 : String := "java/lang/Math"
def TJ9 : u_T := fun k => match k with
  | _ => ("", "", "", false)
def tyJ9 : Nat → FieldType := fun k => match k with
  | _ => .int
abbrev wsJ90 : List Cond := u_ws RJ9 TJ9 0
theorem nmJ9 : ∀ a, a < 0 → ∀ b, b < 0 → a ≠ b → (TJ9 a).2.1 ≠ (TJ9 b).2.1 := by decide +kernel
theorem tyJ9_ok : ∀ k, k < 0 → parseFieldDescriptor (TJ9 k).2.2.1 = some (tyJ9 k) := by decide +kernel
abbrev cJ9_max_7cf53 : ByteArray := prog_20_method_65_code
def yJ9_max_7cf53 : MethodName := ⟨RJ9, "max", "(II)I"⟩
abbrev cJ9_min_7cf53 : ByteArray := prog_20_method_69_code
def yJ9_min_7cf53 : MethodName := ⟨RJ9, "min", "(II)I"⟩
def RJxd2413 : String := "java/lang/Number"
def TJxd2413 : u_T := fun k => match k with
  | _ => ("", "", "", false)
def tyJxd2413 : Nat → FieldType := fun k => match k with
  | _ => .int
abbrev wsJxd24130 : List Cond := u_ws RJxd2413 TJxd2413 0
theorem nmJxd2413 : ∀ a, a < 0 → ∀ b, b < 0 → a ≠ b → (TJxd2413 a).2.1 ≠ (TJxd2413 b).2.1 := by decide +kernel
theorem tyJxd2413_ok : ∀ k, k < 0 → parseFieldDescriptor (TJxd2413 k).2.2.1 = some (tyJxd2413 k) := by decide +kernel
def RJ0 : String := "java/lang/String"
def TJ0 : u_T := fun k => match k with
  | 0 => ("java/lang/String", "value", "[B", true)
  | 1 => ("java/lang/String", "coder", "B", true)
  | 2 => ("java/lang/String", "hash", "I", false)
  | _ => ("java/lang/String", "hashIsZero", "Z", false)
def tyJ0 : Nat → FieldType := fun k => match k with
  | 0 => .array .byte
  | 1 => .byte
  | 2 => .int
  | _ => .boolean
abbrev wsJ00 : List Cond := u_ws RJ0 TJ0 4
theorem nmJ0 : ∀ a, a < 4 → ∀ b, b < 4 → a ≠ b → (TJ0 a).2.1 ≠ (TJ0 b).2.1 := by decide +kernel
theorem tyJ0_ok : ∀ k, k < 4 → parseFieldDescriptor (TJ0 k).2.2.1 = some (tyJ0 k) := by decide +kernel
abbrev cJ0_init_81219 : ByteArray := prog_23_method_53_code
def yJ0_init_81219 : MethodName := ⟨RJ0, "<init>", "(Ljava/lang/StringBuilder;)V"⟩
abbrev cJ0_length_8abf5 : ByteArray := prog_23_method_54_code
def yJ0_length_8abf5 : MethodName := ⟨RJ0, "length", "()I"⟩
abbrev cJ0_charAt_5068e : ByteArray := prog_23_method_56_code
def yJ0_charAt_5068e : MethodName := ⟨RJ0, "charAt", "(I)C"⟩
abbrev cJ0_getBytes_840e7 : ByteArray := prog_23_method_147_code
def yJ0_getBytes_840e7 : MethodName := ⟨RJ0, "getBytes", "([BIB)V"⟩
abbrev cJ0_init_db425 : ByteArray := prog_23_method_150_code
def yJ0_init_db425 : MethodName := ⟨RJ0, "<init>", "(Ljava/lang/AbstractStringBuilder;Ljava/lang/Void;)V"⟩
abbrev cJ0_coder_7d493 : ByteArray := prog_23_method_152_code
def yJ0_coder_7d493 : MethodName := ⟨RJ0, "coder", "()B"⟩
abbrev cJ0_isLatin1_aae02 : ByteArray := prog_23_method_154_code
def yJ0_isLatin1_aae02 : MethodName := ⟨RJ0, "isLatin1", "()Z"⟩
abbrev cJ0_checkIndex_df160 : ByteArray := prog_23_method_155_code
def yJ0_checkIndex_df160 : MethodName := ⟨RJ0, "checkIndex", "(II)V"⟩
abbrev cJ0_checkBoundsOffCount_cabcc : ByteArray := prog_23_method_157_code
def yJ0_checkBoundsOffCount_cabcc : MethodName := ⟨RJ0, "checkBoundsOffCount", "(III)I"⟩
abbrev cJ0_checkBoundsBeginEnd_23922 : ByteArray := prog_23_method_158_code
def yJ0_checkBoundsBeginEnd_23922 : MethodName := ⟨RJ0, "checkBoundsBeginEnd", "(III)V"⟩
def RJ4 : String := "java/lang/StringBuilder"
def TJ4 : u_T := fun k => match k with
  | 0 => ("java/lang/AbstractStringBuilder", "value", "[B", false)
  | 1 => ("java/lang/AbstractStringBuilder", "coder", "B", false)
  | 2 => ("java/lang/AbstractStringBuilder", "maybeLatin1", "Z", false)
  | _ => ("java/lang/AbstractStringBuilder", "count", "I", false)
def tyJ4 : Nat → FieldType := fun k => match k with
  | 0 => .array .byte
  | 1 => .byte
  | 2 => .boolean
  | _ => .int
abbrev wsJ40 : List Cond := u_ws RJ4 TJ4 4
theorem nmJ4 : ∀ a, a < 4 → ∀ b, b < 4 → a ≠ b → (TJ4 a).2.1 ≠ (TJ4 b).2.1 := by decide +kernel
theorem tyJ4_ok : ∀ k, k < 4 → parseFieldDescriptor (TJ4 k).2.2.1 = some (tyJ4 k) := by decide +kernel
abbrev cJ4_init_da8c8 : ByteArray := prog_24_method_1_code
def yJ4_init_da8c8 : MethodName := ⟨RJ4, "<init>", "()V"⟩
abbrev cJ4_append_15ec4 : ByteArray := prog_24_method_7_code
def yJ4_append_15ec4 : MethodName := ⟨RJ4, "append", "(Ljava/lang/String;)Ljava/lang/StringBuilder;"⟩
abbrev cJ4_append_cf468 : ByteArray := prog_24_method_14_code
def yJ4_append_cf468 : MethodName := ⟨RJ4, "append", "(C)Ljava/lang/StringBuilder;"⟩
abbrev cJ4_append_bf812 : ByteArray := prog_24_method_15_code
def yJ4_append_bf812 : MethodName := ⟨RJ4, "append", "(I)Ljava/lang/StringBuilder;"⟩
abbrev cJ4_toString_0e30d : ByteArray := prog_24_method_42_code
def yJ4_toString_0e30d : MethodName := ⟨RJ4, "toString", "()Ljava/lang/String;"⟩
abbrev cJ4_length_8abf5 : ByteArray := prog_24_method_93_code
def yJ4_length_8abf5 : MethodName := ⟨RJ4, "length", "()I"⟩
def RJ1 : String := "java/lang/StringLatin1"
def TJ1 : u_T := fun k => match k with
  | _ => ("", "", "", false)
def tyJ1 : Nat → FieldType := fun k => match k with
  | _ => .int
abbrev wsJ10 : List Cond := u_ws RJ1 TJ1 0
theorem nmJ1 : ∀ a, a < 0 → ∀ b, b < 0 → a ≠ b → (TJ1 a).2.1 ≠ (TJ1 b).2.1 := by decide +kernel
theorem tyJ1_ok : ∀ k, k < 0 → parseFieldDescriptor (TJ1 k).2.2.1 = some (tyJ1 k) := by decide +kernel
abbrev cJ1_charAt_3b067 : ByteArray := prog_25_method_2_code
def yJ1_charAt_3b067 : MethodName := ⟨RJ1, "charAt", "([BI)C"⟩
abbrev cJ1_canEncode_fc78d : ByteArray := prog_25_method_3_code
def yJ1_canEncode_fc78d : MethodName := ⟨RJ1, "canEncode", "(C)Z"⟩
abbrev cJ1_inflate_0e8fd : ByteArray := prog_25_method_50_code
def yJ1_inflate_0e8fd : MethodName := ⟨RJ1, "inflate", "([BI[BII)V"⟩
def RJ2 : String := "java/lang/StringUTF16"
def TJ2 : u_T := fun k => match k with
  | _ => ("", "", "", false)
def tyJ2 : Nat → FieldType := fun k => match k with
  | _ => .int
abbrev wsJ20 : List Cond := u_ws RJ2 TJ2 0
theorem nmJ2 : ∀ a, a < 0 → ∀ b, b < 0 → a ≠ b → (TJ2 a).2.1 ≠ (TJ2 b).2.1 := by decide +kernel
theorem tyJ2_ok : ∀ k, k < 0 → parseFieldDescriptor (TJ2 k).2.2.1 = some (tyJ2 k) := by decide +kernel
abbrev cJ2_newBytesFor_77867 : ByteArray := prog_26_method_2_code
def yJ2_newBytesFor_77867 : MethodName := ⟨RJ2, "newBytesFor", "(I)[B"⟩
abbrev cJ2_newBytesLength_0f7a4 : ByteArray := prog_26_method_3_code
def yJ2_newBytesLength_0f7a4 : MethodName := ⟨RJ2, "newBytesLength", "(I)I"⟩
abbrev cJ2_putChar_b72d1 : ByteArray := prog_26_method_4_code
def yJ2_putChar_b72d1 : MethodName := ⟨RJ2, "putChar", "([BII)V"⟩
abbrev cJ2_getChar_3b067 : ByteArray := prog_26_method_5_code
def yJ2_getChar_3b067 : MethodName := ⟨RJ2, "getChar", "([BI)C"⟩
abbrev cJ2_length_9d52b : ByteArray := prog_26_method_6_code
def yJ2_length_9d52b : MethodName := ⟨RJ2, "length", "([B)I"⟩
abbrev cJ2_coderFromArrayLen_85cad : ByteArray := prog_26_method_15_code
def yJ2_coderFromArrayLen_85cad : MethodName := ⟨RJ2, "coderFromArrayLen", "([BI)B"⟩
abbrev cJ2_compress_39247 : ByteArray := prog_26_method_17_code
def yJ2_compress_39247 : MethodName := ⟨RJ2, "compress", "([BII)[B"⟩
abbrev cJ2_compress_5af95 : ByteArray := prog_26_method_22_code
def yJ2_compress_5af95 : MethodName := ⟨RJ2, "compress", "([BI[BII)I"⟩
abbrev cJ2_putCharSB_b72d1 : ByteArray := prog_26_method_71_code
def yJ2_putCharSB_b72d1 : MethodName := ⟨RJ2, "putCharSB", "([BII)V"⟩
abbrev cJ2_getChars_46870 : ByteArray := prog_26_method_77_code
def yJ2_getChars_46870 : MethodName := ⟨RJ2, "getChars", "(III[B)I"⟩
abbrev cJ2_putCharsAt_cd4e5 : ByteArray := prog_26_method_81_code
def yJ2_putCharsAt_cd4e5 : MethodName := ⟨RJ2, "putCharsAt", "([BICCCC)I"⟩
abbrev cJ2_charAt_3b067 : ByteArray := prog_26_method_83_code
def yJ2_charAt_3b067 : MethodName := ⟨RJ2, "charAt", "([BI)C"⟩
abbrev cJ2_inflate_0e8fd : ByteArray := prog_26_method_86_code
def yJ2_inflate_0e8fd : MethodName := ⟨RJ2, "inflate", "([BI[BII)V"⟩
abbrev cJ2_getChars_ba4f3 : ByteArray := prog_26_method_89_code
def yJ2_getChars_ba4f3 : MethodName := ⟨RJ2, "getChars", "(II[B)I"⟩
abbrev cJ2_checkIndex_2214a : ByteArray := prog_26_method_91_code
def yJ2_checkIndex_2214a : MethodName := ⟨RJ2, "checkIndex", "(I[B)V"⟩
abbrev cJ2_checkBoundsBeginEnd_d044e : ByteArray := prog_26_method_93_code
def yJ2_checkBoundsBeginEnd_d044e : MethodName := ⟨RJ2, "checkBoundsBeginEnd", "(II[B)V"⟩
abbrev cJ2_checkBoundsOffCount_d044e : ByteArray := prog_26_method_94_code
def yJ2_checkBoundsOffCount_d044e : MethodName := ⟨RJ2, "checkBoundsOffCount", "(II[B)V"⟩
def RJ10 : String := "java/lang/System"
def TJ10 : u_T := fun k => match k with
  | _ => ("", "", "", false)
def tyJ10 : Nat → FieldType := fun k => match k with
  | _ => .int
abbrev wsJ100 : List Cond := u_ws RJ10 TJ10 0
theorem nmJ10 : ∀ a, a < 0 → ∀ b, b < 0 → a ≠ b → (TJ10 a).2.1 ≠ (TJ10 b).2.1 := by decide +kernel
theorem tyJ10_ok : ∀ k, k < 0 → parseFieldDescriptor (TJ10 k).2.2.1 = some (tyJ10 k) := by decide +kernel
def RJxfd54e : String := "java/lang/constant/Constable"
def TJxfd54e : u_T := fun k => match k with
  | _ => ("", "", "", false)
def tyJxfd54e : Nat → FieldType := fun k => match k with
  | _ => .int
abbrev wsJxfd54e0 : List Cond := u_ws RJxfd54e TJxfd54e 0
theorem nmJxfd54e : ∀ a, a < 0 → ∀ b, b < 0 → a ≠ b → (TJxfd54e a).2.1 ≠ (TJxfd54e b).2.1 := by decide +kernel
theorem tyJxfd54e_ok : ∀ k, k < 0 → parseFieldDescriptor (TJxfd54e k).2.2.1 = some (tyJxfd54e k) := by decide +kernel
def RJx3cf43 : String := "java/lang/constant/ConstantDesc"
def TJx3cf43 : u_T := fun k => match k with
  | _ => ("", "", "", false)
def tyJx3cf43 : Nat → FieldType := fun k => match k with
  | _ => .int
abbrev wsJx3cf430 : List Cond := u_ws RJx3cf43 TJx3cf43 0
theorem nmJx3cf43 : ∀ a, a < 0 → ∀ b, b < 0 → a ≠ b → (TJx3cf43 a).2.1 ≠ (TJx3cf43 b).2.1 := by decide +kernel
theorem tyJx3cf43_ok : ∀ k, k < 0 → parseFieldDescriptor (TJx3cf43 k).2.2.1 = some (tyJx3cf43 k) := by decide +kernel
def RJxa1e45 : String := "java/util/AbstractCollection"
def TJxa1e45 : u_T := fun k => match k with
  | _ => ("", "", "", false)
def tyJxa1e45 : Nat → FieldType := fun k => match k with
  | _ => .int
abbrev wsJxa1e450 : List Cond := u_ws RJxa1e45 TJxa1e45 0
theorem nmJxa1e45 : ∀ a, a < 0 → ∀ b, b < 0 → a ≠ b → (TJxa1e45 a).2.1 ≠ (TJxa1e45 b).2.1 := by decide +kernel
theorem tyJxa1e45_ok : ∀ k, k < 0 → parseFieldDescriptor (TJxa1e45 k).2.2.1 = some (tyJxa1e45 k) := by decide +kernel
abbrev cJxa1e45_init_da8c8 : ByteArray := prog_31_method_1_code
def yJxa1e45_init_da8c8 : MethodName := ⟨RJxa1e45, "<init>", "()V"⟩
def RJxc12de : String := "java/util/AbstractList"
def TJxc12de : u_T := fun k => match k with
  | _ => ("", "", "", false)
def tyJxc12de : Nat → FieldType := fun k => match k with
  | _ => .int
abbrev wsJxc12de0 : List Cond := u_ws RJxc12de TJxc12de 0
theorem nmJxc12de : ∀ a, a < 0 → ∀ b, b < 0 → a ≠ b → (TJxc12de a).2.1 ≠ (TJxc12de b).2.1 := by decide +kernel
theorem tyJxc12de_ok : ∀ k, k < 0 → parseFieldDescriptor (TJxc12de k).2.2.1 = some (tyJxc12de k) := by decide +kernel
abbrev cJxc12de_init_da8c8 : ByteArray := prog_32_method_1_code
def yJxc12de_init_da8c8 : MethodName := ⟨RJxc12de, "<init>", "()V"⟩
def RJx4a65c : String := "java/util/ArrayList"
def TJx4a65c : u_T := fun k => match k with
  | 0 => ("java/util/AbstractList", "modCount", "I", false)
  | 1 => ("java/util/ArrayList", "elementData", "[Ljava/lang/Object;", false)
  | _ => ("java/util/ArrayList", "size", "I", false)
def tyJx4a65c : Nat → FieldType := fun k => match k with
  | 0 => .int
  | 1 => .array (.object "java/lang/Object")
  | _ => .int
abbrev wsJx4a65c0 : List Cond := u_ws RJx4a65c TJx4a65c 3
theorem nmJx4a65c : ∀ a, a < 3 → ∀ b, b < 3 → a ≠ b → (TJx4a65c a).2.1 ≠ (TJx4a65c b).2.1 := by decide +kernel
theorem tyJx4a65c_ok : ∀ k, k < 3 → parseFieldDescriptor (TJx4a65c k).2.2.1 = some (tyJx4a65c k) := by decide +kernel
abbrev cJx4a65c_init_da8c8 : ByteArray := prog_33_method_2_code
def yJx4a65c_init_da8c8 : MethodName := ⟨RJx4a65c, "<init>", "()V"⟩
abbrev cJx4a65c_grow_92f84 : ByteArray := prog_33_method_6_code
def yJx4a65c_grow_92f84 : MethodName := ⟨RJx4a65c, "grow", "(I)[Ljava/lang/Object;"⟩
abbrev cJx4a65c_grow_d5877 : ByteArray := prog_33_method_7_code
def yJx4a65c_grow_d5877 : MethodName := ⟨RJx4a65c, "grow", "()[Ljava/lang/Object;"⟩
abbrev cJx4a65c_size_8abf5 : ByteArray := prog_33_method_8_code
def yJx4a65c_size_8abf5 : MethodName := ⟨RJx4a65c, "size", "()I"⟩
abbrev cJx4a65c_elementData_915e3 : ByteArray := prog_33_method_18_code
def yJx4a65c_elementData_915e3 : MethodName := ⟨RJx4a65c, "elementData", "(I)Ljava/lang/Object;"⟩
abbrev cJx4a65c_get_915e3 : ByteArray := prog_33_method_20_code
def yJx4a65c_get_915e3 : MethodName := ⟨RJx4a65c, "get", "(I)Ljava/lang/Object;"⟩
abbrev cJx4a65c_add_72be8 : ByteArray := prog_33_method_24_code
def yJx4a65c_add_72be8 : MethodName := ⟨RJx4a65c, "add", "(Ljava/lang/Object;[Ljava/lang/Object;I)V"⟩
abbrev cJx4a65c_add_9ea2d : ByteArray := prog_33_method_25_code
def yJx4a65c_add_9ea2d : MethodName := ⟨RJx4a65c, "add", "(Ljava/lang/Object;)Z"⟩
def RJ7 : String := "java/util/Arrays"
def TJ7 : u_T := fun k => match k with
  | _ => ("", "", "", false)
def tyJ7 : Nat → FieldType := fun k => match k with
  | _ => .int
abbrev wsJ70 : List Cond := u_ws RJ7 TJ7 0
theorem nmJ7 : ∀ a, a < 0 → ∀ b, b < 0 → a ≠ b → (TJ7 a).2.1 ≠ (TJ7 b).2.1 := by decide +kernel
theorem tyJ7_ok : ∀ k, k < 0 → parseFieldDescriptor (TJ7 k).2.2.1 = some (tyJ7 k) := by decide +kernel
abbrev cJ7_copyOf_1904c : ByteArray := prog_34_method_119_code
def yJ7_copyOf_1904c : MethodName := ⟨RJ7, "copyOf", "([Ljava/lang/Object;I)[Ljava/lang/Object;"⟩
abbrev cJ7_copyOf_6403c : ByteArray := prog_34_method_120_code
def yJ7_copyOf_6403c : MethodName := ⟨RJ7, "copyOf", "([Ljava/lang/Object;ILjava/lang/Class;)[Ljava/lang/Object;"⟩
abbrev cJ7_copyOf_9075b : ByteArray := prog_34_method_121_code
def yJ7_copyOf_9075b : MethodName := ⟨RJ7, "copyOf", "([BI)[B"⟩
abbrev cJ7_checkLength_df160 : ByteArray := prog_34_method_131_code
def yJ7_checkLength_df160 : MethodName := ⟨RJ7, "checkLength", "(II)V"⟩
abbrev cJ7_copyOfRange_39247 : ByteArray := prog_34_method_132_code
def yJ7_copyOfRange_39247 : MethodName := ⟨RJ7, "copyOfRange", "([BII)[B"⟩
abbrev cJ7_copyOfRangeByte_39247 : ByteArray := prog_34_method_133_code
def yJ7_copyOfRangeByte_39247 : MethodName := ⟨RJ7, "copyOfRangeByte", "([BII)[B"⟩
def RJx5ef63 : String := "java/util/Collection"
def TJx5ef63 : u_T := fun k => match k with
  | _ => ("", "", "", false)
def tyJx5ef63 : Nat → FieldType := fun k => match k with
  | _ => .int
abbrev wsJx5ef630 : List Cond := u_ws RJx5ef63 TJx5ef63 0
theorem nmJx5ef63 : ∀ a, a < 0 → ∀ b, b < 0 → a ≠ b → (TJx5ef63 a).2.1 ≠ (TJx5ef63 b).2.1 := by decide +kernel
theorem tyJx5ef63_ok : ∀ k, k < 0 → parseFieldDescriptor (TJx5ef63 k).2.2.1 = some (tyJx5ef63 k) := by decide +kernel
def RJxbd725 : String := "java/util/List"
def TJxbd725 : u_T := fun k => match k with
  | _ => ("", "", "", false)
def tyJxbd725 : Nat → FieldType := fun k => match k with
  | _ => .int
abbrev wsJxbd7250 : List Cond := u_ws RJxbd725 TJxbd725 0
theorem nmJxbd725 : ∀ a, a < 0 → ∀ b, b < 0 → a ≠ b → (TJxbd725 a).2.1 ≠ (TJxbd725 b).2.1 := by decide +kernel
theorem tyJxbd725_ok : ∀ k, k < 0 → parseFieldDescriptor (TJxbd725 k).2.2.1 = some (tyJxbd725 k) := by decide +kernel
def RJ15 : String := "java/util/Objects"
def TJ15 : u_T := fun k => match k with
  | _ => ("", "", "", false)
def tyJ15 : Nat → FieldType := fun k => match k with
  | _ => .int
abbrev wsJ150 : List Cond := u_ws RJ15 TJ15 0
theorem nmJ15 : ∀ a, a < 0 → ∀ b, b < 0 → a ≠ b → (TJ15 a).2.1 ≠ (TJ15 b).2.1 := by decide +kernel
theorem tyJ15_ok : ∀ k, k < 0 → parseFieldDescriptor (TJ15 k).2.2.1 = some (tyJ15 k) := by decide +kernel
abbrev cJ15_checkIndex_7cf53 : ByteArray := prog_37_method_17_code
def yJ15_checkIndex_7cf53 : MethodName := ⟨RJ15, "checkIndex", "(II)I"⟩
def RJxf0a74 : String := "java/util/RandomAccess"
def TJxf0a74 : u_T := fun k => match k with
  | _ => ("", "", "", false)
def tyJxf0a74 : Nat → FieldType := fun k => match k with
  | _ => .int
abbrev wsJxf0a740 : List Cond := u_ws RJxf0a74 TJxf0a74 0
theorem nmJxf0a74 : ∀ a, a < 0 → ∀ b, b < 0 → a ≠ b → (TJxf0a74 a).2.1 ≠ (TJxf0a74 b).2.1 := by decide +kernel
theorem tyJxf0a74_ok : ∀ k, k < 0 → parseFieldDescriptor (TJxf0a74 k).2.2.1 = some (tyJxf0a74 k) := by decide +kernel
def RJxa66e6 : String := "java/util/SequencedCollection"
def TJxa66e6 : u_T := fun k => match k with
  | _ => ("", "", "", false)
def tyJxa66e6 : Nat → FieldType := fun k => match k with
  | _ => .int
abbrev wsJxa66e60 : List Cond := u_ws RJxa66e6 TJxa66e6 0
theorem nmJxa66e6 : ∀ a, a < 0 → ∀ b, b < 0 → a ≠ b → (TJxa66e6 a).2.1 ≠ (TJxa66e6 b).2.1 := by decide +kernel
theorem tyJxa66e6_ok : ∀ k, k < 0 → parseFieldDescriptor (TJxa66e6 k).2.2.1 = some (tyJxa66e6 k) := by decide +kernel
def RJ8 : String := "jdk/internal/util/ArraysSupport"
def TJ8 : u_T := fun k => match k with
  | _ => ("", "", "", false)
def tyJ8 : Nat → FieldType := fun k => match k with
  | _ => .int
abbrev wsJ80 : List Cond := u_ws RJ8 TJ8 0
theorem nmJ8 : ∀ a, a < 0 → ∀ b, b < 0 → a ≠ b → (TJ8 a).2.1 ≠ (TJ8 b).2.1 := by decide +kernel
theorem tyJ8_ok : ∀ k, k < 0 → parseFieldDescriptor (TJ8 k).2.2.1 = some (tyJ8 k) := by decide +kernel
abbrev cJ8_newLength_cabcc : ByteArray := prog_40_method_27_code
def yJ8_newLength_cabcc : MethodName := ⟨RJ8, "newLength", "(III)I"⟩
abbrev cJ8_hugeLength_7cf53 : ByteArray := prog_40_method_28_code
def yJ8_hugeLength_7cf53 : MethodName := ⟨RJ8, "hugeLength", "(II)I"⟩
def RJ3 : String := "jdk/internal/util/Preconditions"
def TJ3 : u_T := fun k => match k with
  | _ => ("", "", "", false)
def tyJ3 : Nat → FieldType := fun k => match k with
  | _ => .int
abbrev wsJ30 : List Cond := u_ws RJ3 TJ3 0
theorem nmJ3 : ∀ a, a < 0 → ∀ b, b < 0 → a ≠ b → (TJ3 a).2.1 ≠ (TJ3 b).2.1 := by decide +kernel
theorem tyJ3_ok : ∀ k, k < 0 → parseFieldDescriptor (TJ3 k).2.2.1 = some (tyJ3 k) := by decide +kernel
abbrev cJ3_checkIndex_8e157 : ByteArray := prog_41_method_11_code
def yJ3_checkIndex_8e157 : MethodName := ⟨RJ3, "checkIndex", "(IILjava/util/function/BiFunction;)I"⟩
abbrev cJ3_checkFromToIndex_8c36e : ByteArray := prog_41_method_12_code
def yJ3_checkFromToIndex_8c36e : MethodName := ⟨RJ3, "checkFromToIndex", "(IIILjava/util/function/BiFunction;)I"⟩
abbrev cJ3_checkFromIndexSize_8c36e : ByteArray := prog_41_method_13_code
def yJ3_checkFromIndexSize_8c36e : MethodName := ⟨RJ3, "checkFromIndexSize", "(IIILjava/util/function/BiFunction;)I"⟩
def RL : String := "NightdeskRotaLaw"
abbrev cL_begin : ByteArray := method_2_code
def yL_begin : MethodName := ⟨RL, "begin", "(LNightdeskRota;ILNightdeskRotaLaw$Out;)I"⟩
abbrev cL_say : ByteArray := method_3_code
def yL_say : MethodName := ⟨RL, "say", "(LNightdeskRota;IIILNightdeskRotaLaw$Out;)I"⟩
abbrev cL_look : ByteArray := method_4_code
def yL_look : MethodName := ⟨RL, "look", "(LNightdeskRota;IILNightdeskRotaLaw$Out;)I"⟩
abbrev cL_aloud : ByteArray := method_5_code
def yL_aloud : MethodName := ⟨RL, "aloud", "(LNightdeskRota;ILNightdeskRotaLaw$Out;)I"⟩
abbrev cL_whisper : ByteArray := method_6_code
def yL_whisper : MethodName := ⟨RL, "whisper", "(LNightdeskRota;IILNightdeskRotaLaw$Out;)I"⟩
abbrev cL_note : ByteArray := method_7_code
def yL_note : MethodName := ⟨RL, "note", "(LNightdeskRota;IILNightdeskRotaLaw$Out;)I"⟩
abbrev cL_ask : ByteArray := method_8_code
def yL_ask : MethodName := ⟨RL, "ask", "(LNightdeskRota;IILNightdeskRotaLaw$Out;)I"⟩
abbrev cL_flip : ByteArray := method_9_code
def yL_flip : MethodName := ⟨RL, "flip", "(LNightdeskRota;ILNightdeskRotaLaw$Out;)I"⟩
abbrev cL_isTrue : ByteArray := method_10_code
def yL_isTrue : MethodName := ⟨RL, "isTrue", "(LNightdeskRota;IILNightdeskRotaLaw$Out;)I"⟩
abbrev cL_truth : ByteArray := method_11_code
def yL_truth : MethodName := ⟨RL, "truth", "(LNightdeskRota;ILNightdeskRotaLaw$Out;)I"⟩
abbrev cL_of : ByteArray := method_12_code
def yL_of : MethodName := ⟨RL, "of", "(LNightdeskRota;IILNightdeskRotaLaw$Out;)I"⟩
abbrev cL_alike : ByteArray := method_13_code
def yL_alike : MethodName := ⟨RL, "alike", "(LNightdeskRota;IILNightdeskRotaLaw$Out;)I"⟩
abbrev cL_ofGuard : ByteArray := method_14_code
def yL_ofGuard : MethodName := ⟨RL, "ofGuard", "(LNightdeskRota;IILNightdeskRotaLaw$Out;)I"⟩
abbrev cL_depth : ByteArray := method_15_code
def yL_depth : MethodName := ⟨RL, "depth", "(LNightdeskRota;IILNightdeskRotaLaw$Out;)I"⟩
abbrev cL_night : ByteArray := method_16_code
def yL_night : MethodName := ⟨RL, "night", "(LNightdeskRota;ILNightdeskRotaLaw$Out;)I"⟩
abbrev cL_text : ByteArray := method_17_code
def yL_text : MethodName := ⟨RL, "text", "(LNightdeskRota;ILNightdeskRotaLaw$Out;)I"⟩
abbrev cL_wit : ByteArray := method_18_code
def yL_wit : MethodName := ⟨RL, "wit", "(LNightdeskRota;ILNightdeskRotaLaw$Out;)I"⟩
abbrev cL_notes : ByteArray := method_19_code
def yL_notes : MethodName := ⟨RL, "notes", "(LNightdeskRota;IILNightdeskRotaLaw$Out;)I"⟩
abbrev cL_rounds : ByteArray := method_20_code
def yL_rounds : MethodName := ⟨RL, "rounds", "(LNightdeskRota;IILNightdeskRotaLaw$Out;)I"⟩
abbrev cL_wouldTell : ByteArray := method_21_code
def yL_wouldTell : MethodName := ⟨RL, "wouldTell", "(LNightdeskRota;ILNightdeskRotaLaw$Out;)I"⟩
abbrev cL_bestNote : ByteArray := method_22_code
def yL_bestNote : MethodName := ⟨RL, "bestNote", "(LNightdeskRota;IILNightdeskRotaLaw$Out;)I"⟩
abbrev cL_law : ByteArray := code
def yL_law : MethodName := ⟨RL, "law", "([I)Z"⟩
theorem inX0 : ∀ w ∈ wsX00, w ∈ lw_tbl := by decide +kernel
theorem inX1 : ∀ w ∈ wsX10, w ∈ lw_tbl := by decide +kernel
theorem inX2 : ∀ w ∈ wsX20, w ∈ lw_tbl := by decide +kernel
theorem inX3 : ∀ w ∈ wsX30, w ∈ lw_tbl := by decide +kernel
theorem inX4 : ∀ w ∈ wsX40, w ∈ lw_tbl := by decide +kernel
theorem inJx145de : ∀ w ∈ wsJx145de0, w ∈ lw_tbl := by decide +kernel
theorem inJ5 : ∀ w ∈ wsJ50, w ∈ lw_tbl := by decide +kernel
theorem inJx2cfe8 : ∀ w ∈ wsJx2cfe80, w ∈ lw_tbl := by decide +kernel
theorem inJx9f9b0 : ∀ w ∈ wsJx9f9b00, w ∈ lw_tbl := by decide +kernel
theorem inJx8e188 : ∀ w ∈ wsJx8e1880, w ∈ lw_tbl := by decide +kernel
theorem inJxb160c : ∀ w ∈ wsJxb160c0, w ∈ lw_tbl := by decide +kernel
theorem inJ6 : ∀ w ∈ wsJ60, w ∈ lw_tbl := by decide +kernel
theorem inJxab1ab : ∀ w ∈ wsJxab1ab0, w ∈ lw_tbl := by decide +kernel
theorem inJ13 : ∀ w ∈ wsJ130, w ∈ lw_tbl := by decide +kernel
theorem inJ9 : ∀ w ∈ wsJ90, w ∈ lw_tbl := by decide +kernel
theorem inJxd2413 : ∀ w ∈ wsJxd24130, w ∈ lw_tbl := by decide +kernel
theorem inJ0 : ∀ w ∈ wsJ00, w ∈ lw_tbl := by decide +kernel
theorem inJ4 : ∀ w ∈ wsJ40, w ∈ lw_tbl := by decide +kernel
theorem inJ1 : ∀ w ∈ wsJ10, w ∈ lw_tbl := by decide +kernel
theorem inJ2 : ∀ w ∈ wsJ20, w ∈ lw_tbl := by decide +kernel
theorem inJ10 : ∀ w ∈ wsJ100, w ∈ lw_tbl := by decide +kernel
theorem inJxfd54e : ∀ w ∈ wsJxfd54e0, w ∈ lw_tbl := by decide +kernel
theorem inJx3cf43 : ∀ w ∈ wsJx3cf430, w ∈ lw_tbl := by decide +kernel
theorem inJxa1e45 : ∀ w ∈ wsJxa1e450, w ∈ lw_tbl := by decide +kernel
theorem inJxc12de : ∀ w ∈ wsJxc12de0, w ∈ lw_tbl := by decide +kernel
theorem inJx4a65c : ∀ w ∈ wsJx4a65c0, w ∈ lw_tbl := by decide +kernel
theorem inJ7 : ∀ w ∈ wsJ70, w ∈ lw_tbl := by decide +kernel
theorem inJx5ef63 : ∀ w ∈ wsJx5ef630, w ∈ lw_tbl := by decide +kernel
theorem inJxbd725 : ∀ w ∈ wsJxbd7250, w ∈ lw_tbl := by decide +kernel
theorem inJ15 : ∀ w ∈ wsJ150, w ∈ lw_tbl := by decide +kernel
theorem inJxf0a74 : ∀ w ∈ wsJxf0a740, w ∈ lw_tbl := by decide +kernel
theorem inJxa66e6 : ∀ w ∈ wsJxa66e60, w ∈ lw_tbl := by decide +kernel
theorem inJ8 : ∀ w ∈ wsJ80, w ∈ lw_tbl := by decide +kernel
theorem inJ3 : ∀ w ∈ wsJ30, w ∈ lw_tbl := by decide +kernel
abbrev vwCl : List vw_C := [(RJ0, TJ0, 4), (RJ4, TJ4, 4), (RJx4a65c, TJx4a65c, 3), (RX0, TX0, 7), (RX1, TX1, 5), (RX2, TX2, 11), (RX3, TX3, 3), (RX4, TX4, 15)]

