/-! ===== BEGIN words of one list among another's, by their places ===== -/
theorem goodIn_r {big : List Cond} (ws : List Cond) (ps : List Nat) (hp : ws = ps.filterMap (fun i => big[i]?)) (h : ws.all goodWord = true) : GoodIn big ws := by
  intro w hw
  have h1 := List.all_eq_true.mp h w hw
  rw [hp] at hw
  obtain ⟨i, -, hi⟩ := List.mem_filterMap.mp hw
  have hm : w ∈ big := by first | exact List.mem_of_getElem? hi | exact List.getElem?_mem hi
  exact ⟨hm, good_of_word h1⟩
theorem goodIn_app {big a b : List Cond} (ha : GoodIn big a) (hb : GoodIn big b) : GoodIn big (a ++ b) := fun w h => (List.mem_append.mp h).elim (ha w) (hb w)
theorem goodIn_ca {big a b : List Cond} {c : Cond} (ha : GoodIn big (c :: a)) (hb : GoodIn big b) : GoodIn big (c :: (a ++ b)) := fun w h => (List.mem_cons.mp h).elim (fun e => ha w (List.mem_cons.mpr (Or.inl e))) (fun h => (List.mem_append.mp h).elim (fun h => ha w (List.mem_cons.mpr (Or.inr h))) (hb w))
theorem goodIn_sub {big ws : List Cond} (hm : ∀ w ∈ ws, w ∈ big) (h : ws.all goodWord = true) : GoodIn big ws := fun w hw => ⟨hm w hw, good_of_word (List.all_eq_true.mp h w hw)⟩
/-! ===== END ===== -/

/-! ===== BEGIN printed: names, fields, word lists, decode rows ===== -/
def RX0 : String := "NestReaders$Counts"
def TX0 : u_T := fun k => match k with
  | 0 => ("NestReaders$Counts", "places", "LNestReaders$Places;", true)
  | 1 => ("NestReaders$Counts", "codes", "I", true)
  | 2 => ("NestReaders$Counts", "whole", "[J", true)
  | 3 => ("NestReaders$Counts", "step", "[J", true)
  | 4 => ("NestReaders$Counts", "ground", "[J", true)
  | 5 => ("NestReaders$Counts", "above", "[J", true)
  | 6 => ("NestReaders$Counts", "edition", "I", false)
  | _ => ("NestReaders$Counts", "counted", "I", false)
def tyX0 : Nat → FieldType := fun k => match k with
  | 0 => .object "NestReaders$Places"
  | 1 => .int
  | 2 => .array .long
  | 3 => .array .long
  | 4 => .array .long
  | 5 => .array .long
  | 6 => .int
  | _ => .int
abbrev wsX00 : List Cond := u_ws RX0 TX0 8
theorem nmX0 : ∀ a, a < 8 → ∀ b, b < 8 → a ≠ b → (TX0 a).2.1 ≠ (TX0 b).2.1 := by decide +kernel
theorem tyX0_ok : ∀ k, k < 8 → parseFieldDescriptor (TX0 k).2.2.1 = some (tyX0 k) := by decide +kernel
abbrev cX0_init : ByteArray := prog_2_method_1_code
def yX0_init : MethodName := ⟨RX0, "<init>", "(LNestReaders$Places;)V"⟩
abbrev cX0_rowsWithin : ByteArray := prog_2_method_2_code
def yX0_rowsWithin : MethodName := ⟨RX0, "rowsWithin", "(JI)I"⟩
abbrev cX0_refresh : ByteArray := prog_2_method_3_code
def yX0_refresh : MethodName := ⟨RX0, "refresh", "()V"⟩
abbrev cX0_extend : ByteArray := prog_2_method_4_code
def yX0_extend : MethodName := ⟨RX0, "extend", "(I)V"⟩
abbrev cX0_clearLine : ByteArray := prog_2_method_5_code
def yX0_clearLine : MethodName := ⟨RX0, "clearLine", "(I)V"⟩
abbrev cX0_countSteps : ByteArray := prog_2_method_6_code
def yX0_countSteps : MethodName := ⟨RX0, "countSteps", "(LNestReaders$Wholes;I)V"⟩
abbrev cX0_addWholes : ByteArray := prog_2_method_7_code
def yX0_addWholes : MethodName := ⟨RX0, "addWholes", "(LNestReaders$Wholes;II)V"⟩
abbrev cX0_addCodes : ByteArray := prog_2_method_8_code
def yX0_addCodes : MethodName := ⟨RX0, "addCodes", "([JII)V"⟩
abbrev cX0_addHalfOpen : ByteArray := prog_2_method_9_code
def yX0_addHalfOpen : MethodName := ⟨RX0, "addHalfOpen", "(I)V"⟩
abbrev cX0_add : ByteArray := prog_2_method_10_code
def yX0_add : MethodName := ⟨RX0, "add", "([JIJ)V"⟩
def RX1 : String := "NestReaders$Held"
def TX1 : u_T := fun k => match k with
  | 0 => ("NestReaders$Held", "one", "LNestReaders$Reader;", true)
  | 1 => ("NestReaders$Held", "other", "LNestReaders$Reader;", true)
  | _ => ("NestReaders$Held", "both", "Z", true)
def tyX1 : Nat → FieldType := fun k => match k with
  | 0 => .object "NestReaders$Reader"
  | 1 => .object "NestReaders$Reader"
  | _ => .boolean
abbrev wsX10 : List Cond := u_ws RX1 TX1 3
theorem nmX1 : ∀ a, a < 3 → ∀ b, b < 3 → a ≠ b → (TX1 a).2.1 ≠ (TX1 b).2.1 := by decide +kernel
theorem tyX1_ok : ∀ k, k < 3 → parseFieldDescriptor (TX1 k).2.2.1 = some (tyX1 k) := by decide +kernel
abbrev cX1_init : ByteArray := prog_3_method_1_code
def yX1_init : MethodName := ⟨RX1, "<init>", "(LNestReaders$Reader;LNestReaders$Reader;Z)V"⟩
abbrev cX1_codes : ByteArray := prog_3_method_2_code
def yX1_codes : MethodName := ⟨RX1, "codes", "()I"⟩
abbrev cX1_changes : ByteArray := prog_3_method_3_code
def yX1_changes : MethodName := ⟨RX1, "changes", "()I"⟩
abbrev cX1_beginning : ByteArray := prog_3_method_4_code
def yX1_beginning : MethodName := ⟨RX1, "beginning", "()I"⟩
abbrev cX1_identity : ByteArray := prog_3_method_5_code
def yX1_identity : MethodName := ⟨RX1, "identity", "()I"⟩
abbrev cX1_plain : ByteArray := prog_3_method_6_code
def yX1_plain : MethodName := ⟨RX1, "plain", "(I)I"⟩
abbrev cX1_wrapped : ByteArray := prog_3_method_7_code
def yX1_wrapped : MethodName := ⟨RX1, "wrapped", "(III)I"⟩
abbrev cX1_alone : ByteArray := prog_3_method_8_code
def yX1_alone : MethodName := ⟨RX1, "alone", "(II)I"⟩
abbrev cX1_takenByOne : ByteArray := prog_3_method_9_code
def yX1_takenByOne : MethodName := ⟨RX1, "takenByOne", "()J"⟩
abbrev cX1_takenByOther : ByteArray := prog_3_method_10_code
def yX1_takenByOther : MethodName := ⟨RX1, "takenByOther", "()J"⟩
abbrev cX1_image : ByteArray := prog_3_method_11_code
def yX1_image : MethodName := ⟨RX1, "image", "(II)I"⟩
abbrev cX1_then : ByteArray := prog_3_method_12_code
def yX1_then : MethodName := ⟨RX1, "then", "(II)I"⟩
abbrev cX1_joinedCode : ByteArray := prog_3_method_13_code
def yX1_joinedCode : MethodName := ⟨RX1, "joinedCode", "(II)I"⟩
abbrev cX1_joinedPair : ByteArray := prog_3_method_14_code
def yX1_joinedPair : MethodName := ⟨RX1, "joinedPair", "(II)I"⟩
def RX2 : String := "NestReaders$Lengths"
def TX2 : u_T := fun k => match k with
  | 0 => ("NestReaders$Lengths", "places", "LNestReaders$Places;", true)
  | 1 => ("NestReaders$Lengths", "whole", "[I", true)
  | 2 => ("NestReaders$Lengths", "step", "[I", true)
  | 3 => ("NestReaders$Lengths", "ground", "[I", true)
  | 4 => ("NestReaders$Lengths", "above", "[I", true)
  | 5 => ("NestReaders$Lengths", "edition", "I", false)
  | _ => ("NestReaders$Lengths", "changed", "Z", false)
def tyX2 : Nat → FieldType := fun k => match k with
  | 0 => .object "NestReaders$Places"
  | 1 => .array .int
  | 2 => .array .int
  | 3 => .array .int
  | 4 => .array .int
  | 5 => .int
  | _ => .boolean
abbrev wsX20 : List Cond := u_ws RX2 TX2 7
theorem nmX2 : ∀ a, a < 7 → ∀ b, b < 7 → a ≠ b → (TX2 a).2.1 ≠ (TX2 b).2.1 := by decide +kernel
theorem tyX2_ok : ∀ k, k < 7 → parseFieldDescriptor (TX2 k).2.2.1 = some (tyX2 k) := by decide +kernel
abbrev cX2_init : ByteArray := prog_4_method_1_code
def yX2_init : MethodName := ⟨RX2, "<init>", "(LNestReaders$Places;)V"⟩
abbrev cX2_least : ByteArray := prog_4_method_2_code
def yX2_least : MethodName := ⟨RX2, "least", "(J)I"⟩
abbrev cX2_refresh : ByteArray := prog_4_method_3_code
def yX2_refresh : MethodName := ⟨RX2, "refresh", "()V"⟩
abbrev cX2_setAllFar : ByteArray := prog_4_method_4_code
def yX2_setAllFar : MethodName := ⟨RX2, "setAllFar", "()V"⟩
abbrev cX2_shortenWholes : ByteArray := prog_4_method_5_code
def yX2_shortenWholes : MethodName := ⟨RX2, "shortenWholes", "(LNestReaders$Wholes;)V"⟩
abbrev cX2_shortenCodes : ByteArray := prog_4_method_6_code
def yX2_shortenCodes : MethodName := ⟨RX2, "shortenCodes", "(LNestReaders$Wholes;)V"⟩
abbrev cX2_shorten : ByteArray := prog_4_method_7_code
def yX2_shorten : MethodName := ⟨RX2, "shorten", "([III)V"⟩
def RX3 : String := "NestReaders$Listing"
def TX3 : u_T := fun k => match k with
  | 0 => ("NestReaders$Listing", "reader", "LNestReaders$Reader;", true)
  | 1 => ("NestReaders$Listing", "row", "LNestReaders$Row;", true)
  | 2 => ("NestReaders$Listing", "walk", "LNestReaders$Walk;", true)
  | 3 => ("NestReaders$Listing", "words", "[J", true)
  | 4 => ("NestReaders$Listing", "listed", "[Z", true)
  | _ => ("NestReaders$Listing", "seen", "I", false)
def tyX3 : Nat → FieldType := fun k => match k with
  | 0 => .object "NestReaders$Reader"
  | 1 => .object "NestReaders$Row"
  | 2 => .object "NestReaders$Walk"
  | 3 => .array .long
  | 4 => .array .boolean
  | _ => .int
abbrev wsX30 : List Cond := u_ws RX3 TX3 6
theorem nmX3 : ∀ a, a < 6 → ∀ b, b < 6 → a ≠ b → (TX3 a).2.1 ≠ (TX3 b).2.1 := by decide +kernel
theorem tyX3_ok : ∀ k, k < 6 → parseFieldDescriptor (TX3 k).2.2.1 = some (tyX3 k) := by decide +kernel
abbrev cX3_init : ByteArray := prog_5_method_1_code
def yX3_init : MethodName := ⟨RX3, "<init>", "(LNestReaders$Reader;)V"⟩
abbrev cX3_letterAt : ByteArray := prog_5_method_2_code
def yX3_letterAt : MethodName := ⟨RX3, "letterAt", "(III)I"⟩
abbrev cX3_forgetIfChanged : ByteArray := prog_5_method_3_code
def yX3_forgetIfChanged : MethodName := ⟨RX3, "forgetIfChanged", "()V"⟩
abbrev cX3_grow : ByteArray := prog_5_method_4_code
def yX3_grow : MethodName := ⟨RX3, "grow", "(LNestReaders$Listing;III)V"⟩
abbrev cX3_keep : ByteArray := prog_5_method_5_code
def yX3_keep : MethodName := ⟨RX3, "keep", "(II)V"⟩
abbrev cX3_numberOf : ByteArray := prog_5_method_6_code
def yX3_numberOf : MethodName := ⟨RX3, "numberOf", "(II)I"⟩
abbrev cX3_placeOf : ByteArray := prog_5_method_7_code
def yX3_placeOf : MethodName := ⟨RX3, "placeOf", "(JI)I"⟩
def RX4 : String := "NestReaders$Places"
def TX4 : u_T := fun k => match k with
  | 0 => ("NestReaders$Places", "held", "LNestReaders$Held;", true)
  | 1 => ("NestReaders$Places", "wholes", "LNestReaders$Wholes;", true)
  | 2 => ("NestReaders$Places", "images", "[I", true)
  | 3 => ("NestReaders$Places", "spreads", "[J", true)
  | 4 => ("NestReaders$Places", "filled", "J", false)
  | 5 => ("NestReaders$Places", "codes", "J", false)
  | 6 => ("NestReaders$Places", "size", "I", false)
  | 7 => ("NestReaders$Places", "edition", "I", false)
  | _ => ("NestReaders$Places", "seen", "I", false)
def tyX4 : Nat → FieldType := fun k => match k with
  | 0 => .object "NestReaders$Held"
  | 1 => .object "NestReaders$Wholes"
  | 2 => .array .int
  | 3 => .array .long
  | 4 => .long
  | 5 => .long
  | 6 => .int
  | 7 => .int
  | _ => .int
abbrev wsX40 : List Cond := u_ws RX4 TX4 9
theorem nmX4 : ∀ a, a < 9 → ∀ b, b < 9 → a ≠ b → (TX4 a).2.1 ≠ (TX4 b).2.1 := by decide +kernel
theorem tyX4_ok : ∀ k, k < 9 → parseFieldDescriptor (TX4 k).2.2.1 = some (tyX4 k) := by decide +kernel
abbrev cX4_init : ByteArray := prog_6_method_1_code
def yX4_init : MethodName := ⟨RX4, "<init>", "(LNestReaders$Held;)V"⟩
abbrev cX4_held : ByteArray := prog_6_method_2_code
def yX4_held : MethodName := ⟨RX4, "held", "()LNestReaders$Held;"⟩
abbrev cX4_wholes : ByteArray := prog_6_method_3_code
def yX4_wholes : MethodName := ⟨RX4, "wholes", "()LNestReaders$Wholes;"⟩
abbrev cX4_edition : ByteArray := prog_6_method_4_code
def yX4_edition : MethodName := ⟨RX4, "edition", "()I"⟩
abbrev cX4_size : ByteArray := prog_6_method_5_code
def yX4_size : MethodName := ⟨RX4, "size", "()I"⟩
abbrev cX4_codes : ByteArray := prog_6_method_6_code
def yX4_codes : MethodName := ⟨RX4, "codes", "()J"⟩
abbrev cX4_areSpent : ByteArray := prog_6_method_7_code
def yX4_areSpent : MethodName := ⟨RX4, "areSpent", "()Z"⟩
abbrev cX4_image : ByteArray := prog_6_method_8_code
def yX4_image : MethodName := ⟨RX4, "image", "(II)I"⟩
abbrev cX4_codesAhead : ByteArray := prog_6_method_9_code
def yX4_codesAhead : MethodName := ⟨RX4, "codesAhead", "(LNestReaders$Walk;LNestReaders$Row;I)J"⟩
abbrev cX4_sizeFrom : ByteArray := prog_6_method_10_code
def yX4_sizeFrom : MethodName := ⟨RX4, "sizeFrom", "(J)I"⟩
abbrev cX4_reached : ByteArray := prog_6_method_11_code
def yX4_reached : MethodName := ⟨RX4, "reached", "(JI)J"⟩
abbrev cX4_alone : ByteArray := prog_6_method_12_code
def yX4_alone : MethodName := ⟨RX4, "alone", "(JI)J"⟩
abbrev cX4_spread : ByteArray := prog_6_method_13_code
def yX4_spread : MethodName := ⟨RX4, "spread", "(J)J"⟩
abbrev cX4_codesFrom : ByteArray := prog_6_method_14_code
def yX4_codesFrom : MethodName := ⟨RX4, "codesFrom", "(IJ)J"⟩
abbrev cX4_closedAround : ByteArray := prog_6_method_15_code
def yX4_closedAround : MethodName := ⟨RX4, "closedAround", "(IIJ)J"⟩
abbrev cX4_fill : ByteArray := prog_6_method_16_code
def yX4_fill : MethodName := ⟨RX4, "fill", "(I)V"⟩
abbrev cX4_bit : ByteArray := prog_6_method_17_code
def yX4_bit : MethodName := ⟨RX4, "bit", "(I)J"⟩
def RX5 : String := "NestReaders$Reader"
def TX5 : u_T := fun k => match k with
  | 0 => ("NestReaders$Reader", "ways", "[I", true)
  | 1 => ("NestReaders$Reader", "states", "I", false)
  | 2 => ("NestReaders$Reader", "marks", "I", false)
  | 3 => ("NestReaders$Reader", "takes", "I", false)
  | _ => ("NestReaders$Reader", "changes", "I", false)
def tyX5 : Nat → FieldType := fun k => match k with
  | 0 => .array .int
  | 1 => .int
  | 2 => .int
  | 3 => .int
  | _ => .int
abbrev wsX50 : List Cond := u_ws RX5 TX5 5
theorem nmX5 : ∀ a, a < 5 → ∀ b, b < 5 → a ≠ b → (TX5 a).2.1 ≠ (TX5 b).2.1 := by decide +kernel
theorem tyX5_ok : ∀ k, k < 5 → parseFieldDescriptor (TX5 k).2.2.1 = some (tyX5 k) := by decide +kernel
abbrev cX5_init : ByteArray := prog_7_method_1_code
def yX5_init : MethodName := ⟨RX5, "<init>", "()V"⟩
abbrev cX5_become : ByteArray := prog_7_method_2_code
def yX5_become : MethodName := ⟨RX5, "become", "(III)V"⟩
abbrev cX5_changes : ByteArray := prog_7_method_3_code
def yX5_changes : MethodName := ⟨RX5, "changes", "()I"⟩
abbrev cX5_isState : ByteArray := prog_7_method_4_code
def yX5_isState : MethodName := ⟨RX5, "isState", "(I)Z"⟩
abbrev cX5_isMark : ByteArray := prog_7_method_5_code
def yX5_isMark : MethodName := ⟨RX5, "isMark", "(I)Z"⟩
abbrev cX5_knows : ByteArray := prog_7_method_6_code
def yX5_knows : MethodName := ⟨RX5, "knows", "(IIII)Z"⟩
abbrev cX5_holds : ByteArray := prog_7_method_7_code
def yX5_holds : MethodName := ⟨RX5, "holds", "(IIII)Z"⟩
abbrev cX5_add : ByteArray := prog_7_method_8_code
def yX5_add : MethodName := ⟨RX5, "add", "(IIII)V"⟩
abbrev cX5_remove : ByteArray := prog_7_method_9_code
def yX5_remove : MethodName := ⟨RX5, "remove", "(IIII)V"⟩
abbrev cX5_moveCount : ByteArray := prog_7_method_10_code
def yX5_moveCount : MethodName := ⟨RX5, "moveCount", "()I"⟩
abbrev cX5_takesAny : ByteArray := prog_7_method_11_code
def yX5_takesAny : MethodName := ⟨RX5, "takesAny", "(I)Z"⟩
abbrev cX5_way : ByteArray := prog_7_method_12_code
def yX5_way : MethodName := ⟨RX5, "way", "(II)I"⟩
abbrev cX5_alone : ByteArray := prog_7_method_13_code
def yX5_alone : MethodName := ⟨RX5, "alone", "(I)I"⟩
abbrev cX5_identity : ByteArray := prog_7_method_14_code
def yX5_identity : MethodName := ⟨RX5, "identity", "()I"⟩
abbrev cX5_wrapped : ByteArray := prog_7_method_15_code
def yX5_wrapped : MethodName := ⟨RX5, "wrapped", "(III)I"⟩
abbrev cX5_opens : ByteArray := prog_7_method_16_code
def yX5_opens : MethodName := ⟨RX5, "opens", "(I)Z"⟩
abbrev cX5_isPlain : ByteArray := prog_7_method_17_code
def yX5_isPlain : MethodName := ⟨RX5, "isPlain", "(I)Z"⟩
abbrev cX5_closes : ByteArray := prog_7_method_18_code
def yX5_closes : MethodName := ⟨RX5, "closes", "(I)Z"⟩
abbrev cX5_pair : ByteArray := prog_7_method_19_code
def yX5_pair : MethodName := ⟨RX5, "pair", "(II)I"⟩
abbrev cX5_image : ByteArray := prog_7_method_20_code
def yX5_image : MethodName := ⟨RX5, "image", "(II)I"⟩
abbrev cX5_then : ByteArray := prog_7_method_21_code
def yX5_then : MethodName := ⟨RX5, "then", "(II)I"⟩
abbrev cX5_slot : ByteArray := prog_7_method_22_code
def yX5_slot : MethodName := ⟨RX5, "slot", "(II)I"⟩
def RX6 : String := "NestReaders$Row"
def TX6 : u_T := fun k => match k with
  | 0 => ("NestReaders$Row", "letters", "[I", true)
  | 1 => ("NestReaders$Row", "base", "[I", true)
  | _ => ("NestReaders$Row", "size", "I", false)
def tyX6 : Nat → FieldType := fun k => match k with
  | 0 => .array .int
  | 1 => .array .int
  | _ => .int
abbrev wsX60 : List Cond := u_ws RX6 TX6 3
theorem nmX6 : ∀ a, a < 3 → ∀ b, b < 3 → a ≠ b → (TX6 a).2.1 ≠ (TX6 b).2.1 := by decide +kernel
theorem tyX6_ok : ∀ k, k < 3 → parseFieldDescriptor (TX6 k).2.2.1 = some (tyX6 k) := by decide +kernel
abbrev cX6_init : ByteArray := prog_8_method_1_code
def yX6_init : MethodName := ⟨RX6, "<init>", "()V"⟩
abbrev cX6_size : ByteArray := prog_8_method_2_code
def yX6_size : MethodName := ⟨RX6, "size", "()I"⟩
abbrev cX6_cut : ByteArray := prog_8_method_3_code
def yX6_cut : MethodName := ⟨RX6, "cut", "(I)V"⟩
abbrev cX6_append : ByteArray := prog_8_method_4_code
def yX6_append : MethodName := ⟨RX6, "append", "(I)V"⟩
abbrev cX6_letterAt : ByteArray := prog_8_method_5_code
def yX6_letterAt : MethodName := ⟨RX6, "letterAt", "(I)I"⟩
abbrev cX6_baseAt : ByteArray := prog_8_method_6_code
def yX6_baseAt : MethodName := ⟨RX6, "baseAt", "(I)I"⟩
abbrev cX6_openAt : ByteArray := prog_8_method_7_code
def yX6_openAt : MethodName := ⟨RX6, "openAt", "(I)I"⟩
abbrev cX6_isWhole : ByteArray := prog_8_method_8_code
def yX6_isWhole : MethodName := ⟨RX6, "isWhole", "()Z"⟩
abbrev cX6_depthBehind : ByteArray := prog_8_method_9_code
def yX6_depthBehind : MethodName := ⟨RX6, "depthBehind", "(I)I"⟩
abbrev cX6_partnerOf : ByteArray := prog_8_method_10_code
def yX6_partnerOf : MethodName := ⟨RX6, "partnerOf", "(I)I"⟩
def RX7 : String := "NestReaders$RunCount"
def TX7 : u_T := fun k => match k with
  | 0 => ("NestReaders$RunCount", "come", "[J", true)
  | 1 => ("NestReaders$RunCount", "since", "[J", true)
  | 2 => ("NestReaders$RunCount", "factor", "[J", true)
  | _ => ("NestReaders$RunCount", "half", "[J", true)
def tyX7 : Nat → FieldType := fun k => match k with
  | 0 => .array .long
  | 1 => .array .long
  | 2 => .array .long
  | _ => .array .long
abbrev wsX70 : List Cond := u_ws RX7 TX7 4
theorem nmX7 : ∀ a, a < 4 → ∀ b, b < 4 → a ≠ b → (TX7 a).2.1 ≠ (TX7 b).2.1 := by decide +kernel
theorem tyX7_ok : ∀ k, k < 4 → parseFieldDescriptor (TX7 k).2.2.1 = some (tyX7 k) := by decide +kernel
abbrev cX7_init : ByteArray := prog_9_method_1_code
def yX7_init : MethodName := ⟨RX7, "<init>", "()V"⟩
abbrev cX7_runs : ByteArray := prog_9_method_2_code
def yX7_runs : MethodName := ⟨RX7, "runs", "(LNestReaders$Reader;LNestReaders$Row;I)I"⟩
abbrev cX7_step : ByteArray := prog_9_method_3_code
def yX7_step : MethodName := ⟨RX7, "step", "(LNestReaders$Reader;LNestReaders$Row;I)V"⟩
abbrev cX7_beginSince : ByteArray := prog_9_method_4_code
def yX7_beginSince : MethodName := ⟨RX7, "beginSince", "(I)V"⟩
abbrev cX7_addWay : ByteArray := prog_9_method_5_code
def yX7_addWay : MethodName := ⟨RX7, "addWay", "(I)V"⟩
abbrev cX7_addWrapped : ByteArray := prog_9_method_6_code
def yX7_addWrapped : MethodName := ⟨RX7, "addWrapped", "(III)V"⟩
abbrev cX7_goOn : ByteArray := prog_9_method_7_code
def yX7_goOn : MethodName := ⟨RX7, "goOn", "(II)V"⟩
abbrev cX7_times : ByteArray := prog_9_method_8_code
def yX7_times : MethodName := ⟨RX7, "times", "([JIII)V"⟩
abbrev cX7_clear : ByteArray := prog_9_method_9_code
def yX7_clear : MethodName := ⟨RX7, "clear", "([J)V"⟩
def RX8 : String := "NestReaders$Text"
def TX8 : u_T := fun k => match k with
  | 0 => ("NestReaders$Text", "bytes", "[I", true)
  | 1 => ("NestReaders$Text", "size", "I", false)
  | 2 => ("NestReaders$Text", "start", "I", false)
  | 3 => ("NestReaders$Text", "behind", "I", false)
  | 4 => ("NestReaders$Text", "from", "I", false)
  | 5 => ("NestReaders$Text", "letter", "I", false)
  | 6 => ("NestReaders$Text", "mark", "I", false)
  | _ => ("NestReaders$Text", "to", "I", false)
def tyX8 : Nat → FieldType := fun k => match k with
  | 0 => .array .int
  | 1 => .int
  | 2 => .int
  | 3 => .int
  | 4 => .int
  | 5 => .int
  | 6 => .int
  | _ => .int
abbrev wsX80 : List Cond := u_ws RX8 TX8 8
theorem nmX8 : ∀ a, a < 8 → ∀ b, b < 8 → a ≠ b → (TX8 a).2.1 ≠ (TX8 b).2.1 := by decide +kernel
theorem tyX8_ok : ∀ k, k < 8 → parseFieldDescriptor (TX8 k).2.2.1 = some (tyX8 k) := by decide +kernel
abbrev cX8_init : ByteArray := prog_10_method_1_code
def yX8_init : MethodName := ⟨RX8, "<init>", "()V"⟩
abbrev cX8_size : ByteArray := prog_10_method_2_code
def yX8_size : MethodName := ⟨RX8, "size", "()I"⟩
abbrev cX8_empty : ByteArray := prog_10_method_3_code
def yX8_empty : MethodName := ⟨RX8, "empty", "()V"⟩
abbrev cX8_append : ByteArray := prog_10_method_4_code
def yX8_append : MethodName := ⟨RX8, "append", "(I)V"⟩
abbrev cX8_faultFor : ByteArray := prog_10_method_5_code
def yX8_faultFor : MethodName := ⟨RX8, "faultFor", "(LNestReaders$Reader;Z)I"⟩
abbrev cX8_readMove : ByteArray := prog_10_method_6_code
def yX8_readMove : MethodName := ⟨RX8, "readMove", "(LNestReaders$Reader;)Z"⟩
abbrev cX8_readMark : ByteArray := prog_10_method_7_code
def yX8_readMark : MethodName := ⟨RX8, "readMark", "(LNestReaders$Reader;Z)Z"⟩
abbrev cX8_pass : ByteArray := prog_10_method_8_code
def yX8_pass : MethodName := ⟨RX8, "pass", "(Z)Z"⟩
abbrev cX8_step : ByteArray := prog_10_method_9_code
def yX8_step : MethodName := ⟨RX8, "step", "()V"⟩
abbrev cX8_head : ByteArray := prog_10_method_10_code
def yX8_head : MethodName := ⟨RX8, "head", "()I"⟩
abbrev cX8_digit : ByteArray := prog_10_method_11_code
def yX8_digit : MethodName := ⟨RX8, "digit", "()I"⟩
abbrev cX8_isWord : ByteArray := prog_10_method_12_code
def yX8_isWord : MethodName := ⟨RX8, "isWord", "(Ljava/lang/String;)Z"⟩
abbrev cX8_kindOf : ByteArray := prog_10_method_13_code
def yX8_kindOf : MethodName := ⟨RX8, "kindOf", "(I)I"⟩
abbrev cX8_byteAt : ByteArray := prog_10_method_14_code
def yX8_byteAt : MethodName := ⟨RX8, "byteAt", "(I)I"⟩
def RX9 : String := "NestReaders$Walk"
def TX9 : u_T := fun k => match k with
  | 0 => ("NestReaders$Walk", "come", "[I", true)
  | 1 => ("NestReaders$Walk", "since", "[I", true)
  | _ => ("NestReaders$Walk", "same", "I", false)
def tyX9 : Nat → FieldType := fun k => match k with
  | 0 => .array .int
  | 1 => .array .int
  | _ => .int
abbrev wsX90 : List Cond := u_ws RX9 TX9 3
theorem nmX9 : ∀ a, a < 3 → ∀ b, b < 3 → a ≠ b → (TX9 a).2.1 ≠ (TX9 b).2.1 := by decide +kernel
theorem tyX9_ok : ∀ k, k < 3 → parseFieldDescriptor (TX9 k).2.2.1 = some (tyX9 k) := by decide +kernel
abbrev cX9_init : ByteArray := prog_11_method_1_code
def yX9_init : MethodName := ⟨RX9, "<init>", "()V"⟩
abbrev cX9_comeAt : ByteArray := prog_11_method_2_code
def yX9_comeAt : MethodName := ⟨RX9, "comeAt", "(I)I"⟩
abbrev cX9_sinceAt : ByteArray := prog_11_method_3_code
def yX9_sinceAt : MethodName := ⟨RX9, "sinceAt", "(I)I"⟩
abbrev cX9_begin : ByteArray := prog_11_method_4_code
def yX9_begin : MethodName := ⟨RX9, "begin", "(LNestReaders$Reader;)V"⟩
abbrev cX9_follow : ByteArray := prog_11_method_5_code
def yX9_follow : MethodName := ⟨RX9, "follow", "(LNestReaders$Reader;LNestReaders$Row;I)V"⟩
abbrev cX9_step : ByteArray := prog_11_method_6_code
def yX9_step : MethodName := ⟨RX9, "step", "(LNestReaders$Reader;LNestReaders$Row;I)V"⟩
abbrev cX9_goOn : ByteArray := prog_11_method_7_code
def yX9_goOn : MethodName := ⟨RX9, "goOn", "(III)V"⟩
def RX10 : String := "NestReaders$Wholes"
def TX10 : u_T := fun k => match k with
  | 0 => ("NestReaders$Wholes", "held", "LNestReaders$Held;", true)
  | 1 => ("NestReaders$Wholes", "pairs", "[I", true)
  | 2 => ("NestReaders$Wholes", "stepOf", "[I", true)
  | 3 => ("NestReaders$Wholes", "wholeOf", "[I", true)
  | 4 => ("NestReaders$Wholes", "next", "[I", true)
  | 5 => ("NestReaders$Wholes", "around", "[I", true)
  | 6 => ("NestReaders$Wholes", "plain", "[I", true)
  | 7 => ("NestReaders$Wholes", "slots", "[I", true)
  | 8 => ("NestReaders$Wholes", "size", "I", false)
  | 9 => ("NestReaders$Wholes", "steps", "I", false)
  | _ => ("NestReaders$Wholes", "spent", "Z", false)
def tyX10 : Nat → FieldType := fun k => match k with
  | 0 => .object "NestReaders$Held"
  | 1 => .array .int
  | 2 => .array .int
  | 3 => .array .int
  | 4 => .array .int
  | 5 => .array .int
  | 6 => .array .int
  | 7 => .array .int
  | 8 => .int
  | 9 => .int
  | _ => .boolean
abbrev wsX100 : List Cond := u_ws RX10 TX10 11
theorem nmX10 : ∀ a, a < 11 → ∀ b, b < 11 → a ≠ b → (TX10 a).2.1 ≠ (TX10 b).2.1 := by decide +kernel
theorem tyX10_ok : ∀ k, k < 11 → parseFieldDescriptor (TX10 k).2.2.1 = some (tyX10 k) := by decide +kernel
abbrev cX10_init : ByteArray := prog_12_method_1_code
def yX10_init : MethodName := ⟨RX10, "<init>", "(LNestReaders$Held;)V"⟩
abbrev cX10_areSpent : ByteArray := prog_12_method_2_code
def yX10_areSpent : MethodName := ⟨RX10, "areSpent", "()Z"⟩
abbrev cX10_size : ByteArray := prog_12_method_3_code
def yX10_size : MethodName := ⟨RX10, "size", "()I"⟩
abbrev cX10_steps : ByteArray := prog_12_method_4_code
def yX10_steps : MethodName := ⟨RX10, "steps", "()I"⟩
abbrev cX10_pairAt : ByteArray := prog_12_method_5_code
def yX10_pairAt : MethodName := ⟨RX10, "pairAt", "(I)I"⟩
abbrev cX10_wholeOfStep : ByteArray := prog_12_method_6_code
def yX10_wholeOfStep : MethodName := ⟨RX10, "wholeOfStep", "(I)I"⟩
abbrev cX10_after : ByteArray := prog_12_method_7_code
def yX10_after : MethodName := ⟨RX10, "after", "(II)I"⟩
abbrev cX10_stepAround : ByteArray := prog_12_method_8_code
def yX10_stepAround : MethodName := ⟨RX10, "stepAround", "(II)I"⟩
abbrev cX10_stepOfPlain : ByteArray := prog_12_method_9_code
def yX10_stepOfPlain : MethodName := ⟨RX10, "stepOfPlain", "(I)I"⟩
abbrev cX10_build : ByteArray := prog_12_method_10_code
def yX10_build : MethodName := ⟨RX10, "build", "()V"⟩
abbrev cX10_reached : ByteArray := prog_12_method_11_code
def yX10_reached : MethodName := ⟨RX10, "reached", "(J)J"⟩
abbrev cX10_find : ByteArray := prog_12_method_12_code
def yX10_find : MethodName := ⟨RX10, "find", "(I)I"⟩
abbrev cX10_followers : ByteArray := prog_12_method_13_code
def yX10_followers : MethodName := ⟨RX10, "followers", "(I)J"⟩
abbrev cX10_link : ByteArray := prog_12_method_14_code
def yX10_link : MethodName := ⟨RX10, "link", "(II)V"⟩
abbrev cX10_stepFor : ByteArray := prog_12_method_15_code
def yX10_stepFor : MethodName := ⟨RX10, "stepFor", "(I)I"⟩
abbrev cX10_numberOf : ByteArray := prog_12_method_16_code
def yX10_numberOf : MethodName := ⟨RX10, "numberOf", "(I)I"⟩
abbrev cX10_slotOf : ByteArray := prog_12_method_17_code
def yX10_slotOf : MethodName := ⟨RX10, "slotOf", "(I)I"⟩
def RX11 : String := "NestReaders"
def TX11 : u_T := fun k => match k with
  | 0 => ("NestReaders", "left", "LNestReaders$Reader;", true)
  | 1 => ("NestReaders", "right", "LNestReaders$Reader;", true)
  | 2 => ("NestReaders", "text", "LNestReaders$Text;", true)
  | 3 => ("NestReaders", "row", "LNestReaders$Row;", true)
  | 4 => ("NestReaders", "walk", "LNestReaders$Walk;", true)
  | 5 => ("NestReaders", "runCount", "LNestReaders$RunCount;", true)
  | 6 => ("NestReaders", "leftPlaces", "LNestReaders$Places;", true)
  | 7 => ("NestReaders", "rightPlaces", "LNestReaders$Places;", true)
  | 8 => ("NestReaders", "bothPlaces", "LNestReaders$Places;", true)
  | 9 => ("NestReaders", "leftLengths", "LNestReaders$Lengths;", true)
  | 10 => ("NestReaders", "rightLengths", "LNestReaders$Lengths;", true)
  | 11 => ("NestReaders", "bothLengths", "LNestReaders$Lengths;", true)
  | 12 => ("NestReaders", "leftCounts", "LNestReaders$Counts;", true)
  | 13 => ("NestReaders", "rightCounts", "LNestReaders$Counts;", true)
  | 14 => ("NestReaders", "leftListing", "LNestReaders$Listing;", true)
  | _ => ("NestReaders", "rightListing", "LNestReaders$Listing;", true)
def tyX11 : Nat → FieldType := fun k => match k with
  | 0 => .object "NestReaders$Reader"
  | 1 => .object "NestReaders$Reader"
  | 2 => .object "NestReaders$Text"
  | 3 => .object "NestReaders$Row"
  | 4 => .object "NestReaders$Walk"
  | 5 => .object "NestReaders$RunCount"
  | 6 => .object "NestReaders$Places"
  | 7 => .object "NestReaders$Places"
  | 8 => .object "NestReaders$Places"
  | 9 => .object "NestReaders$Lengths"
  | 10 => .object "NestReaders$Lengths"
  | 11 => .object "NestReaders$Lengths"
  | 12 => .object "NestReaders$Counts"
  | 13 => .object "NestReaders$Counts"
  | 14 => .object "NestReaders$Listing"
  | _ => .object "NestReaders$Listing"
abbrev wsX110 : List Cond := u_ws RX11 TX11 16
theorem nmX11 : ∀ a, a < 16 → ∀ b, b < 16 → a ≠ b → (TX11 a).2.1 ≠ (TX11 b).2.1 := by decide +kernel
theorem tyX11_ok : ∀ k, k < 16 → parseFieldDescriptor (TX11 k).2.2.1 = some (tyX11 k) := by decide +kernel
abbrev cX11_init : ByteArray := prog_1_method_1_code
def yX11_init : MethodName := ⟨RX11, "<init>", "()V"⟩
abbrev cX11_reader : ByteArray := prog_1_method_2_code
def yX11_reader : MethodName := ⟨RX11, "reader", "(IIII)I"⟩
abbrev cX11_write : ByteArray := prog_1_method_3_code
def yX11_write : MethodName := ⟨RX11, "write", "(JI)I"⟩
abbrev cX11_erase : ByteArray := prog_1_method_4_code
def yX11_erase : MethodName := ⟨RX11, "erase", "()I"⟩
abbrev cX11_fault : ByteArray := prog_1_method_5_code
def yX11_fault : MethodName := ⟨RX11, "fault", "(I)I"⟩
abbrev cX11_moves : ByteArray := prog_1_method_6_code
def yX11_moves : MethodName := ⟨RX11, "moves", "(I)I"⟩
abbrev cX11_has : ByteArray := prog_1_method_7_code
def yX11_has : MethodName := ⟨RX11, "has", "(IIIII)I"⟩
abbrev cX11_drop : ByteArray := prog_1_method_8_code
def yX11_drop : MethodName := ⟨RX11, "drop", "(IIIII)I"⟩
abbrev cX11_letter : ByteArray := prog_1_method_9_code
def yX11_letter : MethodName := ⟨RX11, "letter", "(I)I"⟩
abbrev cX11_row : ByteArray := prog_1_method_10_code
def yX11_row : MethodName := ⟨RX11, "row", "(JI)I"⟩
abbrev cX11_partner : ByteArray := prog_1_method_11_code
def yX11_partner : MethodName := ⟨RX11, "partner", "(I)I"⟩
abbrev cX11_depth : ByteArray := prog_1_method_12_code
def yX11_depth : MethodName := ⟨RX11, "depth", "(I)I"⟩
abbrev cX11_run : ByteArray := prog_1_method_13_code
def yX11_run : MethodName := ⟨RX11, "run", "(III)I"⟩
abbrev cX11_between : ByteArray := prog_1_method_14_code
def yX11_between : MethodName := ⟨RX11, "between", "(I)I"⟩
abbrev cX11_places : ByteArray := prog_1_method_15_code
def yX11_places : MethodName := ⟨RX11, "places", "(I)I"⟩
abbrev cX11_alike : ByteArray := prog_1_method_16_code
def yX11_alike : MethodName := ⟨RX11, "alike", "(III)I"⟩
abbrev cX11_shortest : ByteArray := prog_1_method_17_code
def yX11_shortest : MethodName := ⟨RX11, "shortest", "(I)I"⟩
abbrev cX11_first : ByteArray := prog_1_method_18_code
def yX11_first : MethodName := ⟨RX11, "first", "(II)I"⟩
abbrev cX11_many : ByteArray := prog_1_method_19_code
def yX11_many : MethodName := ⟨RX11, "many", "(II)I"⟩
abbrev cX11_of : ByteArray := prog_1_method_20_code
def yX11_of : MethodName := ⟨RX11, "of", "(IIII)I"⟩
abbrev cX11_watch : ByteArray := prog_1_method_21_code
def yX11_watch : MethodName := ⟨RX11, "watch", "(II)I"⟩
abbrev cX11_compare : ByteArray := prog_1_method_22_code
def yX11_compare : MethodName := ⟨RX11, "compare", "(I)I"⟩
abbrev cX11_parted : ByteArray := prog_1_method_23_code
def yX11_parted : MethodName := ⟨RX11, "parted", "()I"⟩
abbrev cX11_both : ByteArray := prog_1_method_24_code
def yX11_both : MethodName := ⟨RX11, "both", "()I"⟩
abbrev cX11_count : ByteArray := prog_1_method_25_code
def yX11_count : MethodName := ⟨RX11, "count", "(I)I"⟩
abbrev cX11_codesAgainst : ByteArray := prog_1_method_26_code
def yX11_codesAgainst : MethodName := ⟨RX11, "codesAgainst", "(IJJ)J"⟩
abbrev cX11_letterOf : ByteArray := prog_1_method_27_code
def yX11_letterOf : MethodName := ⟨RX11, "letterOf", "(JI)I"⟩
abbrev cX11_isReader : ByteArray := prog_1_method_28_code
def yX11_isReader : MethodName := ⟨RX11, "isReader", "(I)Z"⟩
abbrev cX11_isBehind : ByteArray := prog_1_method_29_code
def yX11_isBehind : MethodName := ⟨RX11, "isBehind", "(I)Z"⟩
abbrev cX11_chosen : ByteArray := prog_1_method_30_code
def yX11_chosen : MethodName := ⟨RX11, "chosen", "(I)LNestReaders$Reader;"⟩
abbrev cX11_placesOf : ByteArray := prog_1_method_31_code
def yX11_placesOf : MethodName := ⟨RX11, "placesOf", "(I)LNestReaders$Places;"⟩
abbrev cX11_lengthsOf : ByteArray := prog_1_method_32_code
def yX11_lengthsOf : MethodName := ⟨RX11, "lengthsOf", "(I)LNestReaders$Lengths;"⟩
abbrev cX11_listingOf : ByteArray := prog_1_method_33_code
def yX11_listingOf : MethodName := ⟨RX11, "listingOf", "(I)LNestReaders$Listing;"⟩
abbrev cX11_isAtOnePlace : ByteArray := prog_1_method_34_code
def yX11_isAtOnePlace : MethodName := ⟨RX11, "isAtOnePlace", "(LNestReaders$Reader;II)Z"⟩
def RX12 : String := "NestReadersModel"
def TX12 : u_T := fun k => match k with
  | 0 => ("NestReadersModel", "states", "[I", true)
  | 1 => ("NestReadersModel", "markMany", "[I", true)
  | 2 => ("NestReadersModel", "takes", "[I", true)
  | 3 => ("NestReadersModel", "puts", "[I", true)
  | 4 => ("NestReadersModel", "goes", "[I", true)
  | 5 => ("NestReadersModel", "closes", "[I", true)
  | 6 => ("NestReadersModel", "bytes", "I", false)
  | 7 => ("NestReadersModel", "text", "[I", true)
  | 8 => ("NestReadersModel", "position", "I", false)
  | 9 => ("NestReadersModel", "tokenAt", "I", false)
  | 10 => ("NestReadersModel", "token", "J", false)
  | 11 => ("NestReadersModel", "digits", "I", false)
  | 12 => ("NestReadersModel", "number", "I", false)
  | 13 => ("NestReadersModel", "faultAt", "I", false)
  | 14 => ("NestReadersModel", "readMany", "I", false)
  | 15 => ("NestReadersModel", "read", "[I", true)
  | 16 => ("NestReadersModel", "size", "I", false)
  | 17 => ("NestReadersModel", "row", "[I", true)
  | 18 => ("NestReadersModel", "partner", "[I", true)
  | 19 => ("NestReadersModel", "some", "[I", true)
  | 20 => ("NestReadersModel", "stackCome", "[I", true)
  | 21 => ("NestReadersModel", "stackSince", "[I", true)
  | 22 => ("NestReadersModel", "stackLetter", "[I", true)
  | 23 => ("NestReadersModel", "stacked", "I", false)
  | 24 => ("NestReadersModel", "come", "I", false)
  | 25 => ("NestReadersModel", "since", "I", false)
  | 26 => ("NestReadersModel", "runs", "[J", true)
  | 27 => ("NestReadersModel", "ways", "[J", true)
  | 28 => ("NestReadersModel", "keptRuns", "[J", true)
  | 29 => ("NestReadersModel", "keptWays", "[J", true)
  | 30 => ("NestReadersModel", "rel", "[J", true)
  | 31 => ("NestReadersModel", "known", "I", false)
  | 32 => ("NestReadersModel", "isSpent", "Z", false)
  | 33 => ("NestReadersModel", "whole", "[I", true)
  | 34 => ("NestReadersModel", "wholeLong", "[I", true)
  | 35 => ("NestReadersModel", "wholes", "I", false)
  | 36 => ("NestReadersModel", "nodeCome", "[I", true)
  | 37 => ("NestReadersModel", "nodeSince", "[I", true)
  | 38 => ("NestReadersModel", "nodeDeep", "[Z", true)
  | 39 => ("NestReadersModel", "nodeLong", "[I", true)
  | 40 => ("NestReadersModel", "nodes", "I", false)
  | 41 => ("NestReadersModel", "places", "I", false)
  | 42 => ("NestReadersModel", "wholeMany", "[J", true)
  | 43 => ("NestReadersModel", "blockTo", "[I", true)
  | 44 => ("NestReadersModel", "nodeMany", "[J", true)
  | 45 => ("NestReadersModel", "listCome", "[I", true)
  | 46 => ("NestReadersModel", "listSince", "[I", true)
  | 47 => ("NestReadersModel", "listed", "I", false)
  | 48 => ("NestReadersModel", "nextCome", "[I", true)
  | 49 => ("NestReadersModel", "nextSince", "[I", true)
  | _ => ("NestReadersModel", "nexts", "I", false)
def tyX12 : Nat → FieldType := fun k => match k with
  | 0 => .array .int
  | 1 => .array .int
  | 2 => .array .int
  | 3 => .array .int
  | 4 => .array .int
  | 5 => .array .int
  | 6 => .int
  | 7 => .array .int
  | 8 => .int
  | 9 => .int
  | 10 => .long
  | 11 => .int
  | 12 => .int
  | 13 => .int
  | 14 => .int
  | 15 => .array .int
  | 16 => .int
  | 17 => .array .int
  | 18 => .array .int
  | 19 => .array .int
  | 20 => .array .int
  | 21 => .array .int
  | 22 => .array .int
  | 23 => .int
  | 24 => .int
  | 25 => .int
  | 26 => .array .long
  | 27 => .array .long
  | 28 => .array .long
  | 29 => .array .long
  | 30 => .array .long
  | 31 => .int
  | 32 => .boolean
  | 33 => .array .int
  | 34 => .array .int
  | 35 => .int
  | 36 => .array .int
  | 37 => .array .int
  | 38 => .array .boolean
  | 39 => .array .int
  | 40 => .int
  | 41 => .int
  | 42 => .array .long
  | 43 => .array .int
  | 44 => .array .long
  | 45 => .array .int
  | 46 => .array .int
  | 47 => .int
  | 48 => .array .int
  | 49 => .array .int
  | _ => .int
abbrev wsX120 : List Cond := u_ws RX12 TX12 51
theorem nmX12 : ∀ a, a < 51 → ∀ b, b < 51 → a ≠ b → (TX12 a).2.1 ≠ (TX12 b).2.1 := by decide +kernel
theorem tyX12_ok : ∀ k, k < 51 → parseFieldDescriptor (TX12 k).2.2.1 = some (tyX12 k) := by decide +kernel
abbrev cX12_init : ByteArray := prog_14_method_1_code
def yX12_init : MethodName := ⟨RX12, "<init>", "()V"⟩
abbrev cX12_in : ByteArray := prog_14_method_2_code
def yX12_in : MethodName := ⟨RX12, "in", "(III)Z"⟩
abbrev cX12_isReader : ByteArray := prog_14_method_3_code
def yX12_isReader : MethodName := ⟨RX12, "isReader", "(I)Z"⟩
abbrev cX12_putAt : ByteArray := prog_14_method_4_code
def yX12_putAt : MethodName := ⟨RX12, "putAt", "(IIII)I"⟩
abbrev cX12_goAt : ByteArray := prog_14_method_5_code
def yX12_goAt : MethodName := ⟨RX12, "goAt", "(III)I"⟩
abbrev cX12_closeAt : ByteArray := prog_14_method_6_code
def yX12_closeAt : MethodName := ⟨RX12, "closeAt", "(IIII)I"⟩
abbrev cX12_reader : ByteArray := prog_14_method_7_code
def yX12_reader : MethodName := ⟨RX12, "reader", "(IIII)I"⟩
abbrev cX12_write : ByteArray := prog_14_method_8_code
def yX12_write : MethodName := ⟨RX12, "write", "(JI)I"⟩
abbrev cX12_erase : ByteArray := prog_14_method_9_code
def yX12_erase : MethodName := ⟨RX12, "erase", "()I"⟩
abbrev cX12_nextToken : ByteArray := prog_14_method_10_code
def yX12_nextToken : MethodName := ⟨RX12, "nextToken", "()V"⟩
abbrev cX12_fails : ByteArray := prog_14_method_11_code
def yX12_fails : MethodName := ⟨RX12, "fails", "()Z"⟩
abbrev cX12_isNumber : ByteArray := prog_14_method_12_code
def yX12_isNumber : MethodName := ⟨RX12, "isNumber", "(II)Z"⟩
abbrev cX12_isWord : ByteArray := prog_14_method_13_code
def yX12_isWord : MethodName := ⟨RX12, "isWord", "(J)Z"⟩
abbrev cX12_isMove : ByteArray := prog_14_method_14_code
def yX12_isMove : MethodName := ⟨RX12, "isMove", "(II)Z"⟩
abbrev cX12_isRead : ByteArray := prog_14_method_15_code
def yX12_isRead : MethodName := ⟨RX12, "isRead", "(I)Z"⟩
abbrev cX12_fault : ByteArray := prog_14_method_16_code
def yX12_fault : MethodName := ⟨RX12, "fault", "(I)I"⟩
abbrev cX12_bits : ByteArray := prog_14_method_17_code
def yX12_bits : MethodName := ⟨RX12, "bits", "(I)I"⟩
abbrev cX12_movesOf : ByteArray := prog_14_method_18_code
def yX12_movesOf : MethodName := ⟨RX12, "movesOf", "(I)I"⟩
abbrev cX12_tos : ByteArray := prog_14_method_19_code
def yX12_tos : MethodName := ⟨RX12, "tos", "(IIII)I"⟩
abbrev cX12_tell : ByteArray := prog_14_method_20_code
def yX12_tell : MethodName := ⟨RX12, "tell", "(IIIII)V"⟩
abbrev cX12_moves : ByteArray := prog_14_method_21_code
def yX12_moves : MethodName := ⟨RX12, "moves", "(I)I"⟩
abbrev cX12_isTold : ByteArray := prog_14_method_22_code
def yX12_isTold : MethodName := ⟨RX12, "isTold", "(IIIII)Z"⟩
abbrev cX12_has : ByteArray := prog_14_method_23_code
def yX12_has : MethodName := ⟨RX12, "has", "(IIIII)I"⟩
abbrev cX12_drop : ByteArray := prog_14_method_24_code
def yX12_drop : MethodName := ⟨RX12, "drop", "(IIIII)I"⟩
abbrev cX12_letter : ByteArray := prog_14_method_25_code
def yX12_letter : MethodName := ⟨RX12, "letter", "(I)I"⟩
abbrev cX12_row : ByteArray := prog_14_method_26_code
def yX12_row : MethodName := ⟨RX12, "row", "(JI)I"⟩
abbrev cX12_findPartners : ByteArray := prog_14_method_27_code
def yX12_findPartners : MethodName := ⟨RX12, "findPartners", "(I)I"⟩
abbrev cX12_partner : ByteArray := prog_14_method_28_code
def yX12_partner : MethodName := ⟨RX12, "partner", "(I)I"⟩
abbrev cX12_depth : ByteArray := prog_14_method_29_code
def yX12_depth : MethodName := ⟨RX12, "depth", "(I)I"⟩
abbrev cX12_isOf : ByteArray := prog_14_method_30_code
def yX12_isOf : MethodName := ⟨RX12, "isOf", "(II)Z"⟩
abbrev cX12_itself : ByteArray := prog_14_method_31_code
def yX12_itself : MethodName := ⟨RX12, "itself", "(I)I"⟩
abbrev cX12_follow : ByteArray := prog_14_method_32_code
def yX12_follow : MethodName := ⟨RX12, "follow", "(II)I"⟩
abbrev cX12_image : ByteArray := prog_14_method_33_code
def yX12_image : MethodName := ⟨RX12, "image", "(II)I"⟩
abbrev cX12_plain : ByteArray := prog_14_method_34_code
def yX12_plain : MethodName := ⟨RX12, "plain", "(II)I"⟩
abbrev cX12_block : ByteArray := prog_14_method_35_code
def yX12_block : MethodName := ⟨RX12, "block", "(IIII)I"⟩
abbrev cX12_opened : ByteArray := prog_14_method_36_code
def yX12_opened : MethodName := ⟨RX12, "opened", "(III)I"⟩
abbrev cX12_closedOff : ByteArray := prog_14_method_37_code
def yX12_closedOff : MethodName := ⟨RX12, "closedOff", "(III)I"⟩
abbrev cX12_begun : ByteArray := prog_14_method_38_code
def yX12_begun : MethodName := ⟨RX12, "begun", "(I)I"⟩
abbrev cX12_beginRow : ByteArray := prog_14_method_39_code
def yX12_beginRow : MethodName := ⟨RX12, "beginRow", "(I)V"⟩
abbrev cX12_goOn : ByteArray := prog_14_method_40_code
def yX12_goOn : MethodName := ⟨RX12, "goOn", "(II)V"⟩
abbrev cX12_goRow : ByteArray := prog_14_method_41_code
def yX12_goRow : MethodName := ⟨RX12, "goRow", "(II)V"⟩
abbrev cX12_doesTake : ByteArray := prog_14_method_42_code
def yX12_doesTake : MethodName := ⟨RX12, "doesTake", "(II)Z"⟩
abbrev cX12_countRuns : ByteArray := prog_14_method_43_code
def yX12_countRuns : MethodName := ⟨RX12, "countRuns", "(II)V"⟩
abbrev cX12_toItself : ByteArray := prog_14_method_44_code
def yX12_toItself : MethodName := ⟨RX12, "toItself", "()V"⟩
abbrev cX12_letterOpen : ByteArray := prog_14_method_45_code
def yX12_letterOpen : MethodName := ⟨RX12, "letterOpen", "(I)I"⟩
abbrev cX12_waysOver : ByteArray := prog_14_method_46_code
def yX12_waysOver : MethodName := ⟨RX12, "waysOver", "(IIIII)J"⟩
abbrev cX12_stepRuns : ByteArray := prog_14_method_47_code
def yX12_stepRuns : MethodName := ⟨RX12, "stepRuns", "()V"⟩
abbrev cX12_stepWays : ByteArray := prog_14_method_48_code
def yX12_stepWays : MethodName := ⟨RX12, "stepWays", "()V"⟩
abbrev cX12_run : ByteArray := prog_14_method_49_code
def yX12_run : MethodName := ⟨RX12, "run", "(III)I"⟩
abbrev cX12_between : ByteArray := prog_14_method_50_code
def yX12_between : MethodName := ⟨RX12, "between", "(I)I"⟩
abbrev cX12_meetWhole : ByteArray := prog_14_method_51_code
def yX12_meetWhole : MethodName := ⟨RX12, "meetWhole", "(II)Z"⟩
abbrev cX12_findWholes : ByteArray := prog_14_method_52_code
def yX12_findWholes : MethodName := ⟨RX12, "findWholes", "(I)V"⟩
abbrev cX12_nodeOf : ByteArray := prog_14_method_53_code
def yX12_nodeOf : MethodName := ⟨RX12, "nodeOf", "(IIZ)I"⟩
abbrev cX12_meetNode : ByteArray := prog_14_method_54_code
def yX12_meetNode : MethodName := ⟨RX12, "meetNode", "(IIZI)Z"⟩
abbrev cX12_meetBehind : ByteArray := prog_14_method_55_code
def yX12_meetBehind : MethodName := ⟨RX12, "meetBehind", "(II)Z"⟩
abbrev cX12_findPlaces : ByteArray := prog_14_method_56_code
def yX12_findPlaces : MethodName := ⟨RX12, "findPlaces", "(I)V"⟩
abbrev cX12_places : ByteArray := prog_14_method_57_code
def yX12_places : MethodName := ⟨RX12, "places", "(I)I"⟩
abbrev cX12_alike : ByteArray := prog_14_method_58_code
def yX12_alike : MethodName := ⟨RX12, "alike", "(III)I"⟩
abbrev cX12_isSought : ByteArray := prog_14_method_59_code
def yX12_isSought : MethodName := ⟨RX12, "isSought", "(II)Z"⟩
abbrev cX12_shortestOf : ByteArray := prog_14_method_60_code
def yX12_shortestOf : MethodName := ⟨RX12, "shortestOf", "(I)I"⟩
abbrev cX12_shortest : ByteArray := prog_14_method_61_code
def yX12_shortest : MethodName := ⟨RX12, "shortest", "(I)I"⟩
abbrev cX12_isTaken : ByteArray := prog_14_method_62_code
def yX12_isTaken : MethodName := ⟨RX12, "isTaken", "(III)Z"⟩
abbrev cX12_letterOf : ByteArray := prog_14_method_63_code
def yX12_letterOf : MethodName := ⟨RX12, "letterOf", "(IIII)I"⟩
abbrev cX12_first : ByteArray := prog_14_method_64_code
def yX12_first : MethodName := ⟨RX12, "first", "(II)I"⟩
abbrev cX12_wholeOf : ByteArray := prog_14_method_65_code
def yX12_wholeOf : MethodName := ⟨RX12, "wholeOf", "(I)I"⟩
abbrev cX12_countWholes : ByteArray := prog_14_method_66_code
def yX12_countWholes : MethodName := ⟨RX12, "countWholes", "(II)V"⟩
abbrev cX12_countBlocks : ByteArray := prog_14_method_67_code
def yX12_countBlocks : MethodName := ⟨RX12, "countBlocks", "(III)V"⟩
abbrev cX12_addNode : ByteArray := prog_14_method_68_code
def yX12_addNode : MethodName := ⟨RX12, "addNode", "(IIIIZJ)V"⟩
abbrev cX12_findBlocks : ByteArray := prog_14_method_69_code
def yX12_findBlocks : MethodName := ⟨RX12, "findBlocks", "(I)V"⟩
abbrev cX12_countNodes : ByteArray := prog_14_method_70_code
def yX12_countNodes : MethodName := ⟨RX12, "countNodes", "(II)V"⟩
abbrev cX12_countBehind : ByteArray := prog_14_method_71_code
def yX12_countBehind : MethodName := ⟨RX12, "countBehind", "(IIIIJ)V"⟩
abbrev cX12_many : ByteArray := prog_14_method_72_code
def yX12_many : MethodName := ⟨RX12, "many", "(II)I"⟩
abbrev cX12_of : ByteArray := prog_14_method_73_code
def yX12_of : MethodName := ⟨RX12, "of", "(IIII)I"⟩
abbrev cX12_list : ByteArray := prog_14_method_74_code
def yX12_list : MethodName := ⟨RX12, "list", "(II)V"⟩
abbrev cX12_widen : ByteArray := prog_14_method_75_code
def yX12_widen : MethodName := ⟨RX12, "widen", "(IZ)V"⟩
abbrev cX12_judge : ByteArray := prog_14_method_76_code
def yX12_judge : MethodName := ⟨RX12, "judge", "(I)I"⟩
abbrev cX12_putAside : ByteArray := prog_14_method_77_code
def yX12_putAside : MethodName := ⟨RX12, "putAside", "()V"⟩
abbrev cX12_judgeDeeper : ByteArray := prog_14_method_78_code
def yX12_judgeDeeper : MethodName := ⟨RX12, "judgeDeeper", "(I)I"⟩
abbrev cX12_watch : ByteArray := prog_14_method_79_code
def yX12_watch : MethodName := ⟨RX12, "watch", "(II)I"⟩
abbrev cX12_compare : ByteArray := prog_14_method_80_code
def yX12_compare : MethodName := ⟨RX12, "compare", "(I)I"⟩
abbrev cX12_parted : ByteArray := prog_14_method_81_code
def yX12_parted : MethodName := ⟨RX12, "parted", "()I"⟩
abbrev cX12_both : ByteArray := prog_14_method_82_code
def yX12_both : MethodName := ⟨RX12, "both", "()I"⟩
abbrev cX12_count : ByteArray := prog_14_method_83_code
def yX12_count : MethodName := ⟨RX12, "count", "(I)I"⟩
def RJ6 : String := "java/lang/Integer"
def TJ6 : u_T := fun k => match k with
  | _ => ("", "", "", false)
def tyJ6 : Nat → FieldType := fun k => match k with
  | _ => .int
abbrev wsJ60 : List Cond := u_ws RJ6 TJ6 0
theorem nmJ6 : ∀ a, a < 0 → ∀ b, b < 0 → a ≠ b → (TJ6 a).2.1 ≠ (TJ6 b).2.1 := by decide +kernel
theorem tyJ6_ok : ∀ k, k < 0 → parseFieldDescriptor (TJ6 k).2.2.1 = some (tyJ6 k) := by decide +kernel
abbrev cJ6_bitCount_0f7a4 : ByteArray := prog_15_method_49_code
def yJ6_bitCount_0f7a4 : MethodName := ⟨RJ6, "bitCount", "(I)I"⟩
def RJ13 : String := "java/lang/Long"
def TJ13 : u_T := fun k => match k with
  | _ => ("", "", "", false)
def tyJ13 : Nat → FieldType := fun k => match k with
  | _ => .int
abbrev wsJ130 : List Cond := u_ws RJ13 TJ13 0
theorem nmJ13 : ∀ a, a < 0 → ∀ b, b < 0 → a ≠ b → (TJ13 a).2.1 ≠ (TJ13 b).2.1 := by decide +kernel
theorem tyJ13_ok : ∀ k, k < 0 → parseFieldDescriptor (TJ13 k).2.2.1 = some (tyJ13 k) := by decide +kernel
abbrev cJ13_bitCount_95d88 : ByteArray := prog_16_method_50_code
def yJ13_bitCount_95d88 : MethodName := ⟨RJ13, "bitCount", "(J)I"⟩
def RJ9 : String := "java/lang/Math"
def TJ9 : u_T := fun k => match k with
  | _ => ("", "", "", false)
def tyJ9 : Nat → FieldType := fun k => match k with
  | _ => .int
abbrev wsJ90 : List Cond := u_ws RJ9 TJ9 0
theorem nmJ9 : ∀ a, a < 0 → ∀ b, b < 0 → a ≠ b → (TJ9 a).2.1 ≠ (TJ9 b).2.1 := by decide +kernel
theorem tyJ9_ok : ∀ k, k < 0 → parseFieldDescriptor (TJ9 k).2.2.1 = some (tyJ9 k) := by decide +kernel
abbrev cJ9_max_7cf53 : ByteArray := prog_17_method_65_code
def yJ9_max_7cf53 : MethodName := ⟨RJ9, "max", "(II)I"⟩
abbrev cJ9_min_7cf53 : ByteArray := prog_17_method_69_code
def yJ9_min_7cf53 : MethodName := ⟨RJ9, "min", "(II)I"⟩
def RJ0 : String := "java/lang/String"
def TJ0 : u_T := fun k => match k with
  | _ => ("", "", "", false)
def tyJ0 : Nat → FieldType := fun k => match k with
  | _ => .int
abbrev wsJ00 : List Cond := u_ws RJ0 TJ0 0
theorem nmJ0 : ∀ a, a < 0 → ∀ b, b < 0 → a ≠ b → (TJ0 a).2.1 ≠ (TJ0 b).2.1 := by decide +kernel
theorem tyJ0_ok : ∀ k, k < 0 → parseFieldDescriptor (TJ0 k).2.2.1 = some (tyJ0 k) := by decide +kernel
abbrev cJ0_length_8abf5 : ByteArray := prog_18_method_54_code
def yJ0_length_8abf5 : MethodName := ⟨RJ0, "length", "()I"⟩
abbrev cJ0_charAt_5068e : ByteArray := prog_18_method_56_code
def yJ0_charAt_5068e : MethodName := ⟨RJ0, "charAt", "(I)C"⟩
abbrev cJ0_coder_7d493 : ByteArray := prog_18_method_152_code
def yJ0_coder_7d493 : MethodName := ⟨RJ0, "coder", "()B"⟩
abbrev cJ0_isLatin1_aae02 : ByteArray := prog_18_method_154_code
def yJ0_isLatin1_aae02 : MethodName := ⟨RJ0, "isLatin1", "()Z"⟩
abbrev cJ0_checkIndex_df160 : ByteArray := prog_18_method_155_code
def yJ0_checkIndex_df160 : MethodName := ⟨RJ0, "checkIndex", "(II)V"⟩
def RJ1 : String := "java/lang/StringLatin1"
def TJ1 : u_T := fun k => match k with
  | _ => ("", "", "", false)
def tyJ1 : Nat → FieldType := fun k => match k with
  | _ => .int
abbrev wsJ10 : List Cond := u_ws RJ1 TJ1 0
theorem nmJ1 : ∀ a, a < 0 → ∀ b, b < 0 → a ≠ b → (TJ1 a).2.1 ≠ (TJ1 b).2.1 := by decide +kernel
theorem tyJ1_ok : ∀ k, k < 0 → parseFieldDescriptor (TJ1 k).2.2.1 = some (tyJ1 k) := by decide +kernel
abbrev cJ1_charAt_3b067 : ByteArray := prog_19_method_2_code
def yJ1_charAt_3b067 : MethodName := ⟨RJ1, "charAt", "([BI)C"⟩
def RJ2 : String := "java/lang/StringUTF16"
def TJ2 : u_T := fun k => match k with
  | _ => ("", "", "", false)
def tyJ2 : Nat → FieldType := fun k => match k with
  | _ => .int
abbrev wsJ20 : List Cond := u_ws RJ2 TJ2 0
theorem nmJ2 : ∀ a, a < 0 → ∀ b, b < 0 → a ≠ b → (TJ2 a).2.1 ≠ (TJ2 b).2.1 := by decide +kernel
theorem tyJ2_ok : ∀ k, k < 0 → parseFieldDescriptor (TJ2 k).2.2.1 = some (tyJ2 k) := by decide +kernel
abbrev cJ2_getChar_3b067 : ByteArray := prog_20_method_5_code
def yJ2_getChar_3b067 : MethodName := ⟨RJ2, "getChar", "([BI)C"⟩
abbrev cJ2_length_9d52b : ByteArray := prog_20_method_6_code
def yJ2_length_9d52b : MethodName := ⟨RJ2, "length", "([B)I"⟩
abbrev cJ2_charAt_3b067 : ByteArray := prog_20_method_83_code
def yJ2_charAt_3b067 : MethodName := ⟨RJ2, "charAt", "([BI)C"⟩
abbrev cJ2_checkIndex_2214a : ByteArray := prog_20_method_91_code
def yJ2_checkIndex_2214a : MethodName := ⟨RJ2, "checkIndex", "(I[B)V"⟩
def RJ3 : String := "jdk/internal/util/Preconditions"
def TJ3 : u_T := fun k => match k with
  | _ => ("", "", "", false)
def tyJ3 : Nat → FieldType := fun k => match k with
  | _ => .int
abbrev wsJ30 : List Cond := u_ws RJ3 TJ3 0
theorem nmJ3 : ∀ a, a < 0 → ∀ b, b < 0 → a ≠ b → (TJ3 a).2.1 ≠ (TJ3 b).2.1 := by decide +kernel
theorem tyJ3_ok : ∀ k, k < 0 → parseFieldDescriptor (TJ3 k).2.2.1 = some (tyJ3 k) := by decide +kernel
abbrev cJ3_checkIndex_8e157 : ByteArray := prog_21_method_11_code
def yJ3_checkIndex_8e157 : MethodName := ⟨RJ3, "checkIndex", "(IILjava/util/function/BiFunction;)I"⟩
def RL : String := "NestReadersLaw"
abbrev cL_law : ByteArray := code
def yL_law : MethodName := ⟨RL, "law", "([I)Z"⟩
def wsL_law_r1 : List Cond := [Cond.classLink RL 7 RX11, Cond.instantiable RX11 16, Cond.initialized RX11, Cond.classLink RL 10 RX12, Cond.instantiable RX12 51, Cond.initialized RX12, Cond.constantLong RL 18 (4294967295), Cond.methodLink RL 9 yX11_init, Cond.instanceMethod yX11_init, Cond.code yX11_init cX11_init 1 none, Cond.methodLink RX11 1 objectInit, Cond.instanceMethod objectInit, Cond.code objectInit ⟨#[0xb1]⟩ 1 none, Cond.classLink RX11 7 RX5, Cond.instantiable RX5 5, Cond.initialized RX5, Cond.fieldLink RX11 10 "NestReaders" "left" "LNestReaders$Reader;", Cond.fieldLink RX11 16 "NestReaders" "right" "LNestReaders$Reader;", Cond.classLink RX11 19 RX8, Cond.instantiable RX8 8, Cond.initialized RX8, Cond.fieldLink RX11 22 "NestReaders" "text" "LNestReaders$Text;", Cond.classLink RX11 26 RX6, Cond.instantiable RX6 3]
def wsL_law_r2 : List Cond := [Cond.initialized RX6, Cond.fieldLink RX11 29 "NestReaders" "row" "LNestReaders$Row;", Cond.classLink RX11 33 RX9, Cond.instantiable RX9 3, Cond.initialized RX9, Cond.fieldLink RX11 36 "NestReaders" "walk" "LNestReaders$Walk;", Cond.classLink RX11 40 RX7, Cond.instantiable RX7 4, Cond.initialized RX7, Cond.fieldLink RX11 43 "NestReaders" "runCount" "LNestReaders$RunCount;", Cond.classLink RX11 47 RX4, Cond.instantiable RX4 9, Cond.initialized RX4, Cond.classLink RX11 49 RX1, Cond.instantiable RX1 3, Cond.initialized RX1, Cond.fieldLink RX11 57 "NestReaders" "leftPlaces" "LNestReaders$Places;", Cond.fieldLink RX11 61 "NestReaders" "rightPlaces" "LNestReaders$Places;", Cond.fieldLink RX11 64 "NestReaders" "bothPlaces" "LNestReaders$Places;", Cond.classLink RX11 67 RX2, Cond.instantiable RX2 7, Cond.initialized RX2, Cond.fieldLink RX11 72 "NestReaders" "leftLengths" "LNestReaders$Lengths;", Cond.fieldLink RX11 76 "NestReaders" "rightLengths" "LNestReaders$Lengths;"]
def wsL_law_r3 : List Cond := [Cond.fieldLink RX11 79 "NestReaders" "bothLengths" "LNestReaders$Lengths;", Cond.classLink RX11 82 RX0, Cond.instantiable RX0 8, Cond.initialized RX0, Cond.fieldLink RX11 85 "NestReaders" "leftCounts" "LNestReaders$Counts;", Cond.fieldLink RX11 89 "NestReaders" "rightCounts" "LNestReaders$Counts;", Cond.classLink RX11 92 RX3, Cond.instantiable RX3 6, Cond.initialized RX3, Cond.fieldLink RX11 97 "NestReaders" "leftListing" "LNestReaders$Listing;", Cond.fieldLink RX11 101 "NestReaders" "rightListing" "LNestReaders$Listing;", Cond.instanceMethod yX5_init, Cond.code yX5_init cX5_init 1 none, Cond.methodLink RX5 3 objectInit, Cond.arrayClass .int, Cond.fieldLink RX5 11 "NestReaders$Reader" "ways" "[I", Cond.fieldLink RX5 15 "NestReaders$Reader" "states" "I", Cond.fieldLink RX5 19 "NestReaders$Reader" "marks" "I", Cond.fieldLink RX5 22 "NestReaders$Reader" "takes" "I", Cond.fieldLink RX5 25 "NestReaders$Reader" "changes" "I", Cond.instanceMethod yX8_init, Cond.code yX8_init cX8_init 1 none, Cond.methodLink RX8 3 objectInit, Cond.fieldLink RX8 9 "NestReaders$Text" "bytes" "[I"]
def wsL_law_r4 : List Cond := [Cond.fieldLink RX8 15 "NestReaders$Text" "size" "I", Cond.fieldLink RX8 19 "NestReaders$Text" "start" "I", Cond.fieldLink RX8 22 "NestReaders$Text" "behind" "I", Cond.fieldLink RX8 25 "NestReaders$Text" "from" "I", Cond.fieldLink RX8 28 "NestReaders$Text" "letter" "I", Cond.fieldLink RX8 31 "NestReaders$Text" "mark" "I", Cond.fieldLink RX8 34 "NestReaders$Text" "to" "I", Cond.instanceMethod yX6_init, Cond.code yX6_init cX6_init 1 none, Cond.methodLink RX6 3 objectInit, Cond.fieldLink RX6 9 "NestReaders$Row" "letters" "[I", Cond.fieldLink RX6 15 "NestReaders$Row" "base" "[I", Cond.fieldLink RX6 18 "NestReaders$Row" "size" "I", Cond.instanceMethod yX9_init, Cond.code yX9_init cX9_init 1 none, Cond.methodLink RX9 3 objectInit, Cond.fieldLink RX9 9 "NestReaders$Walk" "come" "[I", Cond.fieldLink RX9 15 "NestReaders$Walk" "since" "[I", Cond.fieldLink RX9 18 "NestReaders$Walk" "same" "I", Cond.instanceMethod yX7_init, Cond.code yX7_init cX7_init 1 none, Cond.methodLink RX7 3 objectInit, Cond.arrayClass .long, Cond.fieldLink RX7 9 "NestReaders$RunCount" "come" "[J"]
def wsL_law_r5 : List Cond := [Cond.fieldLink RX7 15 "NestReaders$RunCount" "since" "[J", Cond.fieldLink RX7 18 "NestReaders$RunCount" "factor" "[J", Cond.fieldLink RX7 21 "NestReaders$RunCount" "half" "[J", Cond.methodLink RX11 51 yX1_init, Cond.instanceMethod yX1_init, Cond.code yX1_init cX1_init 4 none, Cond.methodLink RX1 3 objectInit, Cond.fieldLink RX1 9 "NestReaders$Held" "one" "LNestReaders$Reader;", Cond.fieldLink RX1 15 "NestReaders$Held" "other" "LNestReaders$Reader;", Cond.fieldLink RX1 18 "NestReaders$Held" "both" "Z", Cond.methodLink RX11 54 yX4_init, Cond.instanceMethod yX4_init, Cond.code yX4_init cX4_init 2 none, Cond.methodLink RX4 3 objectInit, Cond.fieldLink RX4 9 "NestReaders$Places" "filled" "J", Cond.fieldLink RX4 15 "NestReaders$Places" "codes" "J", Cond.fieldLink RX4 18 "NestReaders$Places" "size" "I", Cond.fieldLink RX4 22 "NestReaders$Places" "edition" "I", Cond.fieldLink RX4 25 "NestReaders$Places" "seen" "I", Cond.fieldLink RX4 28 "NestReaders$Places" "held" "LNestReaders$Held;", Cond.classLink RX4 32 RX10, Cond.instantiable RX10 11, Cond.initialized RX10, Cond.fieldLink RX4 37 "NestReaders$Places" "wholes" "LNestReaders$Wholes;"]
def wsL_law_r6 : List Cond := [Cond.fieldLink RX4 46 "NestReaders$Places" "images" "[I", Cond.fieldLink RX4 50 "NestReaders$Places" "spreads" "[J", Cond.methodLink RX4 34 yX10_init, Cond.instanceMethod yX10_init, Cond.code yX10_init cX10_init 2 none, Cond.methodLink RX10 3 objectInit, Cond.fieldLink RX10 9 "NestReaders$Wholes" "pairs" "[I", Cond.fieldLink RX10 15 "NestReaders$Wholes" "stepOf" "[I", Cond.fieldLink RX10 18 "NestReaders$Wholes" "wholeOf" "[I", Cond.fieldLink RX10 21 "NestReaders$Wholes" "next" "[I", Cond.fieldLink RX10 24 "NestReaders$Wholes" "around" "[I", Cond.fieldLink RX10 27 "NestReaders$Wholes" "plain" "[I", Cond.fieldLink RX10 30 "NestReaders$Wholes" "slots" "[I", Cond.fieldLink RX10 33 "NestReaders$Wholes" "size" "I", Cond.fieldLink RX10 37 "NestReaders$Wholes" "steps" "I", Cond.fieldLink RX10 40 "NestReaders$Wholes" "spent" "Z", Cond.fieldLink RX10 44 "NestReaders$Wholes" "held" "LNestReaders$Held;", Cond.methodLink RX4 41 yX1_codes, Cond.instanceMethod yX1_codes, Cond.selects RX1 yX1_codes yX1_codes, Cond.code yX1_codes cX1_codes 1 (some .int), Cond.methodLink RX11 69 yX2_init, Cond.instanceMethod yX2_init, Cond.code yX2_init cX2_init 2 none]
def wsL_law_r7 : List Cond := [Cond.methodLink RX2 3 objectInit, Cond.fieldLink RX2 9 "NestReaders$Lengths" "whole" "[I", Cond.fieldLink RX2 15 "NestReaders$Lengths" "step" "[I", Cond.fieldLink RX2 18 "NestReaders$Lengths" "edition" "I", Cond.fieldLink RX2 22 "NestReaders$Lengths" "changed" "Z", Cond.fieldLink RX2 26 "NestReaders$Lengths" "places" "LNestReaders$Places;", Cond.fieldLink RX2 42 "NestReaders$Lengths" "ground" "[I", Cond.fieldLink RX2 45 "NestReaders$Lengths" "above" "[I", Cond.methodLink RX2 30 yX4_held, Cond.instanceMethod yX4_held, Cond.selects RX4 yX4_held yX4_held, Cond.code yX4_held cX4_held 1 (some (.object "NestReaders$Held")), Cond.methodLink RX2 36 yX1_codes, Cond.methodLink RX11 84 yX0_init, Cond.instanceMethod yX0_init, Cond.code yX0_init cX0_init 2 none, Cond.methodLink RX0 3 objectInit, Cond.fieldLink RX0 11 "NestReaders$Counts" "whole" "[J", Cond.fieldLink RX0 15 "NestReaders$Counts" "step" "[J", Cond.fieldLink RX0 18 "NestReaders$Counts" "edition" "I", Cond.fieldLink RX0 22 "NestReaders$Counts" "counted" "I", Cond.fieldLink RX0 25 "NestReaders$Counts" "places" "LNestReaders$Places;", Cond.fieldLink RX0 41 "NestReaders$Counts" "codes" "I", Cond.fieldLink RX0 43 "NestReaders$Counts" "ground" "[J"]
def wsL_law_r8 : List Cond := [Cond.fieldLink RX0 46 "NestReaders$Counts" "above" "[J", Cond.methodLink RX0 29 yX4_held, Cond.methodLink RX0 35 yX1_codes, Cond.methodLink RX11 94 yX3_init, Cond.instanceMethod yX3_init, Cond.code yX3_init cX3_init 2 none, Cond.methodLink RX3 3 objectInit, Cond.classLink RX3 9 RX6, Cond.fieldLink RX3 12 "NestReaders$Listing" "row" "LNestReaders$Row;", Cond.classLink RX3 18 RX9, Cond.fieldLink RX3 21 "NestReaders$Listing" "walk" "LNestReaders$Walk;", Cond.fieldLink RX3 25 "NestReaders$Listing" "words" "[J", Cond.arrayClass .boolean, Cond.fieldLink RX3 29 "NestReaders$Listing" "listed" "[Z", Cond.fieldLink RX3 33 "NestReaders$Listing" "seen" "I", Cond.fieldLink RX3 37 "NestReaders$Listing" "reader" "LNestReaders$Reader;", Cond.methodLink RL 12 yX12_init, Cond.instanceMethod yX12_init, Cond.code yX12_init cX12_init 2 none, Cond.methodLink RX12 1 objectInit, Cond.fieldLink RX12 7 "NestReadersModel" "states" "[I", Cond.fieldLink RX12 13 "NestReadersModel" "markMany" "[I", Cond.fieldLink RX12 16 "NestReadersModel" "takes" "[I", Cond.fieldLink RX12 19 "NestReadersModel" "puts" "[I"]
def wsL_law_r9 : List Cond := [Cond.fieldLink RX12 22 "NestReadersModel" "goes" "[I", Cond.fieldLink RX12 25 "NestReadersModel" "closes" "[I", Cond.fieldLink RX12 28 "NestReadersModel" "text" "[I", Cond.fieldLink RX12 31 "NestReadersModel" "read" "[I", Cond.fieldLink RX12 34 "NestReadersModel" "row" "[I", Cond.fieldLink RX12 37 "NestReadersModel" "partner" "[I", Cond.fieldLink RX12 40 "NestReadersModel" "some" "[I", Cond.fieldLink RX12 43 "NestReadersModel" "stackCome" "[I", Cond.fieldLink RX12 46 "NestReadersModel" "stackSince" "[I", Cond.fieldLink RX12 49 "NestReadersModel" "stackLetter" "[I", Cond.fieldLink RX12 52 "NestReadersModel" "runs" "[J", Cond.fieldLink RX12 56 "NestReadersModel" "ways" "[J", Cond.fieldLink RX12 59 "NestReadersModel" "keptRuns" "[J", Cond.fieldLink RX12 62 "NestReadersModel" "keptWays" "[J", Cond.fieldLink RX12 65 "NestReadersModel" "rel" "[J", Cond.fieldLink RX12 68 "NestReadersModel" "known" "I", Cond.fieldLink RX12 72 "NestReadersModel" "whole" "[I", Cond.fieldLink RX12 75 "NestReadersModel" "wholeLong" "[I", Cond.fieldLink RX12 78 "NestReadersModel" "nodeCome" "[I", Cond.fieldLink RX12 81 "NestReadersModel" "nodeSince" "[I", Cond.fieldLink RX12 84 "NestReadersModel" "nodeDeep" "[Z", Cond.fieldLink RX12 88 "NestReadersModel" "nodeLong" "[I", Cond.fieldLink RX12 91 "NestReadersModel" "wholeMany" "[J", Cond.fieldLink RX12 94 "NestReadersModel" "blockTo" "[I"]
def wsL_law_r10 : List Cond := [Cond.fieldLink RX12 97 "NestReadersModel" "nodeMany" "[J", Cond.fieldLink RX12 100 "NestReadersModel" "listCome" "[I", Cond.fieldLink RX12 103 "NestReadersModel" "listSince" "[I", Cond.fieldLink RX12 106 "NestReadersModel" "nextCome" "[I", Cond.fieldLink RX12 109 "NestReadersModel" "nextSince" "[I", Cond.methodLink RL 13 yX11_reader, Cond.instanceMethod yX11_reader, Cond.selects RX11 yX11_reader yX11_reader, Cond.code yX11_reader cX11_reader 5 (some .int), Cond.methodLink RX11 104 yX11_isReader, Cond.static yX11_isReader, Cond.code yX11_isReader cX11_isReader 1 (some .boolean), Cond.methodLink RX11 108 yX11_chosen, Cond.instanceMethod yX11_chosen, Cond.selects RX11 yX11_chosen yX11_chosen, Cond.code yX11_chosen cX11_chosen 2 (some (.object "NestReaders$Reader")), Cond.methodLink RX11 112 yX5_become, Cond.instanceMethod yX5_become, Cond.selects RX5 yX5_become yX5_become, Cond.code yX5_become cX5_become 5 none, Cond.methodLink RL 17 yX12_reader, Cond.instanceMethod yX12_reader, Cond.selects RX12 yX12_reader yX12_reader, Cond.code yX12_reader cX12_reader 6 (some .int)]
def wsL_law_r11 : List Cond := [Cond.methodLink RX12 116 yX12_isReader, Cond.static yX12_isReader, Cond.code yX12_isReader cX12_isReader 1 (some .boolean), Cond.methodLink RX12 112 yX12_in, Cond.static yX12_in, Cond.code yX12_in cX12_in 3 (some .boolean), Cond.methodLink RL 20 yX11_write, Cond.instanceMethod yX11_write, Cond.selects RX11 yX11_write yX11_write, Cond.code yX11_write cX11_write 5 (some .int), Cond.constantLong RX11 120 (255), Cond.methodLink RX11 116 yX8_size, Cond.instanceMethod yX8_size, Cond.selects RX8 yX8_size yX8_size, Cond.code yX8_size cX8_size 1 (some .int), Cond.methodLink RX11 122 yX8_append, Cond.instanceMethod yX8_append, Cond.selects RX8 yX8_append yX8_append, Cond.code yX8_append cX8_append 2 none, Cond.methodLink RL 24 yX12_write, Cond.instanceMethod yX12_write, Cond.selects RX12 yX12_write yX12_write, Cond.code yX12_write cX12_write 5 (some .int), Cond.fieldLink RX12 120 "NestReadersModel" "bytes" "I"]
def wsL_law_r12 : List Cond := [Cond.constantLong RX12 123 (255), Cond.methodLink RL 25 yX11_erase, Cond.instanceMethod yX11_erase, Cond.selects RX11 yX11_erase yX11_erase, Cond.code yX11_erase cX11_erase 2 (some .int), Cond.methodLink RX11 126 yX8_empty, Cond.instanceMethod yX8_empty, Cond.selects RX8 yX8_empty yX8_empty, Cond.code yX8_empty cX8_empty 1 none, Cond.methodLink RL 29 yX12_erase, Cond.instanceMethod yX12_erase, Cond.selects RX12 yX12_erase yX12_erase, Cond.code yX12_erase cX12_erase 2 (some .int), Cond.methodLink RL 30 yX11_fault, Cond.instanceMethod yX11_fault, Cond.selects RX11 yX11_fault yX11_fault, Cond.code yX11_fault cX11_fault 2 (some .int), Cond.methodLink RX11 129 yX8_faultFor, Cond.instanceMethod yX8_faultFor, Cond.selects RX8 yX8_faultFor yX8_faultFor, Cond.code yX8_faultFor cX8_faultFor 4 (some .int), Cond.methodLink RX8 37 yX8_step, Cond.instanceMethod yX8_step, Cond.selects RX8 yX8_step yX8_step]
def wsL_law_r13 : List Cond := [Cond.code yX8_step cX8_step 2 none, Cond.methodLink RX8 89 yX8_byteAt, Cond.instanceMethod yX8_byteAt, Cond.selects RX8 yX8_byteAt yX8_byteAt, Cond.code yX8_byteAt cX8_byteAt 2 (some .int), Cond.methodLink RX8 93 yX8_kindOf, Cond.static yX8_kindOf, Cond.code yX8_kindOf cX8_kindOf 1 (some .int), Cond.methodLink RX8 40 yX8_readMove, Cond.instanceMethod yX8_readMove, Cond.selects RX8 yX8_readMove yX8_readMove, Cond.code yX8_readMove cX8_readMove 2 (some .boolean), Cond.methodLink RX8 54 yX8_digit, Cond.instanceMethod yX8_digit, Cond.selects RX8 yX8_digit yX8_digit, Cond.code yX8_digit cX8_digit 1 (some .int), Cond.methodLink RX8 50 yX8_head, Cond.instanceMethod yX8_head, Cond.selects RX8 yX8_head yX8_head, Cond.code yX8_head cX8_head 1 (some .int), Cond.methodLink RX8 57 yX5_isState, Cond.instanceMethod yX5_isState, Cond.selects RX5 yX5_isState yX5_isState, Cond.code yX5_isState cX5_isState 2 (some .boolean)]
def wsL_law_r14 : List Cond := [Cond.methodLink RX8 61 yX8_pass, Cond.instanceMethod yX8_pass, Cond.selects RX8 yX8_pass yX8_pass, Cond.code yX8_pass cX8_pass 2 (some .boolean), Cond.methodLink RX8 65 yX5_closes, Cond.static yX5_closes, Cond.code yX5_closes cX5_closes 1 (some .boolean), Cond.methodLink RX8 70 yX8_isWord, Cond.instanceMethod yX8_isWord, Cond.selects RX8 yX8_isWord yX8_isWord, Cond.code yX8_isWord cX8_isWord 4 (some .boolean), Cond.methodLink RX8 96 yJ0_length_8abf5, Cond.instanceMethod yJ0_length_8abf5, Cond.selects RJ0 yJ0_length_8abf5 yJ0_length_8abf5, Cond.initialized RJ0, Cond.code yJ0_length_8abf5 cJ0_length_8abf5 1 (some .int), Cond.fieldLink RJ0 9 "java/lang/String" "value" "[B", Cond.methodLink RJ0 335 yJ0_coder_7d493, Cond.instanceMethod yJ0_coder_7d493, Cond.selects RJ0 yJ0_coder_7d493 yJ0_coder_7d493, Cond.code yJ0_coder_7d493 cJ0_coder_7d493 1 (some .byte), Cond.fieldLink RJ0 38 "java/lang/String" "COMPACT_STRINGS" "Z", Cond.fieldLink RJ0 15 "java/lang/String" "coder" "B", Cond.methodLink RX8 101 yJ0_charAt_5068e]
def wsL_law_r15 : List Cond := [Cond.instanceMethod yJ0_charAt_5068e, Cond.selects RJ0 yJ0_charAt_5068e yJ0_charAt_5068e, Cond.code yJ0_charAt_5068e cJ0_charAt_5068e 2 (some .char), Cond.methodLink RJ0 492 yJ0_isLatin1_aae02, Cond.instanceMethod yJ0_isLatin1_aae02, Cond.selects RJ0 yJ0_isLatin1_aae02 yJ0_isLatin1_aae02, Cond.code yJ0_isLatin1_aae02 cJ0_isLatin1_aae02 1 (some .boolean), Cond.methodLink RJ0 495 yJ1_charAt_3b067, Cond.static yJ1_charAt_3b067, Cond.initialized RJ1, Cond.code yJ1_charAt_3b067 cJ1_charAt_3b067 2 (some .char), Cond.methodLink RJ1 9 yJ0_checkIndex_df160, Cond.static yJ0_checkIndex_df160, Cond.code yJ0_checkIndex_df160 cJ0_checkIndex_df160 2 none, Cond.fieldLink RJ0 1053 "jdk/internal/util/Preconditions" "SIOOBE_FORMATTER" "Ljava/util/function/BiFunction;", Cond.methodLink RJ0 1059 yJ3_checkIndex_8e157, Cond.static yJ3_checkIndex_8e157, Cond.initialized RJ3, Cond.code yJ3_checkIndex_8e157 cJ3_checkIndex_8e157 3 (some .int), Cond.methodLink RJ0 498 yJ2_charAt_3b067, Cond.static yJ2_charAt_3b067, Cond.initialized RJ2, Cond.code yJ2_charAt_3b067 cJ2_charAt_3b067 2 (some .char), Cond.methodLink RJ2 67 yJ2_checkIndex_2214a]
def wsL_law_r16 : List Cond := [Cond.static yJ2_checkIndex_2214a, Cond.code yJ2_checkIndex_2214a cJ2_checkIndex_2214a 2 none, Cond.methodLink RJ2 48 yJ2_length_9d52b, Cond.static yJ2_length_9d52b, Cond.code yJ2_length_9d52b cJ2_length_9d52b 1 (some .int), Cond.methodLink RJ2 414 yJ0_checkIndex_df160, Cond.methodLink RJ2 71 yJ2_getChar_3b067, Cond.static yJ2_getChar_3b067, Cond.code yJ2_getChar_3b067 cJ2_getChar_3b067 2 (some .char), Cond.fieldLink RJ2 44 "java/lang/StringUTF16" "$assertionsDisabled" "Z", Cond.fieldLink RJ2 59 "java/lang/StringUTF16" "HI_BYTE_SHIFT" "I", Cond.fieldLink RJ2 63 "java/lang/StringUTF16" "LO_BYTE_SHIFT" "I", Cond.methodLink RX8 74 yX8_readMark, Cond.instanceMethod yX8_readMark, Cond.selects RX8 yX8_readMark yX8_readMark, Cond.code yX8_readMark cX8_readMark 3 (some .boolean), Cond.methodLink RX8 86 yX5_isMark, Cond.instanceMethod yX5_isMark, Cond.selects RX5 yX5_isMark yX5_isMark, Cond.code yX5_isMark cX5_isMark 2 (some .boolean), Cond.methodLink RX8 79 yX5_opens, Cond.static yX5_opens, Cond.code yX5_opens cX5_opens 1 (some .boolean), Cond.methodLink RX8 44 yX5_add]
def wsL_law_r17 : List Cond := [Cond.instanceMethod yX5_add, Cond.selects RX5 yX5_add yX5_add, Cond.code yX5_add cX5_add 5 none, Cond.methodLink RX5 48 yX5_knows, Cond.instanceMethod yX5_knows, Cond.selects RX5 yX5_knows yX5_knows, Cond.code yX5_knows cX5_knows 5 (some .boolean), Cond.methodLink RX5 28 yX5_isState, Cond.methodLink RX5 32 yX5_isPlain, Cond.static yX5_isPlain, Cond.code yX5_isPlain cX5_isPlain 1 (some .boolean), Cond.methodLink RX5 35 yX5_isMark, Cond.methodLink RX5 38 yX5_closes, Cond.methodLink RX5 52 yX5_slot, Cond.static yX5_slot, Cond.code yX5_slot cX5_slot 2 (some .int), Cond.methodLink RX5 45 yX5_pair, Cond.static yX5_pair, Cond.code yX5_pair cX5_pair 2 (some .int), Cond.methodLink RL 34 yX12_fault, Cond.instanceMethod yX12_fault, Cond.selects RX12 yX12_fault yX12_fault, Cond.code yX12_fault cX12_fault 2 (some .int), Cond.fieldLink RX12 153 "NestReadersModel" "faultAt" "I"]
def wsL_law_r18 : List Cond := [Cond.methodLink RX12 187 yX12_isRead, Cond.instanceMethod yX12_isRead, Cond.selects RX12 yX12_isRead yX12_isRead, Cond.code yX12_isRead cX12_isRead 3 (some .boolean), Cond.fieldLink RX12 125 "NestReadersModel" "position" "I", Cond.fieldLink RX12 181 "NestReadersModel" "readMany" "I", Cond.fieldLink RX12 139 "NestReadersModel" "token" "J", Cond.constantLong RX12 151 (-3), Cond.constantLong RX12 137 (-2), Cond.methodLink RX12 184 yX12_isMove, Cond.instanceMethod yX12_isMove, Cond.selects RX12 yX12_isMove yX12_isMove, Cond.code yX12_isMove cX12_isMove 4 (some .boolean), Cond.constantLong RX12 167 (6), Cond.constantLong RX12 169 (555), Cond.constantLong RX12 175 (12251), Cond.constantLong RX12 177 (394691), Cond.constantLong RX12 179 (286880), Cond.constantLong RX12 149 (-1), Cond.fieldLink RX12 134 "NestReadersModel" "number" "I", Cond.methodLink RX12 163 yX12_isNumber, Cond.instanceMethod yX12_isNumber, Cond.selects RX12 yX12_isNumber yX12_isNumber, Cond.code yX12_isNumber cX12_isNumber 3 (some .boolean)]
def wsL_law_r19 : List Cond := [Cond.methodLink RX12 156 yX12_nextToken, Cond.instanceMethod yX12_nextToken, Cond.selects RX12 yX12_nextToken yX12_nextToken, Cond.code yX12_nextToken cX12_nextToken 1 none, Cond.fieldLink RX12 128 "NestReadersModel" "tokenAt" "I", Cond.fieldLink RX12 131 "NestReadersModel" "digits" "I", Cond.constantLong RX12 143 (27), Cond.constantLong RX12 145 (96), Cond.constantLong RX12 147 (-4), Cond.methodLink RX12 159 yX12_fails, Cond.instanceMethod yX12_fails, Cond.selects RX12 yX12_fails yX12_fails, Cond.code yX12_fails cX12_fails 1 (some .boolean), Cond.methodLink RX12 171 yX12_isWord, Cond.instanceMethod yX12_isWord, Cond.selects RX12 yX12_isWord yX12_isWord, Cond.code yX12_isWord cX12_isWord 3 (some .boolean), Cond.methodLink RL 35 yX11_moves, Cond.instanceMethod yX11_moves, Cond.selects RX11 yX11_moves yX11_moves, Cond.code yX11_moves cX11_moves 3 (some .int), Cond.methodLink RX11 133 yX5_moveCount, Cond.instanceMethod yX5_moveCount, Cond.selects RX5 yX5_moveCount yX5_moveCount]
def wsL_law_r20 : List Cond := [Cond.code yX5_moveCount cX5_moveCount 3 (some .int), Cond.methodLink RX5 55 yJ6_bitCount_0f7a4, Cond.static yJ6_bitCount_0f7a4, Cond.initialized RJ6, Cond.code yJ6_bitCount_0f7a4 cJ6_bitCount_0f7a4 1 (some .int), Cond.constant RJ6 265 (1431655765), Cond.constant RJ6 266 (858993459), Cond.constant RJ6 267 (252645135), Cond.methodLink RL 38 yX12_moves, Cond.instanceMethod yX12_moves, Cond.selects RX12 yX12_moves yX12_moves, Cond.code yX12_moves cX12_moves 6 (some .int), Cond.methodLink RX12 205 yX12_tos, Cond.instanceMethod yX12_tos, Cond.selects RX12 yX12_tos yX12_tos, Cond.code yX12_tos cX12_tos 5 (some .int), Cond.methodLink RX12 194 yX12_putAt, Cond.static yX12_putAt, Cond.code yX12_putAt cX12_putAt 4 (some .int), Cond.methodLink RX12 198 yX12_goAt, Cond.static yX12_goAt, Cond.code yX12_goAt cX12_goAt 3 (some .int), Cond.methodLink RX12 202 yX12_closeAt, Cond.static yX12_closeAt]
def wsL_law_r21 : List Cond := [Cond.code yX12_closeAt cX12_closeAt 4 (some .int), Cond.methodLink RX12 208 yX12_tell, Cond.instanceMethod yX12_tell, Cond.selects RX12 yX12_tell yX12_tell, Cond.code yX12_tell cX12_tell 6 none, Cond.methodLink RX12 212 yX12_movesOf, Cond.instanceMethod yX12_movesOf, Cond.selects RX12 yX12_movesOf yX12_movesOf, Cond.code yX12_movesOf cX12_movesOf 4 (some .int), Cond.methodLink RX12 190 yX12_bits, Cond.static yX12_bits, Cond.code yX12_bits cX12_bits 3 (some .int), Cond.methodLink RL 39 yX11_has, Cond.instanceMethod yX11_has, Cond.selects RX11 yX11_has yX11_has, Cond.code yX11_has cX11_has 6 (some .int), Cond.methodLink RX11 136 yX5_knows, Cond.methodLink RX11 140 yX5_holds, Cond.instanceMethod yX5_holds, Cond.selects RX5 yX5_holds yX5_holds, Cond.code yX5_holds cX5_holds 5 (some .boolean), Cond.methodLink RX5 41 yX5_way, Cond.instanceMethod yX5_way, Cond.selects RX5 yX5_way yX5_way]
def wsL_law_r22 : List Cond := [Cond.code yX5_way cX5_way 4 (some .int), Cond.methodLink RL 43 yX12_has, Cond.instanceMethod yX12_has, Cond.selects RX12 yX12_has yX12_has, Cond.code yX12_has cX12_has 6 (some .int), Cond.methodLink RX12 215 yX12_isTold, Cond.instanceMethod yX12_isTold, Cond.selects RX12 yX12_isTold yX12_isTold, Cond.code yX12_isTold cX12_isTold 6 (some .boolean), Cond.methodLink RL 44 yX11_drop, Cond.instanceMethod yX11_drop, Cond.selects RX11 yX11_drop yX11_drop, Cond.code yX11_drop cX11_drop 6 (some .int), Cond.methodLink RX11 143 yX11_has, Cond.methodLink RX11 147 yX5_remove, Cond.instanceMethod yX5_remove, Cond.selects RX5 yX5_remove yX5_remove, Cond.code yX5_remove cX5_remove 5 none, Cond.methodLink RL 47 yX12_drop, Cond.instanceMethod yX12_drop, Cond.selects RX12 yX12_drop yX12_drop, Cond.code yX12_drop cX12_drop 6 (some .int), Cond.methodLink RL 48 yX11_letter, Cond.instanceMethod yX11_letter]
def wsL_law_r23 : List Cond := [Cond.selects RX11 yX11_letter yX11_letter, Cond.code yX11_letter cX11_letter 2 (some .int), Cond.methodLink RX11 151 yX6_size, Cond.instanceMethod yX6_size, Cond.selects RX6 yX6_size yX6_size, Cond.code yX6_size cX6_size 1 (some .int), Cond.methodLink RX11 152 yX6_append, Cond.instanceMethod yX6_append, Cond.selects RX6 yX6_append yX6_append, Cond.code yX6_append cX6_append 3 none, Cond.methodLink RX6 22 yX6_openAt, Cond.instanceMethod yX6_openAt, Cond.selects RX6 yX6_openAt yX6_openAt, Cond.code yX6_openAt cX6_openAt 3 (some .int), Cond.methodLink RX6 35 yX6_baseAt, Cond.instanceMethod yX6_baseAt, Cond.selects RX6 yX6_baseAt yX6_baseAt, Cond.code yX6_baseAt cX6_baseAt 2 (some .int), Cond.methodLink RX6 38 yX6_letterAt, Cond.instanceMethod yX6_letterAt, Cond.selects RX6 yX6_letterAt yX6_letterAt, Cond.code yX6_letterAt cX6_letterAt 2 (some .int), Cond.methodLink RX6 41 yX5_opens, Cond.methodLink RX6 26 yX5_isPlain]
def wsL_law_r24 : List Cond := [Cond.methodLink RX6 32 yX5_closes, Cond.methodLink RL 51 yX12_letter, Cond.instanceMethod yX12_letter, Cond.selects RX12 yX12_letter yX12_letter, Cond.code yX12_letter cX12_letter 2 (some .int), Cond.fieldLink RX12 219 "NestReadersModel" "size" "I", Cond.methodLink RL 52 yX11_row, Cond.instanceMethod yX11_row, Cond.selects RX11 yX11_row yX11_row, Cond.code yX11_row cX11_row 5 (some .int), Cond.methodLink RX11 153 yX11_letterOf, Cond.static yX11_letterOf, Cond.code yX11_letterOf cX11_letterOf 3 (some .int), Cond.constantLong RX11 246 (7), Cond.methodLink RX11 157 yX6_cut, Cond.instanceMethod yX6_cut, Cond.selects RX6 yX6_cut yX6_cut, Cond.code yX6_cut cX6_cut 2 none, Cond.methodLink RL 55 yX12_row, Cond.instanceMethod yX12_row, Cond.selects RX12 yX12_row yX12_row, Cond.code yX12_row cX12_row 5 (some .int), Cond.constantLong RX12 222 (7), Cond.constantLong RX12 224 (5)]
def wsL_law_r25 : List Cond := [Cond.methodLink RL 56 yX11_partner, Cond.instanceMethod yX11_partner, Cond.selects RX11 yX11_partner yX11_partner, Cond.code yX11_partner cX11_partner 2 (some .int), Cond.methodLink RX11 160 yX6_partnerOf, Cond.instanceMethod yX6_partnerOf, Cond.selects RX6 yX6_partnerOf yX6_partnerOf, Cond.code yX6_partnerOf cX6_partnerOf 4 (some .int), Cond.methodLink RL 59 yX12_partner, Cond.instanceMethod yX12_partner, Cond.selects RX12 yX12_partner yX12_partner, Cond.code yX12_partner cX12_partner 2 (some .int), Cond.methodLink RX12 226 yX12_findPartners, Cond.instanceMethod yX12_findPartners, Cond.selects RX12 yX12_findPartners yX12_findPartners, Cond.code yX12_findPartners cX12_findPartners 4 (some .int), Cond.methodLink RL 60 yX11_depth, Cond.instanceMethod yX11_depth, Cond.selects RX11 yX11_depth yX11_depth, Cond.code yX11_depth cX11_depth 2 (some .int), Cond.methodLink RX11 164 yX11_isBehind, Cond.instanceMethod yX11_isBehind, Cond.selects RX11 yX11_isBehind yX11_isBehind, Cond.code yX11_isBehind cX11_isBehind 2 (some .boolean)]
def wsL_law_r26 : List Cond := [Cond.methodLink RX11 167 yX6_depthBehind, Cond.instanceMethod yX6_depthBehind, Cond.selects RX6 yX6_depthBehind yX6_depthBehind, Cond.code yX6_depthBehind cX6_depthBehind 4 (some .int), Cond.methodLink RL 63 yX12_depth, Cond.instanceMethod yX12_depth, Cond.selects RX12 yX12_depth yX12_depth, Cond.code yX12_depth cX12_depth 2 (some .int), Cond.methodLink RL 64 yX11_run, Cond.instanceMethod yX11_run, Cond.selects RX11 yX11_run yX11_run, Cond.code yX11_run cX11_run 5 (some .int), Cond.methodLink RX11 170 yX7_runs, Cond.instanceMethod yX7_runs, Cond.selects RX7 yX7_runs yX7_runs, Cond.code yX7_runs cX7_runs 7 (some .int), Cond.constantLong RX7 32 (1000000007), Cond.methodLink RX7 24 yX7_beginSince, Cond.instanceMethod yX7_beginSince, Cond.selects RX7 yX7_beginSince yX7_beginSince, Cond.code yX7_beginSince cX7_beginSince 3 none, Cond.methodLink RX7 28 yX7_step, Cond.instanceMethod yX7_step, Cond.selects RX7 yX7_step yX7_step]
def wsL_law_r27 : List Cond := [Cond.code yX7_step cX7_step 7 none, Cond.methodLink RX7 34 yX6_letterAt, Cond.methodLink RX7 40 yX6_openAt, Cond.methodLink RX7 43 yX7_clear, Cond.static yX7_clear, Cond.code yX7_clear cX7_clear 2 none, Cond.methodLink RX7 47 yX5_opens, Cond.methodLink RX7 53 yX5_way, Cond.methodLink RX7 57 yX7_addWay, Cond.instanceMethod yX7_addWay, Cond.selects RX7 yX7_addWay yX7_addWay, Cond.code yX7_addWay cX7_addWay 3 none, Cond.methodLink RX7 60 yX7_goOn, Cond.instanceMethod yX7_goOn, Cond.selects RX7 yX7_goOn yX7_goOn, Cond.code yX7_goOn cX7_goOn 3 none, Cond.methodLink RX7 71 yX7_times, Cond.instanceMethod yX7_times, Cond.selects RX7 yX7_times yX7_times, Cond.code yX7_times cX7_times 10 none, Cond.methodLink RX7 64 yX5_isPlain, Cond.methodLink RX7 67 yX7_addWrapped, Cond.instanceMethod yX7_addWrapped, Cond.selects RX7 yX7_addWrapped yX7_addWrapped]
def wsL_law_r28 : List Cond := [Cond.code yX7_addWrapped cX7_addWrapped 6 none, Cond.methodLink RX11 174 yX9_follow, Cond.instanceMethod yX9_follow, Cond.selects RX9 yX9_follow yX9_follow, Cond.code yX9_follow cX9_follow 5 none, Cond.methodLink RX9 28 yX9_begin, Cond.instanceMethod yX9_begin, Cond.selects RX9 yX9_begin yX9_begin, Cond.code yX9_begin cX9_begin 2 none, Cond.methodLink RX9 22 yX5_identity, Cond.instanceMethod yX5_identity, Cond.selects RX5 yX5_identity yX5_identity, Cond.code yX5_identity cX5_identity 3 (some .int), Cond.methodLink RX9 32 yX9_step, Cond.instanceMethod yX9_step, Cond.selects RX9 yX9_step yX9_step, Cond.code yX9_step cX9_step 6 none, Cond.methodLink RX9 36 yX6_letterAt, Cond.methodLink RX9 42 yX6_openAt, Cond.methodLink RX9 45 yX5_isPlain, Cond.methodLink RX9 49 yX5_way, Cond.methodLink RX9 53 yX9_goOn, Cond.instanceMethod yX9_goOn, Cond.selects RX9 yX9_goOn yX9_goOn]
def wsL_law_r29 : List Cond := [Cond.code yX9_goOn cX9_goOn 4 none, Cond.methodLink RX9 67 yX5_image, Cond.static yX5_image, Cond.code yX5_image cX5_image 3 (some .int), Cond.methodLink RX9 70 yX5_then, Cond.static yX5_then, Cond.code yX5_then cX5_then 2 (some .int), Cond.methodLink RX5 64 yX5_image, Cond.methodLink RX9 57 yX5_closes, Cond.methodLink RX9 60 yX5_wrapped, Cond.instanceMethod yX5_wrapped, Cond.selects RX5 yX5_wrapped yX5_wrapped, Cond.code yX5_wrapped cX5_wrapped 6 (some .int), Cond.methodLink RX5 61 yX5_then, Cond.methodLink RX9 64 yX5_alone, Cond.instanceMethod yX5_alone, Cond.selects RX5 yX5_alone yX5_alone, Cond.code yX5_alone cX5_alone 2 (some .int), Cond.methodLink RX11 178 yX9_comeAt, Cond.instanceMethod yX9_comeAt, Cond.selects RX9 yX9_comeAt yX9_comeAt, Cond.code yX9_comeAt cX9_comeAt 2 (some .int), Cond.methodLink RX11 181 yX5_takesAny, Cond.instanceMethod yX5_takesAny]
def wsL_law_r30 : List Cond := [Cond.selects RX5 yX5_takesAny yX5_takesAny, Cond.code yX5_takesAny cX5_takesAny 2 (some .boolean), Cond.methodLink RL 68 yX12_run, Cond.instanceMethod yX12_run, Cond.selects RX12 yX12_run yX12_run, Cond.code yX12_run cX12_run 4 (some .int), Cond.constantLong RX12 290 (1000000007), Cond.fieldLink RX12 242 "NestReadersModel" "come" "I", Cond.methodLink RX12 292 yX12_countRuns, Cond.instanceMethod yX12_countRuns, Cond.selects RX12 yX12_countRuns yX12_countRuns, Cond.code yX12_countRuns cX12_countRuns 8 none, Cond.methodLink RX12 274 yX12_toItself, Cond.instanceMethod yX12_toItself, Cond.selects RX12 yX12_toItself yX12_toItself, Cond.code yX12_toItself cX12_toItself 2 none, Cond.methodLink RX12 277 yX12_stepRuns, Cond.instanceMethod yX12_stepRuns, Cond.selects RX12 yX12_stepRuns yX12_stepRuns, Cond.code yX12_stepRuns cX12_stepRuns 7 none, Cond.methodLink RX12 280 yX12_stepWays, Cond.instanceMethod yX12_stepWays, Cond.selects RX12 yX12_stepWays yX12_stepWays, Cond.code yX12_stepWays cX12_stepWays 9 none]
def wsL_law_r31 : List Cond := [Cond.methodLink RX12 283 yX12_letterOpen, Cond.instanceMethod yX12_letterOpen, Cond.selects RX12 yX12_letterOpen yX12_letterOpen, Cond.code yX12_letterOpen cX12_letterOpen 2 (some .int), Cond.methodLink RX12 286 yX12_waysOver, Cond.instanceMethod yX12_waysOver, Cond.selects RX12 yX12_waysOver yX12_waysOver, Cond.code yX12_waysOver cX12_waysOver 11 (some .long), Cond.methodLink RX12 295 yX12_goRow, Cond.instanceMethod yX12_goRow, Cond.selects RX12 yX12_goRow yX12_goRow, Cond.code yX12_goRow cX12_goRow 4 none, Cond.methodLink RX12 266 yX12_beginRow, Cond.instanceMethod yX12_beginRow, Cond.selects RX12 yX12_beginRow yX12_beginRow, Cond.code yX12_beginRow cX12_beginRow 2 none, Cond.fieldLink RX12 236 "NestReadersModel" "stacked" "I", Cond.fieldLink RX12 248 "NestReadersModel" "since" "I", Cond.methodLink RX12 239 yX12_begun, Cond.static yX12_begun, Cond.code yX12_begun cX12_begun 1 (some .int), Cond.methodLink RX12 245 yX12_itself, Cond.instanceMethod yX12_itself, Cond.selects RX12 yX12_itself yX12_itself]
def wsL_law_r32 : List Cond := [Cond.code yX12_itself cX12_itself 5 (some .int), Cond.methodLink RX12 229 yX12_isOf, Cond.static yX12_isOf, Cond.code yX12_isOf cX12_isOf 2 (some .boolean), Cond.methodLink RX12 270 yX12_goOn, Cond.instanceMethod yX12_goOn, Cond.selects RX12 yX12_goOn yX12_goOn, Cond.code yX12_goOn cX12_goOn 4 none, Cond.methodLink RX12 251 yX12_opened, Cond.instanceMethod yX12_opened, Cond.selects RX12 yX12_opened yX12_opened, Cond.code yX12_opened cX12_opened 8 (some .int), Cond.methodLink RX12 254 yX12_plain, Cond.instanceMethod yX12_plain, Cond.selects RX12 yX12_plain yX12_plain, Cond.code yX12_plain cX12_plain 6 (some .int), Cond.methodLink RX12 232 yX12_image, Cond.static yX12_image, Cond.code yX12_image cX12_image 5 (some .int), Cond.methodLink RX12 257 yX12_follow, Cond.static yX12_follow, Cond.code yX12_follow cX12_follow 8 (some .int), Cond.methodLink RX12 260 yX12_block, Cond.instanceMethod yX12_block]
def wsL_law_r33 : List Cond := [Cond.selects RX12 yX12_block yX12_block, Cond.code yX12_block cX12_block 12 (some .int), Cond.methodLink RX12 263 yX12_closedOff, Cond.instanceMethod yX12_closedOff, Cond.selects RX12 yX12_closedOff yX12_closedOff, Cond.code yX12_closedOff cX12_closedOff 7 (some .int), Cond.methodLink RX12 298 yX12_doesTake, Cond.instanceMethod yX12_doesTake, Cond.selects RX12 yX12_doesTake yX12_doesTake, Cond.code yX12_doesTake cX12_doesTake 3 (some .boolean), Cond.methodLink RL 69 yX11_between, Cond.instanceMethod yX11_between, Cond.selects RX11 yX11_between yX11_between, Cond.code yX11_between cX11_between 2 (some .int), Cond.methodLink RX11 184 yX6_isWhole, Cond.instanceMethod yX6_isWhole, Cond.selects RX6 yX6_isWhole yX6_isWhole, Cond.code yX6_isWhole cX6_isWhole 1 (some .boolean), Cond.methodLink RX11 188 yX9_sinceAt, Cond.instanceMethod yX9_sinceAt, Cond.selects RX9 yX9_sinceAt yX9_sinceAt, Cond.code yX9_sinceAt cX9_sinceAt 2 (some .int), Cond.methodLink RL 72 yX12_between, Cond.instanceMethod yX12_between]
def wsL_law_r34 : List Cond := [Cond.selects RX12 yX12_between yX12_between, Cond.code yX12_between cX12_between 4 (some .int), Cond.methodLink RL 73 yX11_places, Cond.instanceMethod yX11_places, Cond.selects RX11 yX11_places yX11_places, Cond.code yX11_places cX11_places 3 (some .int), Cond.methodLink RX11 191 yX11_placesOf, Cond.instanceMethod yX11_placesOf, Cond.selects RX11 yX11_placesOf yX11_placesOf, Cond.code yX11_placesOf cX11_placesOf 2 (some (.object "NestReaders$Places")), Cond.methodLink RX11 195 yX4_areSpent, Cond.instanceMethod yX4_areSpent, Cond.selects RX4 yX4_areSpent yX4_areSpent, Cond.code yX4_areSpent cX4_areSpent 5 (some .boolean), Cond.methodLink RX4 54 yX1_changes, Cond.instanceMethod yX1_changes, Cond.selects RX1 yX1_changes yX1_changes, Cond.code yX1_changes cX1_changes 1 (some .int), Cond.methodLink RX1 22 yX5_changes, Cond.instanceMethod yX5_changes, Cond.selects RX5 yX5_changes yX5_changes, Cond.code yX5_changes cX5_changes 1 (some .int), Cond.methodLink RX4 57 yX10_build, Cond.instanceMethod yX10_build]
def wsL_law_r35 : List Cond := [Cond.selects RX10 yX10_build yX10_build, Cond.code yX10_build cX10_build 5 none, Cond.methodLink RX10 54 yX1_identity, Cond.instanceMethod yX1_identity, Cond.selects RX1 yX1_identity yX1_identity, Cond.code yX1_identity cX1_identity 1 (some .int), Cond.methodLink RX1 32 yX5_identity, Cond.methodLink RX1 35 yX1_joinedPair, Cond.static yX1_joinedPair, Cond.code yX1_joinedPair cX1_joinedPair 2 (some .int), Cond.methodLink RX10 60 yX10_numberOf, Cond.instanceMethod yX10_numberOf, Cond.selects RX10 yX10_numberOf yX10_numberOf, Cond.code yX10_numberOf cX10_numberOf 3 (some .int), Cond.methodLink RX10 81 yX10_slotOf, Cond.instanceMethod yX10_slotOf, Cond.selects RX10 yX10_slotOf yX10_slotOf, Cond.code yX10_slotOf cX10_slotOf 5 (some .int), Cond.constant RX10 91 (40503), Cond.methodLink RX10 64 yX1_plain, Cond.instanceMethod yX1_plain, Cond.selects RX1 yX1_plain yX1_plain, Cond.code yX1_plain cX1_plain 2 (some .int), Cond.methodLink RX1 38 yX1_identity]
def wsL_law_r36 : List Cond := [Cond.methodLink RX1 39 yX5_way, Cond.methodLink RX1 42 yX1_then, Cond.static yX1_then, Cond.code yX1_then cX1_then 2 (some .int), Cond.methodLink RX1 64 yX5_then, Cond.methodLink RX10 66 yX10_stepFor, Cond.instanceMethod yX10_stepFor, Cond.selects RX10 yX10_stepFor yX10_stepFor, Cond.code yX10_stepFor cX10_stepFor 3 (some .int), Cond.methodLink RX10 69 yX1_wrapped, Cond.instanceMethod yX1_wrapped, Cond.selects RX1 yX1_wrapped yX1_wrapped, Cond.code yX1_wrapped cX1_wrapped 4 (some .int), Cond.methodLink RX1 45 yX5_wrapped, Cond.methodLink RX10 73 yX10_link, Cond.instanceMethod yX10_link, Cond.selects RX10 yX10_link yX10_link, Cond.code yX10_link cX10_link 5 none, Cond.methodLink RX10 88 yX1_then, Cond.methodLink RX4 60 yX10_areSpent, Cond.instanceMethod yX10_areSpent, Cond.selects RX10 yX10_areSpent yX10_areSpent, Cond.code yX10_areSpent cX10_areSpent 1 (some .boolean), Cond.methodLink RX4 64 yX1_beginning]
def wsL_law_r37 : List Cond := [Cond.instanceMethod yX1_beginning, Cond.selects RX1 yX1_beginning yX1_beginning, Cond.code yX1_beginning cX1_beginning 1 (some .int), Cond.methodLink RX1 28 yX1_joinedCode, Cond.static yX1_joinedCode, Cond.code yX1_joinedCode cX1_joinedCode 2 (some .int), Cond.methodLink RX4 67 yX4_spread, Cond.instanceMethod yX4_spread, Cond.selects RX4 yX4_spread yX4_spread, Cond.code yX4_spread cX4_spread 6 (some .long), Cond.methodLink RX4 132 yX4_fill, Cond.instanceMethod yX4_fill, Cond.selects RX4 yX4_fill yX4_fill, Cond.code yX4_fill cX4_fill 4 none, Cond.methodLink RX4 119 yX10_size, Cond.instanceMethod yX10_size, Cond.selects RX10 yX10_size yX10_size, Cond.code yX10_size cX10_size 1 (some .int), Cond.methodLink RX4 142 yX10_pairAt, Cond.instanceMethod yX10_pairAt, Cond.selects RX10 yX10_pairAt yX10_pairAt, Cond.code yX10_pairAt cX10_pairAt 2 (some .int), Cond.methodLink RX4 145 yX1_image, Cond.static yX1_image]
def wsL_law_r38 : List Cond := [Cond.code yX1_image cX1_image 2 (some .int), Cond.methodLink RX1 63 yX5_image, Cond.methodLink RX4 71 yX4_reached, Cond.instanceMethod yX4_reached, Cond.selects RX4 yX4_reached yX4_reached, Cond.code yX4_reached cX4_reached 9 (some .long), Cond.methodLink RX4 75 yX4_alone, Cond.instanceMethod yX4_alone, Cond.selects RX4 yX4_alone yX4_alone, Cond.code yX4_alone cX4_alone 7 (some .long), Cond.methodLink RX4 130 yX1_alone, Cond.instanceMethod yX1_alone, Cond.selects RX1 yX1_alone yX1_alone, Cond.code yX1_alone cX1_alone 3 (some .int), Cond.methodLink RX1 49 yX5_alone, Cond.methodLink RX1 53 yX1_image, Cond.methodLink RX4 78 yX4_sizeFrom, Cond.instanceMethod yX4_sizeFrom, Cond.selects RX4 yX4_sizeFrom yX4_sizeFrom, Cond.code yX4_sizeFrom cX4_sizeFrom 8 (some .int), Cond.methodLink RX4 121 yX4_image, Cond.instanceMethod yX4_image, Cond.selects RX4 yX4_image yX4_image, Cond.code yX4_image cX4_image 4 (some .int)]
def wsL_law_r39 : List Cond := [Cond.methodLink RX4 125 yJ13_bitCount_95d88, Cond.static yJ13_bitCount_95d88, Cond.initialized RJ13, Cond.code yJ13_bitCount_95d88 cJ13_bitCount_95d88 2 (some .int), Cond.constantLong RJ13 314 (6148914691236517205), Cond.constantLong RJ13 316 (3689348814741910323), Cond.constantLong RJ13 318 (1085102592571150095), Cond.methodLink RX11 198 yX4_size, Cond.instanceMethod yX4_size, Cond.selects RX4 yX4_size yX4_size, Cond.code yX4_size cX4_size 1 (some .int), Cond.methodLink RL 76 yX12_places, Cond.instanceMethod yX12_places, Cond.selects RX12 yX12_places yX12_places, Cond.code yX12_places cX12_places 2 (some .int), Cond.fieldLink RX12 304 "NestReadersModel" "isSpent" "Z", Cond.fieldLink RX12 318 "NestReadersModel" "places" "I", Cond.methodLink RX12 331 yX12_findPlaces, Cond.instanceMethod yX12_findPlaces, Cond.selects RX12 yX12_findPlaces yX12_findPlaces, Cond.code yX12_findPlaces cX12_findPlaces 4 none, Cond.fieldLink RX12 311 "NestReadersModel" "nodes" "I", Cond.methodLink RX12 325 yX12_findWholes, Cond.instanceMethod yX12_findWholes]
def wsL_law_r40 : List Cond := [Cond.selects RX12 yX12_findWholes yX12_findWholes, Cond.code yX12_findWholes cX12_findWholes 7 none, Cond.fieldLink RX12 301 "NestReadersModel" "wholes" "I", Cond.methodLink RX12 308 yX12_meetWhole, Cond.instanceMethod yX12_meetWhole, Cond.selects RX12 yX12_meetWhole yX12_meetWhole, Cond.code yX12_meetWhole cX12_meetWhole 5 (some .boolean), Cond.methodLink RX12 321 yX12_meetNode, Cond.instanceMethod yX12_meetNode, Cond.selects RX12 yX12_meetNode yX12_meetNode, Cond.code yX12_meetNode cX12_meetNode 7 (some .boolean), Cond.methodLink RX12 314 yX12_nodeOf, Cond.instanceMethod yX12_nodeOf, Cond.selects RX12 yX12_nodeOf yX12_nodeOf, Cond.code yX12_nodeOf cX12_nodeOf 5 (some .int), Cond.methodLink RX12 328 yX12_meetBehind, Cond.instanceMethod yX12_meetBehind, Cond.selects RX12 yX12_meetBehind yX12_meetBehind, Cond.code yX12_meetBehind cX12_meetBehind 9 (some .boolean), Cond.methodLink RL 77 yX11_alike, Cond.instanceMethod yX11_alike, Cond.selects RX11 yX11_alike yX11_alike, Cond.code yX11_alike cX11_alike 5 (some .int), Cond.methodLink RX11 199 yX11_isAtOnePlace]
def wsL_law_r41 : List Cond := [Cond.instanceMethod yX11_isAtOnePlace, Cond.selects RX11 yX11_isAtOnePlace yX11_isAtOnePlace, Cond.code yX11_isAtOnePlace cX11_isAtOnePlace 4 (some .boolean), Cond.methodLink RX11 248 Lib.Math.max.name, Cond.static Lib.Math.max.name, Cond.initialized "java/lang/Math", Cond.code Lib.Math.max.name Lib.Math.max.code 2 (some .int), Cond.methodLink RL 80 yX12_alike, Cond.instanceMethod yX12_alike, Cond.selects RX12 yX12_alike yX12_alike, Cond.code yX12_alike cX12_alike 6 (some .int), Cond.methodLink RL 81 yX11_shortest, Cond.instanceMethod yX11_shortest, Cond.selects RX11 yX11_shortest yX11_shortest, Cond.code yX11_shortest cX11_shortest 3 (some .int), Cond.methodLink RX11 203 yX11_lengthsOf, Cond.instanceMethod yX11_lengthsOf, Cond.selects RX11 yX11_lengthsOf yX11_lengthsOf, Cond.code yX11_lengthsOf cX11_lengthsOf 2 (some (.object "NestReaders$Lengths")), Cond.methodLink RX11 207 yX4_held, Cond.methodLink RX11 211 yX1_takenByOne, Cond.instanceMethod yX1_takenByOne, Cond.selects RX1 yX1_takenByOne yX1_takenByOne, Cond.code yX1_takenByOne cX1_takenByOne 4 (some .long)]
def wsL_law_r42 : List Cond := [Cond.methodLink RX1 56 yX1_codes, Cond.methodLink RX1 59 yX5_takesAny, Cond.methodLink RX11 215 yX2_least, Cond.instanceMethod yX2_least, Cond.selects RX2 yX2_least yX2_least, Cond.code yX2_least cX2_least 5 (some .int), Cond.constant RX2 51 (1000000000), Cond.methodLink RX2 52 Lib.Math.min.name, Cond.static Lib.Math.min.name, Cond.code Lib.Math.min.name Lib.Math.min.code 2 (some .int), Cond.methodLink RX2 48 yX2_refresh, Cond.instanceMethod yX2_refresh, Cond.selects RX2 yX2_refresh yX2_refresh, Cond.code yX2_refresh cX2_refresh 3 none, Cond.methodLink RX2 58 yX4_edition, Cond.instanceMethod yX4_edition, Cond.selects RX4 yX4_edition yX4_edition, Cond.code yX4_edition cX4_edition 1 (some .int), Cond.methodLink RX2 60 yX2_setAllFar, Cond.instanceMethod yX2_setAllFar, Cond.selects RX2 yX2_setAllFar yX2_setAllFar, Cond.code yX2_setAllFar cX2_setAllFar 2 none, Cond.methodLink RX2 63 yX4_wholes, Cond.instanceMethod yX4_wholes]
def wsL_law_r43 : List Cond := [Cond.selects RX4 yX4_wholes yX4_wholes, Cond.code yX4_wholes cX4_wholes 1 (some (.object "NestReaders$Wholes")), Cond.methodLink RX2 67 yX2_shorten, Cond.instanceMethod yX2_shorten, Cond.selects RX2 yX2_shorten yX2_shorten, Cond.code yX2_shorten cX2_shorten 4 none, Cond.methodLink RX2 71 yX10_stepOfPlain, Cond.instanceMethod yX10_stepOfPlain, Cond.selects RX10 yX10_stepOfPlain yX10_stepOfPlain, Cond.code yX10_stepOfPlain cX10_stepOfPlain 2 (some .int), Cond.methodLink RX10 48 yX5_isPlain, Cond.methodLink RX2 77 yX2_shortenWholes, Cond.instanceMethod yX2_shortenWholes, Cond.selects RX2 yX2_shortenWholes yX2_shortenWholes, Cond.code yX2_shortenWholes cX2_shortenWholes 4 none, Cond.methodLink RX2 87 yX10_size, Cond.methodLink RX2 90 yX10_stepAround, Cond.instanceMethod yX10_stepAround, Cond.selects RX10 yX10_stepAround yX10_stepAround, Cond.code yX10_stepAround cX10_stepAround 3 (some .int), Cond.methodLink RX2 93 yX10_steps, Cond.instanceMethod yX10_steps, Cond.selects RX10 yX10_steps yX10_steps, Cond.code yX10_steps cX10_steps 1 (some .int)]
def wsL_law_r44 : List Cond := [Cond.methodLink RX2 96 yX10_after, Cond.instanceMethod yX10_after, Cond.selects RX10 yX10_after yX10_after, Cond.code yX10_after cX10_after 4 (some .int), Cond.methodLink RX2 81 yX1_beginning, Cond.methodLink RX2 84 yX2_shortenCodes, Cond.instanceMethod yX2_shortenCodes, Cond.selects RX2 yX2_shortenCodes yX2_shortenCodes, Cond.code yX2_shortenCodes cX2_shortenCodes 7 none, Cond.methodLink RX2 99 yX10_wholeOfStep, Cond.instanceMethod yX10_wholeOfStep, Cond.selects RX10 yX10_wholeOfStep yX10_wholeOfStep, Cond.code yX10_wholeOfStep cX10_wholeOfStep 2 (some .int), Cond.methodLink RX2 102 yX4_image, Cond.methodLink RX2 105 yX1_alone, Cond.methodLink RL 84 yX12_shortest, Cond.instanceMethod yX12_shortest, Cond.selects RX12 yX12_shortest yX12_shortest, Cond.code yX12_shortest cX12_shortest 2 (some .int), Cond.methodLink RX12 337 yX12_shortestOf, Cond.instanceMethod yX12_shortestOf, Cond.selects RX12 yX12_shortestOf yX12_shortestOf, Cond.code yX12_shortestOf cX12_shortestOf 4 (some .int), Cond.methodLink RX12 334 yX12_isSought]
def wsL_law_r45 : List Cond := [Cond.instanceMethod yX12_isSought, Cond.selects RX12 yX12_isSought yX12_isSought, Cond.code yX12_isSought cX12_isSought 5 (some .boolean), Cond.methodLink RL 85 yX11_first, Cond.instanceMethod yX11_first, Cond.selects RX11 yX11_first yX11_first, Cond.code yX11_first cX11_first 5 (some .int), Cond.methodLink RX11 219 yX11_listingOf, Cond.instanceMethod yX11_listingOf, Cond.selects RX11 yX11_listingOf yX11_listingOf, Cond.code yX11_listingOf cX11_listingOf 2 (some (.object "NestReaders$Listing")), Cond.methodLink RX11 223 yX3_letterAt, Cond.instanceMethod yX3_letterAt, Cond.selects RX3 yX3_letterAt yX3_letterAt, Cond.code yX3_letterAt cX3_letterAt 6 (some .int), Cond.methodLink RX3 41 yX3_forgetIfChanged, Cond.instanceMethod yX3_forgetIfChanged, Cond.selects RX3 yX3_forgetIfChanged yX3_forgetIfChanged, Cond.code yX3_forgetIfChanged cX3_forgetIfChanged 2 none, Cond.methodLink RX3 60 yX5_changes, Cond.methodLink RX3 44 yX6_cut, Cond.methodLink RX3 48 yX9_begin, Cond.methodLink RX3 52 yX3_grow, Cond.static yX3_grow]
def wsL_law_r46 : List Cond := [Cond.code yX3_grow cX3_grow 6 none, Cond.methodLink RX3 66 yX9_comeAt, Cond.methodLink RX3 70 yX5_takesAny, Cond.methodLink RX3 74 yX3_keep, Cond.instanceMethod yX3_keep, Cond.selects RX3 yX3_keep yX3_keep, Cond.code yX3_keep cX3_keep 4 none, Cond.fieldLink RX3 85 "NestReaders$Listing" "BEGIN" "[I", Cond.methodLink RX3 78 yX6_append, Cond.methodLink RX3 81 yX9_step, Cond.methodLink RX3 56 yX3_numberOf, Cond.instanceMethod yX3_numberOf, Cond.selects RX3 yX3_numberOf yX3_numberOf, Cond.code yX3_numberOf cX3_numberOf 7 (some .int), Cond.methodLink RX3 89 yJ13_bitCount_95d88, Cond.methodLink RX3 95 yX3_placeOf, Cond.static yX3_placeOf, Cond.code yX3_placeOf cX3_placeOf 5 (some .int), Cond.methodLink RL 89 yX12_first, Cond.instanceMethod yX12_first, Cond.selects RX12 yX12_first yX12_first, Cond.code yX12_first cX12_first 4 (some .int), Cond.methodLink RX12 343 yX12_letterOf, Cond.instanceMethod yX12_letterOf]
def wsL_law_r47 : List Cond := [Cond.selects RX12 yX12_letterOf yX12_letterOf, Cond.code yX12_letterOf cX12_letterOf 8 (some .int), Cond.methodLink RX12 340 yX12_isTaken, Cond.instanceMethod yX12_isTaken, Cond.selects RX12 yX12_isTaken yX12_isTaken, Cond.code yX12_isTaken cX12_isTaken 6 (some .boolean), Cond.methodLink RL 90 yX11_many, Cond.instanceMethod yX11_many, Cond.selects RX11 yX11_many yX11_many, Cond.code yX11_many cX11_many 5 (some .int), Cond.methodLink RX11 227 yX0_rowsWithin, Cond.instanceMethod yX0_rowsWithin, Cond.selects RX0 yX0_rowsWithin yX0_rowsWithin, Cond.code yX0_rowsWithin cX0_rowsWithin 7 (some .int), Cond.constantLong RX0 56 (1000000007), Cond.methodLink RX0 49 yX0_refresh, Cond.instanceMethod yX0_refresh, Cond.selects RX0 yX0_refresh yX0_refresh, Cond.code yX0_refresh cX0_refresh 1 none, Cond.methodLink RX0 58 yX4_edition, Cond.methodLink RX0 60 yX0_clearLine, Cond.instanceMethod yX0_clearLine, Cond.selects RX0 yX0_clearLine yX0_clearLine, Cond.code yX0_clearLine cX0_clearLine 3 none]
def wsL_law_r48 : List Cond := [Cond.methodLink RX0 63 yX0_add, Cond.static yX0_add, Cond.code yX0_add cX0_add 4 none, Cond.methodLink RX0 67 yX1_beginning, Cond.methodLink RX0 52 yX0_extend, Cond.instanceMethod yX0_extend, Cond.selects RX0 yX0_extend yX0_extend, Cond.code yX0_extend cX0_extend 3 none, Cond.methodLink RX0 70 yX4_wholes, Cond.methodLink RX0 74 yX0_countSteps, Cond.instanceMethod yX0_countSteps, Cond.selects RX0 yX0_countSteps yX0_countSteps, Cond.code yX0_countSteps cX0_countSteps 6 none, Cond.methodLink RX0 89 yX10_stepOfPlain, Cond.methodLink RX0 95 yX10_size, Cond.methodLink RX0 98 yX10_stepAround, Cond.methodLink RX0 78 yX0_addWholes, Cond.instanceMethod yX0_addWholes, Cond.selects RX0 yX0_addWholes yX0_addWholes, Cond.code yX0_addWholes cX0_addWholes 11 none, Cond.methodLink RX0 102 yX10_steps, Cond.methodLink RX0 105 yX10_after, Cond.methodLink RX0 82 yX0_addCodes, Cond.instanceMethod yX0_addCodes]
def wsL_law_r49 : List Cond := [Cond.selects RX0 yX0_addCodes yX0_addCodes, Cond.code yX0_addCodes cX0_addCodes 12 none, Cond.methodLink RX0 108 yX10_wholeOfStep, Cond.methodLink RX0 111 yX4_image, Cond.methodLink RX0 86 yX0_addHalfOpen, Cond.instanceMethod yX0_addHalfOpen, Cond.selects RX0 yX0_addHalfOpen yX0_addHalfOpen, Cond.code yX0_addHalfOpen cX0_addHalfOpen 10 none, Cond.methodLink RX0 114 yX1_alone, Cond.methodLink RL 93 yX12_many, Cond.instanceMethod yX12_many, Cond.selects RX12 yX12_many yX12_many, Cond.code yX12_many cX12_many 6 (some .int), Cond.methodLink RX12 364 yX12_countWholes, Cond.instanceMethod yX12_countWholes, Cond.selects RX12 yX12_countWholes yX12_countWholes, Cond.code yX12_countWholes cX12_countWholes 9 none, Cond.methodLink RX12 346 yX12_wholeOf, Cond.instanceMethod yX12_wholeOf, Cond.selects RX12 yX12_wholeOf yX12_wholeOf, Cond.code yX12_wholeOf cX12_wholeOf 4 (some .int), Cond.methodLink RX12 349 yX12_countBlocks, Cond.instanceMethod yX12_countBlocks, Cond.selects RX12 yX12_countBlocks yX12_countBlocks]
def wsL_law_r50 : List Cond := [Cond.code yX12_countBlocks cX12_countBlocks 11 none, Cond.methodLink RX12 367 yX12_countNodes, Cond.instanceMethod yX12_countNodes, Cond.selects RX12 yX12_countNodes yX12_countNodes, Cond.code yX12_countNodes cX12_countNodes 7 none, Cond.methodLink RX12 353 yX12_findBlocks, Cond.instanceMethod yX12_findBlocks, Cond.selects RX12 yX12_findBlocks yX12_findBlocks, Cond.code yX12_findBlocks cX12_findBlocks 5 none, Cond.methodLink RX12 356 yX12_countBehind, Cond.instanceMethod yX12_countBehind, Cond.selects RX12 yX12_countBehind yX12_countBehind, Cond.code yX12_countBehind cX12_countBehind 15 none, Cond.methodLink RX12 360 yX12_addNode, Cond.instanceMethod yX12_addNode, Cond.selects RX12 yX12_addNode yX12_addNode, Cond.code yX12_addNode cX12_addNode 9 none, Cond.methodLink RL 94 yX11_of, Cond.instanceMethod yX11_of, Cond.selects RX11 yX11_of yX11_of, Cond.code yX11_of cX11_of 5 (some .int), Cond.methodLink RL 97 yX12_of, Cond.instanceMethod yX12_of, Cond.selects RX12 yX12_of yX12_of]
def wsL_law_r51 : List Cond := [Cond.code yX12_of cX12_of 5 (some .int), Cond.methodLink RL 98 yX11_watch, Cond.instanceMethod yX11_watch, Cond.selects RX11 yX11_watch yX11_watch, Cond.code yX11_watch cX11_watch 9 (some .int), Cond.constantLong RX11 234 (-1), Cond.methodLink RX11 230 yX4_codesAhead, Cond.instanceMethod yX4_codesAhead, Cond.selects RX4 yX4_codesAhead yX4_codesAhead, Cond.code yX4_codesAhead cX4_codesAhead 13 (some .long), Cond.methodLink RX4 82 yX9_sinceAt, Cond.methodLink RX4 88 yX10_find, Cond.instanceMethod yX10_find, Cond.selects RX10 yX10_find yX10_find, Cond.code yX10_find cX10_find 3 (some .int), Cond.methodLink RX4 91 yX4_bit, Cond.static yX4_bit, Cond.code yX4_bit cX4_bit 1 (some .long), Cond.methodLink RX4 95 yX10_reached, Cond.instanceMethod yX10_reached, Cond.selects RX10 yX10_reached yX10_reached, Cond.code yX10_reached cX10_reached 9 (some .long), Cond.methodLink RX10 77 yX10_followers, Cond.instanceMethod yX10_followers]
def wsL_law_r52 : List Cond := [Cond.selects RX10 yX10_followers yX10_followers, Cond.code yX10_followers cX10_followers 5 (some .long), Cond.methodLink RX10 84 yX10_after, Cond.methodLink RX4 97 yX6_baseAt, Cond.methodLink RX4 102 yX9_comeAt, Cond.methodLink RX4 105 yX4_codesFrom, Cond.instanceMethod yX4_codesFrom, Cond.selects RX4 yX4_codesFrom yX4_codesFrom, Cond.code yX4_codesFrom cX4_codesFrom 7 (some .long), Cond.methodLink RX4 109 yX6_openAt, Cond.methodLink RX4 112 yX6_letterAt, Cond.methodLink RX4 115 yX4_closedAround, Cond.instanceMethod yX4_closedAround, Cond.selects RX4 yX4_closedAround yX4_closedAround, Cond.code yX4_closedAround cX4_closedAround 8 (some .long), Cond.methodLink RX4 136 yX10_stepAround, Cond.methodLink RX4 139 yX10_after, Cond.methodLink RL 101 yX12_watch, Cond.instanceMethod yX12_watch, Cond.selects RX12 yX12_watch yX12_watch, Cond.code yX12_watch cX12_watch 8 (some .int), Cond.fieldLink RX12 370 "NestReadersModel" "listed" "I", Cond.fieldLink RX12 376 "NestReadersModel" "nexts" "I", Cond.methodLink RX12 373 yX12_list]
def wsL_law_r53 : List Cond := [Cond.instanceMethod yX12_list, Cond.selects RX12 yX12_list yX12_list, Cond.code yX12_list cX12_list 5 none, Cond.methodLink RX12 379 yX12_widen, Cond.instanceMethod yX12_widen, Cond.selects RX12 yX12_widen yX12_widen, Cond.code yX12_widen cX12_widen 8 none, Cond.methodLink RX12 383 yX12_judge, Cond.instanceMethod yX12_judge, Cond.selects RX12 yX12_judge yX12_judge, Cond.code yX12_judge cX12_judge 4 (some .int), Cond.methodLink RX12 386 yX12_putAside, Cond.instanceMethod yX12_putAside, Cond.selects RX12 yX12_putAside yX12_putAside, Cond.code yX12_putAside cX12_putAside 2 none, Cond.methodLink RX12 389 yX12_judgeDeeper, Cond.instanceMethod yX12_judgeDeeper, Cond.selects RX12 yX12_judgeDeeper yX12_judgeDeeper, Cond.code yX12_judgeDeeper cX12_judgeDeeper 6 (some .int), Cond.methodLink RL 102 yX11_compare, Cond.instanceMethod yX11_compare, Cond.selects RX11 yX11_compare yX11_compare, Cond.code yX11_compare cX11_compare 5 (some .int), Cond.methodLink RX11 236 yX1_takenByOther]
def wsL_law_r54 : List Cond := [Cond.instanceMethod yX1_takenByOther, Cond.selects RX1 yX1_takenByOther yX1_takenByOther, Cond.code yX1_takenByOther cX1_takenByOther 4 (some .long), Cond.methodLink RX11 239 yX11_codesAgainst, Cond.static yX11_codesAgainst, Cond.code yX11_codesAgainst cX11_codesAgainst 5 (some .long), Cond.methodLink RX11 243 yX4_codes, Cond.instanceMethod yX4_codes, Cond.selects RX4 yX4_codes yX4_codes, Cond.code yX4_codes cX4_codes 1 (some .long), Cond.methodLink RL 105 yX12_compare, Cond.instanceMethod yX12_compare, Cond.selects RX12 yX12_compare yX12_compare, Cond.code yX12_compare cX12_compare 6 (some .int), Cond.methodLink RL 106 yX11_parted, Cond.instanceMethod yX11_parted, Cond.selects RX11 yX11_parted yX11_parted, Cond.code yX11_parted cX11_parted 2 (some .int), Cond.methodLink RL 109 yX12_parted, Cond.instanceMethod yX12_parted, Cond.selects RX12 yX12_parted yX12_parted, Cond.code yX12_parted cX12_parted 1 (some .int), Cond.methodLink RL 110 yX11_both, Cond.instanceMethod yX11_both]
def wsL_law_r55 : List Cond := [Cond.selects RX11 yX11_both yX11_both, Cond.code yX11_both cX11_both 2 (some .int), Cond.methodLink RL 113 yX12_both, Cond.instanceMethod yX12_both, Cond.selects RX12 yX12_both yX12_both, Cond.code yX12_both cX12_both 1 (some .int), Cond.methodLink RL 114 yX11_count, Cond.instanceMethod yX11_count, Cond.selects RX11 yX11_count yX11_count, Cond.code yX11_count cX11_count 2 (some .int), Cond.methodLink RL 117 yX12_count, Cond.instanceMethod yX12_count, Cond.selects RX12 yX12_count yX12_count, Cond.code yX12_count cX12_count 2 (some .int)]
def wsL_law : List Cond := (wsL_law_r1 ++ (wsL_law_r2 ++ (wsL_law_r3 ++ (wsL_law_r4 ++ (wsL_law_r5 ++ (wsL_law_r6 ++ (wsL_law_r7 ++ (wsL_law_r8 ++ (wsL_law_r9 ++ (wsL_law_r10 ++ (wsL_law_r11 ++ (wsL_law_r12 ++ (wsL_law_r13 ++ (wsL_law_r14 ++ (wsL_law_r15 ++ (wsL_law_r16 ++ (wsL_law_r17 ++ (wsL_law_r18 ++ (wsL_law_r19 ++ (wsL_law_r20 ++ (wsL_law_r21 ++ (wsL_law_r22 ++ (wsL_law_r23 ++ (wsL_law_r24 ++ (wsL_law_r25 ++ (wsL_law_r26 ++ (wsL_law_r27 ++ (wsL_law_r28 ++ (wsL_law_r29 ++ (wsL_law_r30 ++ (wsL_law_r31 ++ (wsL_law_r32 ++ (wsL_law_r33 ++ (wsL_law_r34 ++ (wsL_law_r35 ++ (wsL_law_r36 ++ (wsL_law_r37 ++ (wsL_law_r38 ++ (wsL_law_r39 ++ (wsL_law_r40 ++ (wsL_law_r41 ++ (wsL_law_r42 ++ (wsL_law_r43 ++ (wsL_law_r44 ++ (wsL_law_r45 ++ (wsL_law_r46 ++ (wsL_law_r47 ++ (wsL_law_r48 ++ (wsL_law_r49 ++ (wsL_law_r50 ++ (wsL_law_r51 ++ (wsL_law_r52 ++ (wsL_law_r53 ++ (wsL_law_r54 ++ wsL_law_r55)))))))))))))))))))))))))))))))))))))))))))))))))))))) ++ wsX110 ++ wsX120 ++ wsX50 ++ wsX80 ++ wsX60 ++ wsX90 ++ wsX70 ++ wsX40 ++ wsX10 ++ wsX20 ++ wsX00 ++ wsX30 ++ wsX100 ++ ([] : List Cond)
theorem wG1 : ∀ w ∈ wsL_law_r1, w ∈ wsL_law := fun w h => List.mem_append_left _ (List.mem_append_left _ (List.mem_append_left _ (List.mem_append_left _ (List.mem_append_left _ (List.mem_append_left _ (List.mem_append_left _ (List.mem_append_left _ (List.mem_append_left _ (List.mem_append_left _ (List.mem_append_left _ (List.mem_append_left _ (List.mem_append_left _ (List.mem_append_left _ (List.mem_append_left _ h))))))))))))))
theorem wG2 : ∀ w ∈ wsL_law_r2, w ∈ wsL_law := fun w h => List.mem_append_left _ (List.mem_append_left _ (List.mem_append_left _ (List.mem_append_left _ (List.mem_append_left _ (List.mem_append_left _ (List.mem_append_left _ (List.mem_append_left _ (List.mem_append_left _ (List.mem_append_left _ (List.mem_append_left _ (List.mem_append_left _ (List.mem_append_left _ (List.mem_append_left _ (List.mem_append_right _ (List.mem_append_left _ h)))))))))))))))
theorem wG3 : ∀ w ∈ wsL_law_r3, w ∈ wsL_law := fun w h => List.mem_append_left _ (List.mem_append_left _ (List.mem_append_left _ (List.mem_append_left _ (List.mem_append_left _ (List.mem_append_left _ (List.mem_append_left _ (List.mem_append_left _ (List.mem_append_left _ (List.mem_append_left _ (List.mem_append_left _ (List.mem_append_left _ (List.mem_append_left _ (List.mem_append_left _ (List.mem_append_right _ (List.mem_append_right _ (List.mem_append_left _ h))))))))))))))))
theorem wG4 : ∀ w ∈ wsL_law_r4, w ∈ wsL_law := fun w h => List.mem_append_left _ (List.mem_append_left _ (List.mem_append_left _ (List.mem_append_left _ (List.mem_append_left _ (List.mem_append_left _ (List.mem_append_left _ (List.mem_append_left _ (List.mem_append_left _ (List.mem_append_left _ (List.mem_append_left _ (List.mem_append_left _ (List.mem_append_left _ (List.mem_append_left _ (List.mem_append_right _ (List.mem_append_right _ (List.mem_append_right _ (List.mem_append_left _ h)))))))))))))))))
theorem wG5 : ∀ w ∈ wsL_law_r5, w ∈ wsL_law := fun w h => List.mem_append_left _ (List.mem_append_left _ (List.mem_append_left _ (List.mem_append_left _ (List.mem_append_left _ (List.mem_append_left _ (List.mem_append_left _ (List.mem_append_left _ (List.mem_append_left _ (List.mem_append_left _ (List.mem_append_left _ (List.mem_append_left _ (List.mem_append_left _ (List.mem_append_left _ (List.mem_append_right _ (List.mem_append_right _ (List.mem_append_right _ (List.mem_append_right _ (List.mem_append_left _ h))))))))))))))))))
theorem wG6 : ∀ w ∈ wsL_law_r6, w ∈ wsL_law := fun w h => List.mem_append_left _ (List.mem_append_left _ (List.mem_append_left _ (List.mem_append_left _ (List.mem_append_left _ (List.mem_append_left _ (List.mem_append_left _ (List.mem_append_left _ (List.mem_append_left _ (List.mem_append_left _ (List.mem_append_left _ (List.mem_append_left _ (List.mem_append_left _ (List.mem_append_left _ (List.mem_append_right _ (List.mem_append_right _ (List.mem_append_right _ (List.mem_append_right _ (List.mem_append_right _ (List.mem_append_left _ h)))))))))))))))))))
theorem wG7 : ∀ w ∈ wsL_law_r7, w ∈ wsL_law := fun w h => List.mem_append_left _ (List.mem_append_left _ (List.mem_append_left _ (List.mem_append_left _ (List.mem_append_left _ (List.mem_append_left _ (List.mem_append_left _ (List.mem_append_left _ (List.mem_append_left _ (List.mem_append_left _ (List.mem_append_left _ (List.mem_append_left _ (List.mem_append_left _ (List.mem_append_left _ (List.mem_append_right _ (List.mem_append_right _ (List.mem_append_right _ (List.mem_append_right _ (List.mem_append_right _ (List.mem_append_right _ (List.mem_append_left _ h))))))))))))))))))))
theorem wG8 : ∀ w ∈ wsL_law_r8, w ∈ wsL_law := fun w h => List.mem_append_left _ (List.mem_append_left _ (List.mem_append_left _ (List.mem_append_left _ (List.mem_append_left _ (List.mem_append_left _ (List.mem_append_left _ (List.mem_append_left _ (List.mem_append_left _ (List.mem_append_left _ (List.mem_append_left _ (List.mem_append_left _ (List.mem_append_left _ (List.mem_append_left _ (List.mem_append_right _ (List.mem_append_right _ (List.mem_append_right _ (List.mem_append_right _ (List.mem_append_right _ (List.mem_append_right _ (List.mem_append_right _ (List.mem_append_left _ h)))))))))))))))))))))
theorem wG9 : ∀ w ∈ wsL_law_r9, w ∈ wsL_law := fun w h => List.mem_append_left _ (List.mem_append_left _ (List.mem_append_left _ (List.mem_append_left _ (List.mem_append_left _ (List.mem_append_left _ (List.mem_append_left _ (List.mem_append_left _ (List.mem_append_left _ (List.mem_append_left _ (List.mem_append_left _ (List.mem_append_left _ (List.mem_append_left _ (List.mem_append_left _ (List.mem_append_right _ (List.mem_append_right _ (List.mem_append_right _ (List.mem_append_right _ (List.mem_append_right _ (List.mem_append_right _ (List.mem_append_right _ (List.mem_append_right _ (List.mem_append_left _ h))))))))))))))))))))))
theorem wG10 : ∀ w ∈ wsL_law_r10, w ∈ wsL_law := fun w h => List.mem_append_left _ (List.mem_append_left _ (List.mem_append_left _ (List.mem_append_left _ (List.mem_append_left _ (List.mem_append_left _ (List.mem_append_left _ (List.mem_append_left _ (List.mem_append_left _ (List.mem_append_left _ (List.mem_append_left _ (List.mem_append_left _ (List.mem_append_left _ (List.mem_append_left _ (List.mem_append_right _ (List.mem_append_right _ (List.mem_append_right _ (List.mem_append_right _ (List.mem_append_right _ (List.mem_append_right _ (List.mem_append_right _ (List.mem_append_right _ (List.mem_append_right _ (List.mem_append_left _ h)))))))))))))))))))))))
theorem wG11 : ∀ w ∈ wsL_law_r11, w ∈ wsL_law := fun w h => List.mem_append_left _ (List.mem_append_left _ (List.mem_append_left _ (List.mem_append_left _ (List.mem_append_left _ (List.mem_append_left _ (List.mem_append_left _ (List.mem_append_left _ (List.mem_append_left _ (List.mem_append_left _ (List.mem_append_left _ (List.mem_append_left _ (List.mem_append_left _ (List.mem_append_left _ (List.mem_append_right _ (List.mem_append_right _ (List.mem_append_right _ (List.mem_append_right _ (List.mem_append_right _ (List.mem_append_right _ (List.mem_append_right _ (List.mem_append_right _ (List.mem_append_right _ (List.mem_append_right _ (List.mem_append_left _ h))))))))))))))))))))))))
theorem wG12 : ∀ w ∈ wsL_law_r12, w ∈ wsL_law := fun w h => List.mem_append_left _ (List.mem_append_left _ (List.mem_append_left _ (List.mem_append_left _ (List.mem_append_left _ (List.mem_append_left _ (List.mem_append_left _ (List.mem_append_left _ (List.mem_append_left _ (List.mem_append_left _ (List.mem_append_left _ (List.mem_append_left _ (List.mem_append_left _ (List.mem_append_left _ (List.mem_append_right _ (List.mem_append_right _ (List.mem_append_right _ (List.mem_append_right _ (List.mem_append_right _ (List.mem_append_right _ (List.mem_append_right _ (List.mem_append_right _ (List.mem_append_right _ (List.mem_append_right _ (List.mem_append_right _ (List.mem_append_left _ h)))))))))))))))))))))))))
theorem wG13 : ∀ w ∈ wsL_law_r13, w ∈ wsL_law := fun w h => List.mem_append_left _ (List.mem_append_left _ (List.mem_append_left _ (List.mem_append_left _ (List.mem_append_left _ (List.mem_append_left _ (List.mem_append_left _ (List.mem_append_left _ (List.mem_append_left _ (List.mem_append_left _ (List.mem_append_left _ (List.mem_append_left _ (List.mem_append_left _ (List.mem_append_left _ (List.mem_append_right _ (List.mem_append_right _ (List.mem_append_right _ (List.mem_append_right _ (List.mem_append_right _ (List.mem_append_right _ (List.mem_append_right _ (List.mem_append_right _ (List.mem_append_right _ (List.mem_append_right _ (List.mem_append_right _ (List.mem_append_right _ (List.mem_append_left _ h))))))))))))))))))))))))))
theorem wG14 : ∀ w ∈ wsL_law_r14, w ∈ wsL_law := fun w h => List.mem_append_left _ (List.mem_append_left _ (List.mem_append_left _ (List.mem_append_left _ (List.mem_append_left _ (List.mem_append_left _ (List.mem_append_left _ (List.mem_append_left _ (List.mem_append_left _ (List.mem_append_left _ (List.mem_append_left _ (List.mem_append_left _ (List.mem_append_left _ (List.mem_append_left _ (List.mem_append_right _ (List.mem_append_right _ (List.mem_append_right _ (List.mem_append_right _ (List.mem_append_right _ (List.mem_append_right _ (List.mem_append_right _ (List.mem_append_right _ (List.mem_append_right _ (List.mem_append_right _ (List.mem_append_right _ (List.mem_append_right _ (List.mem_append_right _ (List.mem_append_left _ h)))))))))))))))))))))))))))
theorem wG15 : ∀ w ∈ wsL_law_r15, w ∈ wsL_law := fun w h => List.mem_append_left _ (List.mem_append_left _ (List.mem_append_left _ (List.mem_append_left _ (List.mem_append_left _ (List.mem_append_left _ (List.mem_append_left _ (List.mem_append_left _ (List.mem_append_left _ (List.mem_append_left _ (List.mem_append_left _ (List.mem_append_left _ (List.mem_append_left _ (List.mem_append_left _ (List.mem_append_right _ (List.mem_append_right _ (List.mem_append_right _ (List.mem_append_right _ (List.mem_append_right _ (List.mem_append_right _ (List.mem_append_right _ (List.mem_append_right _ (List.mem_append_right _ (List.mem_append_right _ (List.mem_append_right _ (List.mem_append_right _ (List.mem_append_right _ (List.mem_append_right _ (List.mem_append_left _ h))))))))))))))))))))))))))))
theorem wG16 : ∀ w ∈ wsL_law_r16, w ∈ wsL_law := fun w h => List.mem_append_left _ (List.mem_append_left _ (List.mem_append_left _ (List.mem_append_left _ (List.mem_append_left _ (List.mem_append_left _ (List.mem_append_left _ (List.mem_append_left _ (List.mem_append_left _ (List.mem_append_left _ (List.mem_append_left _ (List.mem_append_left _ (List.mem_append_left _ (List.mem_append_left _ (List.mem_append_right _ (List.mem_append_right _ (List.mem_append_right _ (List.mem_append_right _ (List.mem_append_right _ (List.mem_append_right _ (List.mem_append_right _ (List.mem_append_right _ (List.mem_append_right _ (List.mem_append_right _ (List.mem_append_right _ (List.mem_append_right _ (List.mem_append_right _ (List.mem_append_right _ (List.mem_append_right _ (List.mem_append_left _ h)))))))))))))))))))))))))))))
theorem wG17 : ∀ w ∈ wsL_law_r17, w ∈ wsL_law := fun w h => List.mem_append_left _ (List.mem_append_left _ (List.mem_append_left _ (List.mem_append_left _ (List.mem_append_left _ (List.mem_append_left _ (List.mem_append_left _ (List.mem_append_left _ (List.mem_append_left _ (List.mem_append_left _ (List.mem_append_left _ (List.mem_append_left _ (List.mem_append_left _ (List.mem_append_left _ (List.mem_append_right _ (List.mem_append_right _ (List.mem_append_right _ (List.mem_append_right _ (List.mem_append_right _ (List.mem_append_right _ (List.mem_append_right _ (List.mem_append_right _ (List.mem_append_right _ (List.mem_append_right _ (List.mem_append_right _ (List.mem_append_right _ (List.mem_append_right _ (List.mem_append_right _ (List.mem_append_right _ (List.mem_append_right _ (List.mem_append_left _ h))))))))))))))))))))))))))))))
theorem wG18 : ∀ w ∈ wsL_law_r18, w ∈ wsL_law := fun w h => List.mem_append_left _ (List.mem_append_left _ (List.mem_append_left _ (List.mem_append_left _ (List.mem_append_left _ (List.mem_append_left _ (List.mem_append_left _ (List.mem_append_left _ (List.mem_append_left _ (List.mem_append_left _ (List.mem_append_left _ (List.mem_append_left _ (List.mem_append_left _ (List.mem_append_left _ (List.mem_append_right _ (List.mem_append_right _ (List.mem_append_right _ (List.mem_append_right _ (List.mem_append_right _ (List.mem_append_right _ (List.mem_append_right _ (List.mem_append_right _ (List.mem_append_right _ (List.mem_append_right _ (List.mem_append_right _ (List.mem_append_right _ (List.mem_append_right _ (List.mem_append_right _ (List.mem_append_right _ (List.mem_append_right _ (List.mem_append_right _ (List.mem_append_left _ h)))))))))))))))))))))))))))))))
theorem wG19 : ∀ w ∈ wsL_law_r19, w ∈ wsL_law := fun w h => List.mem_append_left _ (List.mem_append_left _ (List.mem_append_left _ (List.mem_append_left _ (List.mem_append_left _ (List.mem_append_left _ (List.mem_append_left _ (List.mem_append_left _ (List.mem_append_left _ (List.mem_append_left _ (List.mem_append_left _ (List.mem_append_left _ (List.mem_append_left _ (List.mem_append_left _ (List.mem_append_right _ (List.mem_append_right _ (List.mem_append_right _ (List.mem_append_right _ (List.mem_append_right _ (List.mem_append_right _ (List.mem_append_right _ (List.mem_append_right _ (List.mem_append_right _ (List.mem_append_right _ (List.mem_append_right _ (List.mem_append_right _ (List.mem_append_right _ (List.mem_append_right _ (List.mem_append_right _ (List.mem_append_right _ (List.mem_append_right _ (List.mem_append_right _ (List.mem_append_left _ h))))))))))))))))))))))))))))))))
theorem wG20 : ∀ w ∈ wsL_law_r20, w ∈ wsL_law := fun w h => List.mem_append_left _ (List.mem_append_left _ (List.mem_append_left _ (List.mem_append_left _ (List.mem_append_left _ (List.mem_append_left _ (List.mem_append_left _ (List.mem_append_left _ (List.mem_append_left _ (List.mem_append_left _ (List.mem_append_left _ (List.mem_append_left _ (List.mem_append_left _ (List.mem_append_left _ (List.mem_append_right _ (List.mem_append_right _ (List.mem_append_right _ (List.mem_append_right _ (List.mem_append_right _ (List.mem_append_right _ (List.mem_append_right _ (List.mem_append_right _ (List.mem_append_right _ (List.mem_append_right _ (List.mem_append_right _ (List.mem_append_right _ (List.mem_append_right _ (List.mem_append_right _ (List.mem_append_right _ (List.mem_append_right _ (List.mem_append_right _ (List.mem_append_right _ (List.mem_append_right _ (List.mem_append_left _ h)))))))))))))))))))))))))))))))))
theorem wG21 : ∀ w ∈ wsL_law_r21, w ∈ wsL_law := fun w h => List.mem_append_left _ (List.mem_append_left _ (List.mem_append_left _ (List.mem_append_left _ (List.mem_append_left _ (List.mem_append_left _ (List.mem_append_left _ (List.mem_append_left _ (List.mem_append_left _ (List.mem_append_left _ (List.mem_append_left _ (List.mem_append_left _ (List.mem_append_left _ (List.mem_append_left _ (List.mem_append_right _ (List.mem_append_right _ (List.mem_append_right _ (List.mem_append_right _ (List.mem_append_right _ (List.mem_append_right _ (List.mem_append_right _ (List.mem_append_right _ (List.mem_append_right _ (List.mem_append_right _ (List.mem_append_right _ (List.mem_append_right _ (List.mem_append_right _ (List.mem_append_right _ (List.mem_append_right _ (List.mem_append_right _ (List.mem_append_right _ (List.mem_append_right _ (List.mem_append_right _ (List.mem_append_right _ (List.mem_append_left _ h))))))))))))))))))))))))))))))))))
theorem wG22 : ∀ w ∈ wsL_law_r22, w ∈ wsL_law := fun w h => List.mem_append_left _ (List.mem_append_left _ (List.mem_append_left _ (List.mem_append_left _ (List.mem_append_left _ (List.mem_append_left _ (List.mem_append_left _ (List.mem_append_left _ (List.mem_append_left _ (List.mem_append_left _ (List.mem_append_left _ (List.mem_append_left _ (List.mem_append_left _ (List.mem_append_left _ (List.mem_append_right _ (List.mem_append_right _ (List.mem_append_right _ (List.mem_append_right _ (List.mem_append_right _ (List.mem_append_right _ (List.mem_append_right _ (List.mem_append_right _ (List.mem_append_right _ (List.mem_append_right _ (List.mem_append_right _ (List.mem_append_right _ (List.mem_append_right _ (List.mem_append_right _ (List.mem_append_right _ (List.mem_append_right _ (List.mem_append_right _ (List.mem_append_right _ (List.mem_append_right _ (List.mem_append_right _ (List.mem_append_right _ (List.mem_append_left _ h)))))))))))))))))))))))))))))))))))
theorem wG23 : ∀ w ∈ wsL_law_r23, w ∈ wsL_law := fun w h => List.mem_append_left _ (List.mem_append_left _ (List.mem_append_left _ (List.mem_append_left _ (List.mem_append_left _ (List.mem_append_left _ (List.mem_append_left _ (List.mem_append_left _ (List.mem_append_left _ (List.mem_append_left _ (List.mem_append_left _ (List.mem_append_left _ (List.mem_append_left _ (List.mem_append_left _ (List.mem_append_right _ (List.mem_append_right _ (List.mem_append_right _ (List.mem_append_right _ (List.mem_append_right _ (List.mem_append_right _ (List.mem_append_right _ (List.mem_append_right _ (List.mem_append_right _ (List.mem_append_right _ (List.mem_append_right _ (List.mem_append_right _ (List.mem_append_right _ (List.mem_append_right _ (List.mem_append_right _ (List.mem_append_right _ (List.mem_append_right _ (List.mem_append_right _ (List.mem_append_right _ (List.mem_append_right _ (List.mem_append_right _ (List.mem_append_right _ (List.mem_append_left _ h))))))))))))))))))))))))))))))))))))
theorem wG24 : ∀ w ∈ wsL_law_r24, w ∈ wsL_law := fun w h => List.mem_append_left _ (List.mem_append_left _ (List.mem_append_left _ (List.mem_append_left _ (List.mem_append_left _ (List.mem_append_left _ (List.mem_append_left _ (List.mem_append_left _ (List.mem_append_left _ (List.mem_append_left _ (List.mem_append_left _ (List.mem_append_left _ (List.mem_append_left _ (List.mem_append_left _ (List.mem_append_right _ (List.mem_append_right _ (List.mem_append_right _ (List.mem_append_right _ (List.mem_append_right _ (List.mem_append_right _ (List.mem_append_right _ (List.mem_append_right _ (List.mem_append_right _ (List.mem_append_right _ (List.mem_append_right _ (List.mem_append_right _ (List.mem_append_right _ (List.mem_append_right _ (List.mem_append_right _ (List.mem_append_right _ (List.mem_append_right _ (List.mem_append_right _ (List.mem_append_right _ (List.mem_append_right _ (List.mem_append_right _ (List.mem_append_right _ (List.mem_append_right _ (List.mem_append_left _ h)))))))))))))))))))))))))))))))))))))
theorem wG25 : ∀ w ∈ wsL_law_r25, w ∈ wsL_law := fun w h => List.mem_append_left _ (List.mem_append_left _ (List.mem_append_left _ (List.mem_append_left _ (List.mem_append_left _ (List.mem_append_left _ (List.mem_append_left _ (List.mem_append_left _ (List.mem_append_left _ (List.mem_append_left _ (List.mem_append_left _ (List.mem_append_left _ (List.mem_append_left _ (List.mem_append_left _ (List.mem_append_right _ (List.mem_append_right _ (List.mem_append_right _ (List.mem_append_right _ (List.mem_append_right _ (List.mem_append_right _ (List.mem_append_right _ (List.mem_append_right _ (List.mem_append_right _ (List.mem_append_right _ (List.mem_append_right _ (List.mem_append_right _ (List.mem_append_right _ (List.mem_append_right _ (List.mem_append_right _ (List.mem_append_right _ (List.mem_append_right _ (List.mem_append_right _ (List.mem_append_right _ (List.mem_append_right _ (List.mem_append_right _ (List.mem_append_right _ (List.mem_append_right _ (List.mem_append_right _ (List.mem_append_left _ h))))))))))))))))))))))))))))))))))))))
theorem wG26 : ∀ w ∈ wsL_law_r26, w ∈ wsL_law := fun w h => List.mem_append_left _ (List.mem_append_left _ (List.mem_append_left _ (List.mem_append_left _ (List.mem_append_left _ (List.mem_append_left _ (List.mem_append_left _ (List.mem_append_left _ (List.mem_append_left _ (List.mem_append_left _ (List.mem_append_left _ (List.mem_append_left _ (List.mem_append_left _ (List.mem_append_left _ (List.mem_append_right _ (List.mem_append_right _ (List.mem_append_right _ (List.mem_append_right _ (List.mem_append_right _ (List.mem_append_right _ (List.mem_append_right _ (List.mem_append_right _ (List.mem_append_right _ (List.mem_append_right _ (List.mem_append_right _ (List.mem_append_right _ (List.mem_append_right _ (List.mem_append_right _ (List.mem_append_right _ (List.mem_append_right _ (List.mem_append_right _ (List.mem_append_right _ (List.mem_append_right _ (List.mem_append_right _ (List.mem_append_right _ (List.mem_append_right _ (List.mem_append_right _ (List.mem_append_right _ (List.mem_append_right _ (List.mem_append_left _ h)))))))))))))))))))))))))))))))))))))))
theorem wG27 : ∀ w ∈ wsL_law_r27, w ∈ wsL_law := fun w h => List.mem_append_left _ (List.mem_append_left _ (List.mem_append_left _ (List.mem_append_left _ (List.mem_append_left _ (List.mem_append_left _ (List.mem_append_left _ (List.mem_append_left _ (List.mem_append_left _ (List.mem_append_left _ (List.mem_append_left _ (List.mem_append_left _ (List.mem_append_left _ (List.mem_append_left _ (List.mem_append_right _ (List.mem_append_right _ (List.mem_append_right _ (List.mem_append_right _ (List.mem_append_right _ (List.mem_append_right _ (List.mem_append_right _ (List.mem_append_right _ (List.mem_append_right _ (List.mem_append_right _ (List.mem_append_right _ (List.mem_append_right _ (List.mem_append_right _ (List.mem_append_right _ (List.mem_append_right _ (List.mem_append_right _ (List.mem_append_right _ (List.mem_append_right _ (List.mem_append_right _ (List.mem_append_right _ (List.mem_append_right _ (List.mem_append_right _ (List.mem_append_right _ (List.mem_append_right _ (List.mem_append_right _ (List.mem_append_right _ (List.mem_append_left _ h))))))))))))))))))))))))))))))))))))))))
theorem wG28 : ∀ w ∈ wsL_law_r28, w ∈ wsL_law := fun w h => List.mem_append_left _ (List.mem_append_left _ (List.mem_append_left _ (List.mem_append_left _ (List.mem_append_left _ (List.mem_append_left _ (List.mem_append_left _ (List.mem_append_left _ (List.mem_append_left _ (List.mem_append_left _ (List.mem_append_left _ (List.mem_append_left _ (List.mem_append_left _ (List.mem_append_left _ (List.mem_append_right _ (List.mem_append_right _ (List.mem_append_right _ (List.mem_append_right _ (List.mem_append_right _ (List.mem_append_right _ (List.mem_append_right _ (List.mem_append_right _ (List.mem_append_right _ (List.mem_append_right _ (List.mem_append_right _ (List.mem_append_right _ (List.mem_append_right _ (List.mem_append_right _ (List.mem_append_right _ (List.mem_append_right _ (List.mem_append_right _ (List.mem_append_right _ (List.mem_append_right _ (List.mem_append_right _ (List.mem_append_right _ (List.mem_append_right _ (List.mem_append_right _ (List.mem_append_right _ (List.mem_append_right _ (List.mem_append_right _ (List.mem_append_right _ (List.mem_append_left _ h)))))))))))))))))))))))))))))))))))))))))
theorem wG29 : ∀ w ∈ wsL_law_r29, w ∈ wsL_law := fun w h => List.mem_append_left _ (List.mem_append_left _ (List.mem_append_left _ (List.mem_append_left _ (List.mem_append_left _ (List.mem_append_left _ (List.mem_append_left _ (List.mem_append_left _ (List.mem_append_left _ (List.mem_append_left _ (List.mem_append_left _ (List.mem_append_left _ (List.mem_append_left _ (List.mem_append_left _ (List.mem_append_right _ (List.mem_append_right _ (List.mem_append_right _ (List.mem_append_right _ (List.mem_append_right _ (List.mem_append_right _ (List.mem_append_right _ (List.mem_append_right _ (List.mem_append_right _ (List.mem_append_right _ (List.mem_append_right _ (List.mem_append_right _ (List.mem_append_right _ (List.mem_append_right _ (List.mem_append_right _ (List.mem_append_right _ (List.mem_append_right _ (List.mem_append_right _ (List.mem_append_right _ (List.mem_append_right _ (List.mem_append_right _ (List.mem_append_right _ (List.mem_append_right _ (List.mem_append_right _ (List.mem_append_right _ (List.mem_append_right _ (List.mem_append_right _ (List.mem_append_right _ (List.mem_append_left _ h))))))))))))))))))))))))))))))))))))))))))
theorem wG30 : ∀ w ∈ wsL_law_r30, w ∈ wsL_law := fun w h => List.mem_append_left _ (List.mem_append_left _ (List.mem_append_left _ (List.mem_append_left _ (List.mem_append_left _ (List.mem_append_left _ (List.mem_append_left _ (List.mem_append_left _ (List.mem_append_left _ (List.mem_append_left _ (List.mem_append_left _ (List.mem_append_left _ (List.mem_append_left _ (List.mem_append_left _ (List.mem_append_right _ (List.mem_append_right _ (List.mem_append_right _ (List.mem_append_right _ (List.mem_append_right _ (List.mem_append_right _ (List.mem_append_right _ (List.mem_append_right _ (List.mem_append_right _ (List.mem_append_right _ (List.mem_append_right _ (List.mem_append_right _ (List.mem_append_right _ (List.mem_append_right _ (List.mem_append_right _ (List.mem_append_right _ (List.mem_append_right _ (List.mem_append_right _ (List.mem_append_right _ (List.mem_append_right _ (List.mem_append_right _ (List.mem_append_right _ (List.mem_append_right _ (List.mem_append_right _ (List.mem_append_right _ (List.mem_append_right _ (List.mem_append_right _ (List.mem_append_right _ (List.mem_append_right _ (List.mem_append_left _ h)))))))))))))))))))))))))))))))))))))))))))
theorem wG31 : ∀ w ∈ wsL_law_r31, w ∈ wsL_law := fun w h => List.mem_append_left _ (List.mem_append_left _ (List.mem_append_left _ (List.mem_append_left _ (List.mem_append_left _ (List.mem_append_left _ (List.mem_append_left _ (List.mem_append_left _ (List.mem_append_left _ (List.mem_append_left _ (List.mem_append_left _ (List.mem_append_left _ (List.mem_append_left _ (List.mem_append_left _ (List.mem_append_right _ (List.mem_append_right _ (List.mem_append_right _ (List.mem_append_right _ (List.mem_append_right _ (List.mem_append_right _ (List.mem_append_right _ (List.mem_append_right _ (List.mem_append_right _ (List.mem_append_right _ (List.mem_append_right _ (List.mem_append_right _ (List.mem_append_right _ (List.mem_append_right _ (List.mem_append_right _ (List.mem_append_right _ (List.mem_append_right _ (List.mem_append_right _ (List.mem_append_right _ (List.mem_append_right _ (List.mem_append_right _ (List.mem_append_right _ (List.mem_append_right _ (List.mem_append_right _ (List.mem_append_right _ (List.mem_append_right _ (List.mem_append_right _ (List.mem_append_right _ (List.mem_append_right _ (List.mem_append_right _ (List.mem_append_left _ h))))))))))))))))))))))))))))))))))))))))))))
theorem wG32 : ∀ w ∈ wsL_law_r32, w ∈ wsL_law := fun w h => List.mem_append_left _ (List.mem_append_left _ (List.mem_append_left _ (List.mem_append_left _ (List.mem_append_left _ (List.mem_append_left _ (List.mem_append_left _ (List.mem_append_left _ (List.mem_append_left _ (List.mem_append_left _ (List.mem_append_left _ (List.mem_append_left _ (List.mem_append_left _ (List.mem_append_left _ (List.mem_append_right _ (List.mem_append_right _ (List.mem_append_right _ (List.mem_append_right _ (List.mem_append_right _ (List.mem_append_right _ (List.mem_append_right _ (List.mem_append_right _ (List.mem_append_right _ (List.mem_append_right _ (List.mem_append_right _ (List.mem_append_right _ (List.mem_append_right _ (List.mem_append_right _ (List.mem_append_right _ (List.mem_append_right _ (List.mem_append_right _ (List.mem_append_right _ (List.mem_append_right _ (List.mem_append_right _ (List.mem_append_right _ (List.mem_append_right _ (List.mem_append_right _ (List.mem_append_right _ (List.mem_append_right _ (List.mem_append_right _ (List.mem_append_right _ (List.mem_append_right _ (List.mem_append_right _ (List.mem_append_right _ (List.mem_append_right _ (List.mem_append_left _ h)))))))))))))))))))))))))))))))))))))))))))))
theorem wG33 : ∀ w ∈ wsL_law_r33, w ∈ wsL_law := fun w h => List.mem_append_left _ (List.mem_append_left _ (List.mem_append_left _ (List.mem_append_left _ (List.mem_append_left _ (List.mem_append_left _ (List.mem_append_left _ (List.mem_append_left _ (List.mem_append_left _ (List.mem_append_left _ (List.mem_append_left _ (List.mem_append_left _ (List.mem_append_left _ (List.mem_append_left _ (List.mem_append_right _ (List.mem_append_right _ (List.mem_append_right _ (List.mem_append_right _ (List.mem_append_right _ (List.mem_append_right _ (List.mem_append_right _ (List.mem_append_right _ (List.mem_append_right _ (List.mem_append_right _ (List.mem_append_right _ (List.mem_append_right _ (List.mem_append_right _ (List.mem_append_right _ (List.mem_append_right _ (List.mem_append_right _ (List.mem_append_right _ (List.mem_append_right _ (List.mem_append_right _ (List.mem_append_right _ (List.mem_append_right _ (List.mem_append_right _ (List.mem_append_right _ (List.mem_append_right _ (List.mem_append_right _ (List.mem_append_right _ (List.mem_append_right _ (List.mem_append_right _ (List.mem_append_right _ (List.mem_append_right _ (List.mem_append_right _ (List.mem_append_right _ (List.mem_append_left _ h))))))))))))))))))))))))))))))))))))))))))))))
theorem wG34 : ∀ w ∈ wsL_law_r34, w ∈ wsL_law := fun w h => List.mem_append_left _ (List.mem_append_left _ (List.mem_append_left _ (List.mem_append_left _ (List.mem_append_left _ (List.mem_append_left _ (List.mem_append_left _ (List.mem_append_left _ (List.mem_append_left _ (List.mem_append_left _ (List.mem_append_left _ (List.mem_append_left _ (List.mem_append_left _ (List.mem_append_left _ (List.mem_append_right _ (List.mem_append_right _ (List.mem_append_right _ (List.mem_append_right _ (List.mem_append_right _ (List.mem_append_right _ (List.mem_append_right _ (List.mem_append_right _ (List.mem_append_right _ (List.mem_append_right _ (List.mem_append_right _ (List.mem_append_right _ (List.mem_append_right _ (List.mem_append_right _ (List.mem_append_right _ (List.mem_append_right _ (List.mem_append_right _ (List.mem_append_right _ (List.mem_append_right _ (List.mem_append_right _ (List.mem_append_right _ (List.mem_append_right _ (List.mem_append_right _ (List.mem_append_right _ (List.mem_append_right _ (List.mem_append_right _ (List.mem_append_right _ (List.mem_append_right _ (List.mem_append_right _ (List.mem_append_right _ (List.mem_append_right _ (List.mem_append_right _ (List.mem_append_right _ (List.mem_append_left _ h)))))))))))))))))))))))))))))))))))))))))))))))
theorem wG35 : ∀ w ∈ wsL_law_r35, w ∈ wsL_law := fun w h => List.mem_append_left _ (List.mem_append_left _ (List.mem_append_left _ (List.mem_append_left _ (List.mem_append_left _ (List.mem_append_left _ (List.mem_append_left _ (List.mem_append_left _ (List.mem_append_left _ (List.mem_append_left _ (List.mem_append_left _ (List.mem_append_left _ (List.mem_append_left _ (List.mem_append_left _ (List.mem_append_right _ (List.mem_append_right _ (List.mem_append_right _ (List.mem_append_right _ (List.mem_append_right _ (List.mem_append_right _ (List.mem_append_right _ (List.mem_append_right _ (List.mem_append_right _ (List.mem_append_right _ (List.mem_append_right _ (List.mem_append_right _ (List.mem_append_right _ (List.mem_append_right _ (List.mem_append_right _ (List.mem_append_right _ (List.mem_append_right _ (List.mem_append_right _ (List.mem_append_right _ (List.mem_append_right _ (List.mem_append_right _ (List.mem_append_right _ (List.mem_append_right _ (List.mem_append_right _ (List.mem_append_right _ (List.mem_append_right _ (List.mem_append_right _ (List.mem_append_right _ (List.mem_append_right _ (List.mem_append_right _ (List.mem_append_right _ (List.mem_append_right _ (List.mem_append_right _ (List.mem_append_right _ (List.mem_append_left _ h))))))))))))))))))))))))))))))))))))))))))))))))
theorem wG36 : ∀ w ∈ wsL_law_r36, w ∈ wsL_law := fun w h => List.mem_append_left _ (List.mem_append_left _ (List.mem_append_left _ (List.mem_append_left _ (List.mem_append_left _ (List.mem_append_left _ (List.mem_append_left _ (List.mem_append_left _ (List.mem_append_left _ (List.mem_append_left _ (List.mem_append_left _ (List.mem_append_left _ (List.mem_append_left _ (List.mem_append_left _ (List.mem_append_right _ (List.mem_append_right _ (List.mem_append_right _ (List.mem_append_right _ (List.mem_append_right _ (List.mem_append_right _ (List.mem_append_right _ (List.mem_append_right _ (List.mem_append_right _ (List.mem_append_right _ (List.mem_append_right _ (List.mem_append_right _ (List.mem_append_right _ (List.mem_append_right _ (List.mem_append_right _ (List.mem_append_right _ (List.mem_append_right _ (List.mem_append_right _ (List.mem_append_right _ (List.mem_append_right _ (List.mem_append_right _ (List.mem_append_right _ (List.mem_append_right _ (List.mem_append_right _ (List.mem_append_right _ (List.mem_append_right _ (List.mem_append_right _ (List.mem_append_right _ (List.mem_append_right _ (List.mem_append_right _ (List.mem_append_right _ (List.mem_append_right _ (List.mem_append_right _ (List.mem_append_right _ (List.mem_append_right _ (List.mem_append_left _ h)))))))))))))))))))))))))))))))))))))))))))))))))
theorem wG37 : ∀ w ∈ wsL_law_r37, w ∈ wsL_law := fun w h => List.mem_append_left _ (List.mem_append_left _ (List.mem_append_left _ (List.mem_append_left _ (List.mem_append_left _ (List.mem_append_left _ (List.mem_append_left _ (List.mem_append_left _ (List.mem_append_left _ (List.mem_append_left _ (List.mem_append_left _ (List.mem_append_left _ (List.mem_append_left _ (List.mem_append_left _ (List.mem_append_right _ (List.mem_append_right _ (List.mem_append_right _ (List.mem_append_right _ (List.mem_append_right _ (List.mem_append_right _ (List.mem_append_right _ (List.mem_append_right _ (List.mem_append_right _ (List.mem_append_right _ (List.mem_append_right _ (List.mem_append_right _ (List.mem_append_right _ (List.mem_append_right _ (List.mem_append_right _ (List.mem_append_right _ (List.mem_append_right _ (List.mem_append_right _ (List.mem_append_right _ (List.mem_append_right _ (List.mem_append_right _ (List.mem_append_right _ (List.mem_append_right _ (List.mem_append_right _ (List.mem_append_right _ (List.mem_append_right _ (List.mem_append_right _ (List.mem_append_right _ (List.mem_append_right _ (List.mem_append_right _ (List.mem_append_right _ (List.mem_append_right _ (List.mem_append_right _ (List.mem_append_right _ (List.mem_append_right _ (List.mem_append_right _ (List.mem_append_left _ h))))))))))))))))))))))))))))))))))))))))))))))))))
theorem wG38 : ∀ w ∈ wsL_law_r38, w ∈ wsL_law := fun w h => List.mem_append_left _ (List.mem_append_left _ (List.mem_append_left _ (List.mem_append_left _ (List.mem_append_left _ (List.mem_append_left _ (List.mem_append_left _ (List.mem_append_left _ (List.mem_append_left _ (List.mem_append_left _ (List.mem_append_left _ (List.mem_append_left _ (List.mem_append_left _ (List.mem_append_left _ (List.mem_append_right _ (List.mem_append_right _ (List.mem_append_right _ (List.mem_append_right _ (List.mem_append_right _ (List.mem_append_right _ (List.mem_append_right _ (List.mem_append_right _ (List.mem_append_right _ (List.mem_append_right _ (List.mem_append_right _ (List.mem_append_right _ (List.mem_append_right _ (List.mem_append_right _ (List.mem_append_right _ (List.mem_append_right _ (List.mem_append_right _ (List.mem_append_right _ (List.mem_append_right _ (List.mem_append_right _ (List.mem_append_right _ (List.mem_append_right _ (List.mem_append_right _ (List.mem_append_right _ (List.mem_append_right _ (List.mem_append_right _ (List.mem_append_right _ (List.mem_append_right _ (List.mem_append_right _ (List.mem_append_right _ (List.mem_append_right _ (List.mem_append_right _ (List.mem_append_right _ (List.mem_append_right _ (List.mem_append_right _ (List.mem_append_right _ (List.mem_append_right _ (List.mem_append_left _ h)))))))))))))))))))))))))))))))))))))))))))))))))))
theorem wG39 : ∀ w ∈ wsL_law_r39, w ∈ wsL_law := fun w h => List.mem_append_left _ (List.mem_append_left _ (List.mem_append_left _ (List.mem_append_left _ (List.mem_append_left _ (List.mem_append_left _ (List.mem_append_left _ (List.mem_append_left _ (List.mem_append_left _ (List.mem_append_left _ (List.mem_append_left _ (List.mem_append_left _ (List.mem_append_left _ (List.mem_append_left _ (List.mem_append_right _ (List.mem_append_right _ (List.mem_append_right _ (List.mem_append_right _ (List.mem_append_right _ (List.mem_append_right _ (List.mem_append_right _ (List.mem_append_right _ (List.mem_append_right _ (List.mem_append_right _ (List.mem_append_right _ (List.mem_append_right _ (List.mem_append_right _ (List.mem_append_right _ (List.mem_append_right _ (List.mem_append_right _ (List.mem_append_right _ (List.mem_append_right _ (List.mem_append_right _ (List.mem_append_right _ (List.mem_append_right _ (List.mem_append_right _ (List.mem_append_right _ (List.mem_append_right _ (List.mem_append_right _ (List.mem_append_right _ (List.mem_append_right _ (List.mem_append_right _ (List.mem_append_right _ (List.mem_append_right _ (List.mem_append_right _ (List.mem_append_right _ (List.mem_append_right _ (List.mem_append_right _ (List.mem_append_right _ (List.mem_append_right _ (List.mem_append_right _ (List.mem_append_right _ (List.mem_append_left _ h))))))))))))))))))))))))))))))))))))))))))))))))))))
theorem wG40 : ∀ w ∈ wsL_law_r40, w ∈ wsL_law := fun w h => List.mem_append_left _ (List.mem_append_left _ (List.mem_append_left _ (List.mem_append_left _ (List.mem_append_left _ (List.mem_append_left _ (List.mem_append_left _ (List.mem_append_left _ (List.mem_append_left _ (List.mem_append_left _ (List.mem_append_left _ (List.mem_append_left _ (List.mem_append_left _ (List.mem_append_left _ (List.mem_append_right _ (List.mem_append_right _ (List.mem_append_right _ (List.mem_append_right _ (List.mem_append_right _ (List.mem_append_right _ (List.mem_append_right _ (List.mem_append_right _ (List.mem_append_right _ (List.mem_append_right _ (List.mem_append_right _ (List.mem_append_right _ (List.mem_append_right _ (List.mem_append_right _ (List.mem_append_right _ (List.mem_append_right _ (List.mem_append_right _ (List.mem_append_right _ (List.mem_append_right _ (List.mem_append_right _ (List.mem_append_right _ (List.mem_append_right _ (List.mem_append_right _ (List.mem_append_right _ (List.mem_append_right _ (List.mem_append_right _ (List.mem_append_right _ (List.mem_append_right _ (List.mem_append_right _ (List.mem_append_right _ (List.mem_append_right _ (List.mem_append_right _ (List.mem_append_right _ (List.mem_append_right _ (List.mem_append_right _ (List.mem_append_right _ (List.mem_append_right _ (List.mem_append_right _ (List.mem_append_right _ (List.mem_append_left _ h)))))))))))))))))))))))))))))))))))))))))))))))))))))
theorem wG41 : ∀ w ∈ wsL_law_r41, w ∈ wsL_law := fun w h => List.mem_append_left _ (List.mem_append_left _ (List.mem_append_left _ (List.mem_append_left _ (List.mem_append_left _ (List.mem_append_left _ (List.mem_append_left _ (List.mem_append_left _ (List.mem_append_left _ (List.mem_append_left _ (List.mem_append_left _ (List.mem_append_left _ (List.mem_append_left _ (List.mem_append_left _ (List.mem_append_right _ (List.mem_append_right _ (List.mem_append_right _ (List.mem_append_right _ (List.mem_append_right _ (List.mem_append_right _ (List.mem_append_right _ (List.mem_append_right _ (List.mem_append_right _ (List.mem_append_right _ (List.mem_append_right _ (List.mem_append_right _ (List.mem_append_right _ (List.mem_append_right _ (List.mem_append_right _ (List.mem_append_right _ (List.mem_append_right _ (List.mem_append_right _ (List.mem_append_right _ (List.mem_append_right _ (List.mem_append_right _ (List.mem_append_right _ (List.mem_append_right _ (List.mem_append_right _ (List.mem_append_right _ (List.mem_append_right _ (List.mem_append_right _ (List.mem_append_right _ (List.mem_append_right _ (List.mem_append_right _ (List.mem_append_right _ (List.mem_append_right _ (List.mem_append_right _ (List.mem_append_right _ (List.mem_append_right _ (List.mem_append_right _ (List.mem_append_right _ (List.mem_append_right _ (List.mem_append_right _ (List.mem_append_right _ (List.mem_append_left _ h))))))))))))))))))))))))))))))))))))))))))))))))))))))
theorem wG42 : ∀ w ∈ wsL_law_r42, w ∈ wsL_law := fun w h => List.mem_append_left _ (List.mem_append_left _ (List.mem_append_left _ (List.mem_append_left _ (List.mem_append_left _ (List.mem_append_left _ (List.mem_append_left _ (List.mem_append_left _ (List.mem_append_left _ (List.mem_append_left _ (List.mem_append_left _ (List.mem_append_left _ (List.mem_append_left _ (List.mem_append_left _ (List.mem_append_right _ (List.mem_append_right _ (List.mem_append_right _ (List.mem_append_right _ (List.mem_append_right _ (List.mem_append_right _ (List.mem_append_right _ (List.mem_append_right _ (List.mem_append_right _ (List.mem_append_right _ (List.mem_append_right _ (List.mem_append_right _ (List.mem_append_right _ (List.mem_append_right _ (List.mem_append_right _ (List.mem_append_right _ (List.mem_append_right _ (List.mem_append_right _ (List.mem_append_right _ (List.mem_append_right _ (List.mem_append_right _ (List.mem_append_right _ (List.mem_append_right _ (List.mem_append_right _ (List.mem_append_right _ (List.mem_append_right _ (List.mem_append_right _ (List.mem_append_right _ (List.mem_append_right _ (List.mem_append_right _ (List.mem_append_right _ (List.mem_append_right _ (List.mem_append_right _ (List.mem_append_right _ (List.mem_append_right _ (List.mem_append_right _ (List.mem_append_right _ (List.mem_append_right _ (List.mem_append_right _ (List.mem_append_right _ (List.mem_append_right _ (List.mem_append_left _ h)))))))))))))))))))))))))))))))))))))))))))))))))))))))
theorem wG43 : ∀ w ∈ wsL_law_r43, w ∈ wsL_law := fun w h => List.mem_append_left _ (List.mem_append_left _ (List.mem_append_left _ (List.mem_append_left _ (List.mem_append_left _ (List.mem_append_left _ (List.mem_append_left _ (List.mem_append_left _ (List.mem_append_left _ (List.mem_append_left _ (List.mem_append_left _ (List.mem_append_left _ (List.mem_append_left _ (List.mem_append_left _ (List.mem_append_right _ (List.mem_append_right _ (List.mem_append_right _ (List.mem_append_right _ (List.mem_append_right _ (List.mem_append_right _ (List.mem_append_right _ (List.mem_append_right _ (List.mem_append_right _ (List.mem_append_right _ (List.mem_append_right _ (List.mem_append_right _ (List.mem_append_right _ (List.mem_append_right _ (List.mem_append_right _ (List.mem_append_right _ (List.mem_append_right _ (List.mem_append_right _ (List.mem_append_right _ (List.mem_append_right _ (List.mem_append_right _ (List.mem_append_right _ (List.mem_append_right _ (List.mem_append_right _ (List.mem_append_right _ (List.mem_append_right _ (List.mem_append_right _ (List.mem_append_right _ (List.mem_append_right _ (List.mem_append_right _ (List.mem_append_right _ (List.mem_append_right _ (List.mem_append_right _ (List.mem_append_right _ (List.mem_append_right _ (List.mem_append_right _ (List.mem_append_right _ (List.mem_append_right _ (List.mem_append_right _ (List.mem_append_right _ (List.mem_append_right _ (List.mem_append_right _ (List.mem_append_left _ h))))))))))))))))))))))))))))))))))))))))))))))))))))))))
theorem wG44 : ∀ w ∈ wsL_law_r44, w ∈ wsL_law := fun w h => List.mem_append_left _ (List.mem_append_left _ (List.mem_append_left _ (List.mem_append_left _ (List.mem_append_left _ (List.mem_append_left _ (List.mem_append_left _ (List.mem_append_left _ (List.mem_append_left _ (List.mem_append_left _ (List.mem_append_left _ (List.mem_append_left _ (List.mem_append_left _ (List.mem_append_left _ (List.mem_append_right _ (List.mem_append_right _ (List.mem_append_right _ (List.mem_append_right _ (List.mem_append_right _ (List.mem_append_right _ (List.mem_append_right _ (List.mem_append_right _ (List.mem_append_right _ (List.mem_append_right _ (List.mem_append_right _ (List.mem_append_right _ (List.mem_append_right _ (List.mem_append_right _ (List.mem_append_right _ (List.mem_append_right _ (List.mem_append_right _ (List.mem_append_right _ (List.mem_append_right _ (List.mem_append_right _ (List.mem_append_right _ (List.mem_append_right _ (List.mem_append_right _ (List.mem_append_right _ (List.mem_append_right _ (List.mem_append_right _ (List.mem_append_right _ (List.mem_append_right _ (List.mem_append_right _ (List.mem_append_right _ (List.mem_append_right _ (List.mem_append_right _ (List.mem_append_right _ (List.mem_append_right _ (List.mem_append_right _ (List.mem_append_right _ (List.mem_append_right _ (List.mem_append_right _ (List.mem_append_right _ (List.mem_append_right _ (List.mem_append_right _ (List.mem_append_right _ (List.mem_append_right _ (List.mem_append_left _ h)))))))))))))))))))))))))))))))))))))))))))))))))))))))))
theorem wG45 : ∀ w ∈ wsL_law_r45, w ∈ wsL_law := fun w h => List.mem_append_left _ (List.mem_append_left _ (List.mem_append_left _ (List.mem_append_left _ (List.mem_append_left _ (List.mem_append_left _ (List.mem_append_left _ (List.mem_append_left _ (List.mem_append_left _ (List.mem_append_left _ (List.mem_append_left _ (List.mem_append_left _ (List.mem_append_left _ (List.mem_append_left _ (List.mem_append_right _ (List.mem_append_right _ (List.mem_append_right _ (List.mem_append_right _ (List.mem_append_right _ (List.mem_append_right _ (List.mem_append_right _ (List.mem_append_right _ (List.mem_append_right _ (List.mem_append_right _ (List.mem_append_right _ (List.mem_append_right _ (List.mem_append_right _ (List.mem_append_right _ (List.mem_append_right _ (List.mem_append_right _ (List.mem_append_right _ (List.mem_append_right _ (List.mem_append_right _ (List.mem_append_right _ (List.mem_append_right _ (List.mem_append_right _ (List.mem_append_right _ (List.mem_append_right _ (List.mem_append_right _ (List.mem_append_right _ (List.mem_append_right _ (List.mem_append_right _ (List.mem_append_right _ (List.mem_append_right _ (List.mem_append_right _ (List.mem_append_right _ (List.mem_append_right _ (List.mem_append_right _ (List.mem_append_right _ (List.mem_append_right _ (List.mem_append_right _ (List.mem_append_right _ (List.mem_append_right _ (List.mem_append_right _ (List.mem_append_right _ (List.mem_append_right _ (List.mem_append_right _ (List.mem_append_right _ (List.mem_append_left _ h))))))))))))))))))))))))))))))))))))))))))))))))))))))))))
theorem wG46 : ∀ w ∈ wsL_law_r46, w ∈ wsL_law := fun w h => List.mem_append_left _ (List.mem_append_left _ (List.mem_append_left _ (List.mem_append_left _ (List.mem_append_left _ (List.mem_append_left _ (List.mem_append_left _ (List.mem_append_left _ (List.mem_append_left _ (List.mem_append_left _ (List.mem_append_left _ (List.mem_append_left _ (List.mem_append_left _ (List.mem_append_left _ (List.mem_append_right _ (List.mem_append_right _ (List.mem_append_right _ (List.mem_append_right _ (List.mem_append_right _ (List.mem_append_right _ (List.mem_append_right _ (List.mem_append_right _ (List.mem_append_right _ (List.mem_append_right _ (List.mem_append_right _ (List.mem_append_right _ (List.mem_append_right _ (List.mem_append_right _ (List.mem_append_right _ (List.mem_append_right _ (List.mem_append_right _ (List.mem_append_right _ (List.mem_append_right _ (List.mem_append_right _ (List.mem_append_right _ (List.mem_append_right _ (List.mem_append_right _ (List.mem_append_right _ (List.mem_append_right _ (List.mem_append_right _ (List.mem_append_right _ (List.mem_append_right _ (List.mem_append_right _ (List.mem_append_right _ (List.mem_append_right _ (List.mem_append_right _ (List.mem_append_right _ (List.mem_append_right _ (List.mem_append_right _ (List.mem_append_right _ (List.mem_append_right _ (List.mem_append_right _ (List.mem_append_right _ (List.mem_append_right _ (List.mem_append_right _ (List.mem_append_right _ (List.mem_append_right _ (List.mem_append_right _ (List.mem_append_right _ (List.mem_append_left _ h)))))))))))))))))))))))))))))))))))))))))))))))))))))))))))
theorem wG47 : ∀ w ∈ wsL_law_r47, w ∈ wsL_law := fun w h => List.mem_append_left _ (List.mem_append_left _ (List.mem_append_left _ (List.mem_append_left _ (List.mem_append_left _ (List.mem_append_left _ (List.mem_append_left _ (List.mem_append_left _ (List.mem_append_left _ (List.mem_append_left _ (List.mem_append_left _ (List.mem_append_left _ (List.mem_append_left _ (List.mem_append_left _ (List.mem_append_right _ (List.mem_append_right _ (List.mem_append_right _ (List.mem_append_right _ (List.mem_append_right _ (List.mem_append_right _ (List.mem_append_right _ (List.mem_append_right _ (List.mem_append_right _ (List.mem_append_right _ (List.mem_append_right _ (List.mem_append_right _ (List.mem_append_right _ (List.mem_append_right _ (List.mem_append_right _ (List.mem_append_right _ (List.mem_append_right _ (List.mem_append_right _ (List.mem_append_right _ (List.mem_append_right _ (List.mem_append_right _ (List.mem_append_right _ (List.mem_append_right _ (List.mem_append_right _ (List.mem_append_right _ (List.mem_append_right _ (List.mem_append_right _ (List.mem_append_right _ (List.mem_append_right _ (List.mem_append_right _ (List.mem_append_right _ (List.mem_append_right _ (List.mem_append_right _ (List.mem_append_right _ (List.mem_append_right _ (List.mem_append_right _ (List.mem_append_right _ (List.mem_append_right _ (List.mem_append_right _ (List.mem_append_right _ (List.mem_append_right _ (List.mem_append_right _ (List.mem_append_right _ (List.mem_append_right _ (List.mem_append_right _ (List.mem_append_right _ (List.mem_append_left _ h))))))))))))))))))))))))))))))))))))))))))))))))))))))))))))
theorem wG48 : ∀ w ∈ wsL_law_r48, w ∈ wsL_law := fun w h => List.mem_append_left _ (List.mem_append_left _ (List.mem_append_left _ (List.mem_append_left _ (List.mem_append_left _ (List.mem_append_left _ (List.mem_append_left _ (List.mem_append_left _ (List.mem_append_left _ (List.mem_append_left _ (List.mem_append_left _ (List.mem_append_left _ (List.mem_append_left _ (List.mem_append_left _ (List.mem_append_right _ (List.mem_append_right _ (List.mem_append_right _ (List.mem_append_right _ (List.mem_append_right _ (List.mem_append_right _ (List.mem_append_right _ (List.mem_append_right _ (List.mem_append_right _ (List.mem_append_right _ (List.mem_append_right _ (List.mem_append_right _ (List.mem_append_right _ (List.mem_append_right _ (List.mem_append_right _ (List.mem_append_right _ (List.mem_append_right _ (List.mem_append_right _ (List.mem_append_right _ (List.mem_append_right _ (List.mem_append_right _ (List.mem_append_right _ (List.mem_append_right _ (List.mem_append_right _ (List.mem_append_right _ (List.mem_append_right _ (List.mem_append_right _ (List.mem_append_right _ (List.mem_append_right _ (List.mem_append_right _ (List.mem_append_right _ (List.mem_append_right _ (List.mem_append_right _ (List.mem_append_right _ (List.mem_append_right _ (List.mem_append_right _ (List.mem_append_right _ (List.mem_append_right _ (List.mem_append_right _ (List.mem_append_right _ (List.mem_append_right _ (List.mem_append_right _ (List.mem_append_right _ (List.mem_append_right _ (List.mem_append_right _ (List.mem_append_right _ (List.mem_append_right _ (List.mem_append_left _ h)))))))))))))))))))))))))))))))))))))))))))))))))))))))))))))
theorem wG49 : ∀ w ∈ wsL_law_r49, w ∈ wsL_law := fun w h => List.mem_append_left _ (List.mem_append_left _ (List.mem_append_left _ (List.mem_append_left _ (List.mem_append_left _ (List.mem_append_left _ (List.mem_append_left _ (List.mem_append_left _ (List.mem_append_left _ (List.mem_append_left _ (List.mem_append_left _ (List.mem_append_left _ (List.mem_append_left _ (List.mem_append_left _ (List.mem_append_right _ (List.mem_append_right _ (List.mem_append_right _ (List.mem_append_right _ (List.mem_append_right _ (List.mem_append_right _ (List.mem_append_right _ (List.mem_append_right _ (List.mem_append_right _ (List.mem_append_right _ (List.mem_append_right _ (List.mem_append_right _ (List.mem_append_right _ (List.mem_append_right _ (List.mem_append_right _ (List.mem_append_right _ (List.mem_append_right _ (List.mem_append_right _ (List.mem_append_right _ (List.mem_append_right _ (List.mem_append_right _ (List.mem_append_right _ (List.mem_append_right _ (List.mem_append_right _ (List.mem_append_right _ (List.mem_append_right _ (List.mem_append_right _ (List.mem_append_right _ (List.mem_append_right _ (List.mem_append_right _ (List.mem_append_right _ (List.mem_append_right _ (List.mem_append_right _ (List.mem_append_right _ (List.mem_append_right _ (List.mem_append_right _ (List.mem_append_right _ (List.mem_append_right _ (List.mem_append_right _ (List.mem_append_right _ (List.mem_append_right _ (List.mem_append_right _ (List.mem_append_right _ (List.mem_append_right _ (List.mem_append_right _ (List.mem_append_right _ (List.mem_append_right _ (List.mem_append_right _ (List.mem_append_left _ h))))))))))))))))))))))))))))))))))))))))))))))))))))))))))))))
theorem wG50 : ∀ w ∈ wsL_law_r50, w ∈ wsL_law := fun w h => List.mem_append_left _ (List.mem_append_left _ (List.mem_append_left _ (List.mem_append_left _ (List.mem_append_left _ (List.mem_append_left _ (List.mem_append_left _ (List.mem_append_left _ (List.mem_append_left _ (List.mem_append_left _ (List.mem_append_left _ (List.mem_append_left _ (List.mem_append_left _ (List.mem_append_left _ (List.mem_append_right _ (List.mem_append_right _ (List.mem_append_right _ (List.mem_append_right _ (List.mem_append_right _ (List.mem_append_right _ (List.mem_append_right _ (List.mem_append_right _ (List.mem_append_right _ (List.mem_append_right _ (List.mem_append_right _ (List.mem_append_right _ (List.mem_append_right _ (List.mem_append_right _ (List.mem_append_right _ (List.mem_append_right _ (List.mem_append_right _ (List.mem_append_right _ (List.mem_append_right _ (List.mem_append_right _ (List.mem_append_right _ (List.mem_append_right _ (List.mem_append_right _ (List.mem_append_right _ (List.mem_append_right _ (List.mem_append_right _ (List.mem_append_right _ (List.mem_append_right _ (List.mem_append_right _ (List.mem_append_right _ (List.mem_append_right _ (List.mem_append_right _ (List.mem_append_right _ (List.mem_append_right _ (List.mem_append_right _ (List.mem_append_right _ (List.mem_append_right _ (List.mem_append_right _ (List.mem_append_right _ (List.mem_append_right _ (List.mem_append_right _ (List.mem_append_right _ (List.mem_append_right _ (List.mem_append_right _ (List.mem_append_right _ (List.mem_append_right _ (List.mem_append_right _ (List.mem_append_right _ (List.mem_append_right _ (List.mem_append_left _ h)))))))))))))))))))))))))))))))))))))))))))))))))))))))))))))))
theorem wG51 : ∀ w ∈ wsL_law_r51, w ∈ wsL_law := fun w h => List.mem_append_left _ (List.mem_append_left _ (List.mem_append_left _ (List.mem_append_left _ (List.mem_append_left _ (List.mem_append_left _ (List.mem_append_left _ (List.mem_append_left _ (List.mem_append_left _ (List.mem_append_left _ (List.mem_append_left _ (List.mem_append_left _ (List.mem_append_left _ (List.mem_append_left _ (List.mem_append_right _ (List.mem_append_right _ (List.mem_append_right _ (List.mem_append_right _ (List.mem_append_right _ (List.mem_append_right _ (List.mem_append_right _ (List.mem_append_right _ (List.mem_append_right _ (List.mem_append_right _ (List.mem_append_right _ (List.mem_append_right _ (List.mem_append_right _ (List.mem_append_right _ (List.mem_append_right _ (List.mem_append_right _ (List.mem_append_right _ (List.mem_append_right _ (List.mem_append_right _ (List.mem_append_right _ (List.mem_append_right _ (List.mem_append_right _ (List.mem_append_right _ (List.mem_append_right _ (List.mem_append_right _ (List.mem_append_right _ (List.mem_append_right _ (List.mem_append_right _ (List.mem_append_right _ (List.mem_append_right _ (List.mem_append_right _ (List.mem_append_right _ (List.mem_append_right _ (List.mem_append_right _ (List.mem_append_right _ (List.mem_append_right _ (List.mem_append_right _ (List.mem_append_right _ (List.mem_append_right _ (List.mem_append_right _ (List.mem_append_right _ (List.mem_append_right _ (List.mem_append_right _ (List.mem_append_right _ (List.mem_append_right _ (List.mem_append_right _ (List.mem_append_right _ (List.mem_append_right _ (List.mem_append_right _ (List.mem_append_right _ (List.mem_append_left _ h))))))))))))))))))))))))))))))))))))))))))))))))))))))))))))))))
theorem wG52 : ∀ w ∈ wsL_law_r52, w ∈ wsL_law := fun w h => List.mem_append_left _ (List.mem_append_left _ (List.mem_append_left _ (List.mem_append_left _ (List.mem_append_left _ (List.mem_append_left _ (List.mem_append_left _ (List.mem_append_left _ (List.mem_append_left _ (List.mem_append_left _ (List.mem_append_left _ (List.mem_append_left _ (List.mem_append_left _ (List.mem_append_left _ (List.mem_append_right _ (List.mem_append_right _ (List.mem_append_right _ (List.mem_append_right _ (List.mem_append_right _ (List.mem_append_right _ (List.mem_append_right _ (List.mem_append_right _ (List.mem_append_right _ (List.mem_append_right _ (List.mem_append_right _ (List.mem_append_right _ (List.mem_append_right _ (List.mem_append_right _ (List.mem_append_right _ (List.mem_append_right _ (List.mem_append_right _ (List.mem_append_right _ (List.mem_append_right _ (List.mem_append_right _ (List.mem_append_right _ (List.mem_append_right _ (List.mem_append_right _ (List.mem_append_right _ (List.mem_append_right _ (List.mem_append_right _ (List.mem_append_right _ (List.mem_append_right _ (List.mem_append_right _ (List.mem_append_right _ (List.mem_append_right _ (List.mem_append_right _ (List.mem_append_right _ (List.mem_append_right _ (List.mem_append_right _ (List.mem_append_right _ (List.mem_append_right _ (List.mem_append_right _ (List.mem_append_right _ (List.mem_append_right _ (List.mem_append_right _ (List.mem_append_right _ (List.mem_append_right _ (List.mem_append_right _ (List.mem_append_right _ (List.mem_append_right _ (List.mem_append_right _ (List.mem_append_right _ (List.mem_append_right _ (List.mem_append_right _ (List.mem_append_right _ (List.mem_append_left _ h)))))))))))))))))))))))))))))))))))))))))))))))))))))))))))))))))
theorem wG53 : ∀ w ∈ wsL_law_r53, w ∈ wsL_law := fun w h => List.mem_append_left _ (List.mem_append_left _ (List.mem_append_left _ (List.mem_append_left _ (List.mem_append_left _ (List.mem_append_left _ (List.mem_append_left _ (List.mem_append_left _ (List.mem_append_left _ (List.mem_append_left _ (List.mem_append_left _ (List.mem_append_left _ (List.mem_append_left _ (List.mem_append_left _ (List.mem_append_right _ (List.mem_append_right _ (List.mem_append_right _ (List.mem_append_right _ (List.mem_append_right _ (List.mem_append_right _ (List.mem_append_right _ (List.mem_append_right _ (List.mem_append_right _ (List.mem_append_right _ (List.mem_append_right _ (List.mem_append_right _ (List.mem_append_right _ (List.mem_append_right _ (List.mem_append_right _ (List.mem_append_right _ (List.mem_append_right _ (List.mem_append_right _ (List.mem_append_right _ (List.mem_append_right _ (List.mem_append_right _ (List.mem_append_right _ (List.mem_append_right _ (List.mem_append_right _ (List.mem_append_right _ (List.mem_append_right _ (List.mem_append_right _ (List.mem_append_right _ (List.mem_append_right _ (List.mem_append_right _ (List.mem_append_right _ (List.mem_append_right _ (List.mem_append_right _ (List.mem_append_right _ (List.mem_append_right _ (List.mem_append_right _ (List.mem_append_right _ (List.mem_append_right _ (List.mem_append_right _ (List.mem_append_right _ (List.mem_append_right _ (List.mem_append_right _ (List.mem_append_right _ (List.mem_append_right _ (List.mem_append_right _ (List.mem_append_right _ (List.mem_append_right _ (List.mem_append_right _ (List.mem_append_right _ (List.mem_append_right _ (List.mem_append_right _ (List.mem_append_right _ (List.mem_append_left _ h))))))))))))))))))))))))))))))))))))))))))))))))))))))))))))))))))
theorem wG54 : ∀ w ∈ wsL_law_r54, w ∈ wsL_law := fun w h => List.mem_append_left _ (List.mem_append_left _ (List.mem_append_left _ (List.mem_append_left _ (List.mem_append_left _ (List.mem_append_left _ (List.mem_append_left _ (List.mem_append_left _ (List.mem_append_left _ (List.mem_append_left _ (List.mem_append_left _ (List.mem_append_left _ (List.mem_append_left _ (List.mem_append_left _ (List.mem_append_right _ (List.mem_append_right _ (List.mem_append_right _ (List.mem_append_right _ (List.mem_append_right _ (List.mem_append_right _ (List.mem_append_right _ (List.mem_append_right _ (List.mem_append_right _ (List.mem_append_right _ (List.mem_append_right _ (List.mem_append_right _ (List.mem_append_right _ (List.mem_append_right _ (List.mem_append_right _ (List.mem_append_right _ (List.mem_append_right _ (List.mem_append_right _ (List.mem_append_right _ (List.mem_append_right _ (List.mem_append_right _ (List.mem_append_right _ (List.mem_append_right _ (List.mem_append_right _ (List.mem_append_right _ (List.mem_append_right _ (List.mem_append_right _ (List.mem_append_right _ (List.mem_append_right _ (List.mem_append_right _ (List.mem_append_right _ (List.mem_append_right _ (List.mem_append_right _ (List.mem_append_right _ (List.mem_append_right _ (List.mem_append_right _ (List.mem_append_right _ (List.mem_append_right _ (List.mem_append_right _ (List.mem_append_right _ (List.mem_append_right _ (List.mem_append_right _ (List.mem_append_right _ (List.mem_append_right _ (List.mem_append_right _ (List.mem_append_right _ (List.mem_append_right _ (List.mem_append_right _ (List.mem_append_right _ (List.mem_append_right _ (List.mem_append_right _ (List.mem_append_right _ (List.mem_append_right _ (List.mem_append_left _ h)))))))))))))))))))))))))))))))))))))))))))))))))))))))))))))))))))
theorem wG55 : ∀ w ∈ wsL_law_r55, w ∈ wsL_law := fun w h => List.mem_append_left _ (List.mem_append_left _ (List.mem_append_left _ (List.mem_append_left _ (List.mem_append_left _ (List.mem_append_left _ (List.mem_append_left _ (List.mem_append_left _ (List.mem_append_left _ (List.mem_append_left _ (List.mem_append_left _ (List.mem_append_left _ (List.mem_append_left _ (List.mem_append_left _ (List.mem_append_right _ (List.mem_append_right _ (List.mem_append_right _ (List.mem_append_right _ (List.mem_append_right _ (List.mem_append_right _ (List.mem_append_right _ (List.mem_append_right _ (List.mem_append_right _ (List.mem_append_right _ (List.mem_append_right _ (List.mem_append_right _ (List.mem_append_right _ (List.mem_append_right _ (List.mem_append_right _ (List.mem_append_right _ (List.mem_append_right _ (List.mem_append_right _ (List.mem_append_right _ (List.mem_append_right _ (List.mem_append_right _ (List.mem_append_right _ (List.mem_append_right _ (List.mem_append_right _ (List.mem_append_right _ (List.mem_append_right _ (List.mem_append_right _ (List.mem_append_right _ (List.mem_append_right _ (List.mem_append_right _ (List.mem_append_right _ (List.mem_append_right _ (List.mem_append_right _ (List.mem_append_right _ (List.mem_append_right _ (List.mem_append_right _ (List.mem_append_right _ (List.mem_append_right _ (List.mem_append_right _ (List.mem_append_right _ (List.mem_append_right _ (List.mem_append_right _ (List.mem_append_right _ (List.mem_append_right _ (List.mem_append_right _ (List.mem_append_right _ (List.mem_append_right _ (List.mem_append_right _ (List.mem_append_right _ (List.mem_append_right _ (List.mem_append_right _ (List.mem_append_right _ (List.mem_append_right _ (List.mem_append_right _ (h))))))))))))))))))))))))))))))))))))))))))))))))))))))))))))))))))))
theorem inlX11 : ∀ w ∈ wsX110, w ∈ wsL_law := fun w h => List.mem_append_left _ (List.mem_append_left _ (List.mem_append_left _ (List.mem_append_left _ (List.mem_append_left _ (List.mem_append_left _ (List.mem_append_left _ (List.mem_append_left _ (List.mem_append_left _ (List.mem_append_left _ (List.mem_append_left _ (List.mem_append_left _ (List.mem_append_left _ (List.mem_append_right _ h)))))))))))))
theorem inlX12 : ∀ w ∈ wsX120, w ∈ wsL_law := fun w h => List.mem_append_left _ (List.mem_append_left _ (List.mem_append_left _ (List.mem_append_left _ (List.mem_append_left _ (List.mem_append_left _ (List.mem_append_left _ (List.mem_append_left _ (List.mem_append_left _ (List.mem_append_left _ (List.mem_append_left _ (List.mem_append_left _ (List.mem_append_right _ h))))))))))))
theorem inlX5 : ∀ w ∈ wsX50, w ∈ wsL_law := fun w h => List.mem_append_left _ (List.mem_append_left _ (List.mem_append_left _ (List.mem_append_left _ (List.mem_append_left _ (List.mem_append_left _ (List.mem_append_left _ (List.mem_append_left _ (List.mem_append_left _ (List.mem_append_left _ (List.mem_append_left _ (List.mem_append_right _ h)))))))))))
theorem inlX8 : ∀ w ∈ wsX80, w ∈ wsL_law := fun w h => List.mem_append_left _ (List.mem_append_left _ (List.mem_append_left _ (List.mem_append_left _ (List.mem_append_left _ (List.mem_append_left _ (List.mem_append_left _ (List.mem_append_left _ (List.mem_append_left _ (List.mem_append_left _ (List.mem_append_right _ h))))))))))
theorem inlX6 : ∀ w ∈ wsX60, w ∈ wsL_law := fun w h => List.mem_append_left _ (List.mem_append_left _ (List.mem_append_left _ (List.mem_append_left _ (List.mem_append_left _ (List.mem_append_left _ (List.mem_append_left _ (List.mem_append_left _ (List.mem_append_left _ (List.mem_append_right _ h)))))))))
theorem inlX9 : ∀ w ∈ wsX90, w ∈ wsL_law := fun w h => List.mem_append_left _ (List.mem_append_left _ (List.mem_append_left _ (List.mem_append_left _ (List.mem_append_left _ (List.mem_append_left _ (List.mem_append_left _ (List.mem_append_left _ (List.mem_append_right _ h))))))))
theorem inlX7 : ∀ w ∈ wsX70, w ∈ wsL_law := fun w h => List.mem_append_left _ (List.mem_append_left _ (List.mem_append_left _ (List.mem_append_left _ (List.mem_append_left _ (List.mem_append_left _ (List.mem_append_left _ (List.mem_append_right _ h)))))))
theorem inlX4 : ∀ w ∈ wsX40, w ∈ wsL_law := fun w h => List.mem_append_left _ (List.mem_append_left _ (List.mem_append_left _ (List.mem_append_left _ (List.mem_append_left _ (List.mem_append_left _ (List.mem_append_right _ h))))))
theorem inlX1 : ∀ w ∈ wsX10, w ∈ wsL_law := fun w h => List.mem_append_left _ (List.mem_append_left _ (List.mem_append_left _ (List.mem_append_left _ (List.mem_append_left _ (List.mem_append_right _ h)))))
theorem inlX2 : ∀ w ∈ wsX20, w ∈ wsL_law := fun w h => List.mem_append_left _ (List.mem_append_left _ (List.mem_append_left _ (List.mem_append_left _ (List.mem_append_right _ h))))
theorem inlX0 : ∀ w ∈ wsX00, w ∈ wsL_law := fun w h => List.mem_append_left _ (List.mem_append_left _ (List.mem_append_left _ (List.mem_append_right _ h)))
theorem inlX3 : ∀ w ∈ wsX30, w ∈ wsL_law := fun w h => List.mem_append_left _ (List.mem_append_left _ (List.mem_append_right _ h))
theorem inlX10 : ∀ w ∈ wsX100, w ∈ wsL_law := fun w h => List.mem_append_left _ (List.mem_append_right _ h)
theorem gG1 : wsL_law_r1.all goodWord = true := by decide +kernel
theorem gG2 : wsL_law_r2.all goodWord = true := by decide +kernel
theorem gG3 : wsL_law_r3.all goodWord = true := by decide +kernel
theorem gG4 : wsL_law_r4.all goodWord = true := by decide +kernel
theorem gG5 : wsL_law_r5.all goodWord = true := by decide +kernel
theorem gG6 : wsL_law_r6.all goodWord = true := by decide +kernel
theorem gG7 : wsL_law_r7.all goodWord = true := by decide +kernel
theorem gG8 : wsL_law_r8.all goodWord = true := by decide +kernel
theorem gG9 : wsL_law_r9.all goodWord = true := by decide +kernel
theorem gG10 : wsL_law_r10.all goodWord = true := by decide +kernel
theorem gG11 : wsL_law_r11.all goodWord = true := by decide +kernel
theorem gG12 : wsL_law_r12.all goodWord = true := by decide +kernel
theorem gG13 : wsL_law_r13.all goodWord = true := by decide +kernel
theorem gG14 : wsL_law_r14.all goodWord = true := by decide +kernel
theorem gG15 : wsL_law_r15.all goodWord = true := by decide +kernel
theorem gG16 : wsL_law_r16.all goodWord = true := by decide +kernel
theorem gG17 : wsL_law_r17.all goodWord = true := by decide +kernel
theorem gG18 : wsL_law_r18.all goodWord = true := by decide +kernel
theorem gG19 : wsL_law_r19.all goodWord = true := by decide +kernel
theorem gG20 : wsL_law_r20.all goodWord = true := by decide +kernel
theorem gG21 : wsL_law_r21.all goodWord = true := by decide +kernel
theorem gG22 : wsL_law_r22.all goodWord = true := by decide +kernel
theorem gG23 : wsL_law_r23.all goodWord = true := by decide +kernel
theorem gG24 : wsL_law_r24.all goodWord = true := by decide +kernel
theorem gG25 : wsL_law_r25.all goodWord = true := by decide +kernel
theorem gG26 : wsL_law_r26.all goodWord = true := by decide +kernel
theorem gG27 : wsL_law_r27.all goodWord = true := by decide +kernel
theorem gG28 : wsL_law_r28.all goodWord = true := by decide +kernel
theorem gG29 : wsL_law_r29.all goodWord = true := by decide +kernel
theorem gG30 : wsL_law_r30.all goodWord = true := by decide +kernel
theorem gG31 : wsL_law_r31.all goodWord = true := by decide +kernel
theorem gG32 : wsL_law_r32.all goodWord = true := by decide +kernel
theorem gG33 : wsL_law_r33.all goodWord = true := by decide +kernel
theorem gG34 : wsL_law_r34.all goodWord = true := by decide +kernel
theorem gG35 : wsL_law_r35.all goodWord = true := by decide +kernel
theorem gG36 : wsL_law_r36.all goodWord = true := by decide +kernel
theorem gG37 : wsL_law_r37.all goodWord = true := by decide +kernel
theorem gG38 : wsL_law_r38.all goodWord = true := by decide +kernel
theorem gG39 : wsL_law_r39.all goodWord = true := by decide +kernel
theorem gG40 : wsL_law_r40.all goodWord = true := by decide +kernel
theorem gG41 : wsL_law_r41.all goodWord = true := by decide +kernel
theorem gG42 : wsL_law_r42.all goodWord = true := by decide +kernel
theorem gG43 : wsL_law_r43.all goodWord = true := by decide +kernel
theorem gG44 : wsL_law_r44.all goodWord = true := by decide +kernel
theorem gG45 : wsL_law_r45.all goodWord = true := by decide +kernel
theorem gG46 : wsL_law_r46.all goodWord = true := by decide +kernel
theorem gG47 : wsL_law_r47.all goodWord = true := by decide +kernel
theorem gG48 : wsL_law_r48.all goodWord = true := by decide +kernel
theorem gG49 : wsL_law_r49.all goodWord = true := by decide +kernel
theorem gG50 : wsL_law_r50.all goodWord = true := by decide +kernel
theorem gG51 : wsL_law_r51.all goodWord = true := by decide +kernel
theorem gG52 : wsL_law_r52.all goodWord = true := by decide +kernel
theorem gG53 : wsL_law_r53.all goodWord = true := by decide +kernel
theorem gG54 : wsL_law_r54.all goodWord = true := by decide +kernel
theorem gG55 : wsL_law_r55.all goodWord = true := by decide +kernel
theorem gG_wsX110 : wsX110.all goodWord = true := by decide +kernel
theorem gG_wsX120 : wsX120.all goodWord = true := by decide +kernel
theorem gG_wsX50 : wsX50.all goodWord = true := by decide +kernel
theorem gG_wsX80 : wsX80.all goodWord = true := by decide +kernel
theorem gG_wsX60 : wsX60.all goodWord = true := by decide +kernel
theorem gG_wsX90 : wsX90.all goodWord = true := by decide +kernel
theorem gG_wsX70 : wsX70.all goodWord = true := by decide +kernel
theorem gG_wsX40 : wsX40.all goodWord = true := by decide +kernel
theorem gG_wsX10 : wsX10.all goodWord = true := by decide +kernel
theorem gG_wsX20 : wsX20.all goodWord = true := by decide +kernel
theorem gG_wsX00 : wsX00.all goodWord = true := by decide +kernel
theorem gG_wsX30 : wsX30.all goodWord = true := by decide +kernel
theorem gG_wsX100 : wsX100.all goodWord = true := by decide +kernel
theorem gG : ∀ w ∈ wsL_law, (w.onTables && w.keeps) = true ∨ ∃ ty, w = .arrayClass ty := fun w h => (fun h => (List.mem_append.mp h).elim (fun h => (List.mem_append.mp h).elim (fun h => (List.mem_append.mp h).elim (fun h => (List.mem_append.mp h).elim (fun h => (List.mem_append.mp h).elim (fun h => (List.mem_append.mp h).elim (fun h => (List.mem_append.mp h).elim (fun h => (List.mem_append.mp h).elim (fun h => (List.mem_append.mp h).elim (fun h => (List.mem_append.mp h).elim (fun h => (List.mem_append.mp h).elim (fun h => (List.mem_append.mp h).elim (fun h => (List.mem_append.mp h).elim (fun h => (List.mem_append.mp h).elim (fun h => (List.mem_append.mp h).elim (fun h => good_of_word (List.all_eq_true.mp gG1 w h)) (fun h => (List.mem_append.mp h).elim (fun h => good_of_word (List.all_eq_true.mp gG2 w h)) (fun h => (List.mem_append.mp h).elim (fun h => good_of_word (List.all_eq_true.mp gG3 w h)) (fun h => (List.mem_append.mp h).elim (fun h => good_of_word (List.all_eq_true.mp gG4 w h)) (fun h => (List.mem_append.mp h).elim (fun h => good_of_word (List.all_eq_true.mp gG5 w h)) (fun h => (List.mem_append.mp h).elim (fun h => good_of_word (List.all_eq_true.mp gG6 w h)) (fun h => (List.mem_append.mp h).elim (fun h => good_of_word (List.all_eq_true.mp gG7 w h)) (fun h => (List.mem_append.mp h).elim (fun h => good_of_word (List.all_eq_true.mp gG8 w h)) (fun h => (List.mem_append.mp h).elim (fun h => good_of_word (List.all_eq_true.mp gG9 w h)) (fun h => (List.mem_append.mp h).elim (fun h => good_of_word (List.all_eq_true.mp gG10 w h)) (fun h => (List.mem_append.mp h).elim (fun h => good_of_word (List.all_eq_true.mp gG11 w h)) (fun h => (List.mem_append.mp h).elim (fun h => good_of_word (List.all_eq_true.mp gG12 w h)) (fun h => (List.mem_append.mp h).elim (fun h => good_of_word (List.all_eq_true.mp gG13 w h)) (fun h => (List.mem_append.mp h).elim (fun h => good_of_word (List.all_eq_true.mp gG14 w h)) (fun h => (List.mem_append.mp h).elim (fun h => good_of_word (List.all_eq_true.mp gG15 w h)) (fun h => (List.mem_append.mp h).elim (fun h => good_of_word (List.all_eq_true.mp gG16 w h)) (fun h => (List.mem_append.mp h).elim (fun h => good_of_word (List.all_eq_true.mp gG17 w h)) (fun h => (List.mem_append.mp h).elim (fun h => good_of_word (List.all_eq_true.mp gG18 w h)) (fun h => (List.mem_append.mp h).elim (fun h => good_of_word (List.all_eq_true.mp gG19 w h)) (fun h => (List.mem_append.mp h).elim (fun h => good_of_word (List.all_eq_true.mp gG20 w h)) (fun h => (List.mem_append.mp h).elim (fun h => good_of_word (List.all_eq_true.mp gG21 w h)) (fun h => (List.mem_append.mp h).elim (fun h => good_of_word (List.all_eq_true.mp gG22 w h)) (fun h => (List.mem_append.mp h).elim (fun h => good_of_word (List.all_eq_true.mp gG23 w h)) (fun h => (List.mem_append.mp h).elim (fun h => good_of_word (List.all_eq_true.mp gG24 w h)) (fun h => (List.mem_append.mp h).elim (fun h => good_of_word (List.all_eq_true.mp gG25 w h)) (fun h => (List.mem_append.mp h).elim (fun h => good_of_word (List.all_eq_true.mp gG26 w h)) (fun h => (List.mem_append.mp h).elim (fun h => good_of_word (List.all_eq_true.mp gG27 w h)) (fun h => (List.mem_append.mp h).elim (fun h => good_of_word (List.all_eq_true.mp gG28 w h)) (fun h => (List.mem_append.mp h).elim (fun h => good_of_word (List.all_eq_true.mp gG29 w h)) (fun h => (List.mem_append.mp h).elim (fun h => good_of_word (List.all_eq_true.mp gG30 w h)) (fun h => (List.mem_append.mp h).elim (fun h => good_of_word (List.all_eq_true.mp gG31 w h)) (fun h => (List.mem_append.mp h).elim (fun h => good_of_word (List.all_eq_true.mp gG32 w h)) (fun h => (List.mem_append.mp h).elim (fun h => good_of_word (List.all_eq_true.mp gG33 w h)) (fun h => (List.mem_append.mp h).elim (fun h => good_of_word (List.all_eq_true.mp gG34 w h)) (fun h => (List.mem_append.mp h).elim (fun h => good_of_word (List.all_eq_true.mp gG35 w h)) (fun h => (List.mem_append.mp h).elim (fun h => good_of_word (List.all_eq_true.mp gG36 w h)) (fun h => (List.mem_append.mp h).elim (fun h => good_of_word (List.all_eq_true.mp gG37 w h)) (fun h => (List.mem_append.mp h).elim (fun h => good_of_word (List.all_eq_true.mp gG38 w h)) (fun h => (List.mem_append.mp h).elim (fun h => good_of_word (List.all_eq_true.mp gG39 w h)) (fun h => (List.mem_append.mp h).elim (fun h => good_of_word (List.all_eq_true.mp gG40 w h)) (fun h => (List.mem_append.mp h).elim (fun h => good_of_word (List.all_eq_true.mp gG41 w h)) (fun h => (List.mem_append.mp h).elim (fun h => good_of_word (List.all_eq_true.mp gG42 w h)) (fun h => (List.mem_append.mp h).elim (fun h => good_of_word (List.all_eq_true.mp gG43 w h)) (fun h => (List.mem_append.mp h).elim (fun h => good_of_word (List.all_eq_true.mp gG44 w h)) (fun h => (List.mem_append.mp h).elim (fun h => good_of_word (List.all_eq_true.mp gG45 w h)) (fun h => (List.mem_append.mp h).elim (fun h => good_of_word (List.all_eq_true.mp gG46 w h)) (fun h => (List.mem_append.mp h).elim (fun h => good_of_word (List.all_eq_true.mp gG47 w h)) (fun h => (List.mem_append.mp h).elim (fun h => good_of_word (List.all_eq_true.mp gG48 w h)) (fun h => (List.mem_append.mp h).elim (fun h => good_of_word (List.all_eq_true.mp gG49 w h)) (fun h => (List.mem_append.mp h).elim (fun h => good_of_word (List.all_eq_true.mp gG50 w h)) (fun h => (List.mem_append.mp h).elim (fun h => good_of_word (List.all_eq_true.mp gG51 w h)) (fun h => (List.mem_append.mp h).elim (fun h => good_of_word (List.all_eq_true.mp gG52 w h)) (fun h => (List.mem_append.mp h).elim (fun h => good_of_word (List.all_eq_true.mp gG53 w h)) (fun h => (List.mem_append.mp h).elim (fun h => good_of_word (List.all_eq_true.mp gG54 w h)) (fun h => good_of_word (List.all_eq_true.mp gG55 w h)))))))))))))))))))))))))))))))))))))))))))))))))))))))) (fun h => good_of_word (List.all_eq_true.mp gG_wsX110 w h))) (fun h => good_of_word (List.all_eq_true.mp gG_wsX120 w h))) (fun h => good_of_word (List.all_eq_true.mp gG_wsX50 w h))) (fun h => good_of_word (List.all_eq_true.mp gG_wsX80 w h))) (fun h => good_of_word (List.all_eq_true.mp gG_wsX60 w h))) (fun h => good_of_word (List.all_eq_true.mp gG_wsX90 w h))) (fun h => good_of_word (List.all_eq_true.mp gG_wsX70 w h))) (fun h => good_of_word (List.all_eq_true.mp gG_wsX40 w h))) (fun h => good_of_word (List.all_eq_true.mp gG_wsX10 w h))) (fun h => good_of_word (List.all_eq_true.mp gG_wsX20 w h))) (fun h => good_of_word (List.all_eq_true.mp gG_wsX00 w h))) (fun h => good_of_word (List.all_eq_true.mp gG_wsX30 w h))) (fun h => good_of_word (List.all_eq_true.mp gG_wsX100 w h))) (fun h => absurd h List.not_mem_nil)) h
def wtL : Nat → List Cond
  | 0 => k2_sels lw_privs
  | 1 => tables_1_1
  | 2 => tables_1_2
  | 3 => tables_1_3
  | 4 => tables_1_4
  | 5 => tables_1_5
  | 6 => tables_1_6
  | 7 => tables_1_7
  | _ => []
theorem wtL_in : ∀ j, ∀ w ∈ wtL j, w ∈ lw_tbl
  | 0, _, h => List.mem_append_left _ h
  | 1, _, h => List.mem_append_right _ (List.mem_append_left _ h)
  | 2, _, h => List.mem_append_right _ (List.mem_append_right _ (List.mem_append_left _ h))
  | 3, _, h => List.mem_append_right _ (List.mem_append_right _ (List.mem_append_right _ (List.mem_append_left _ h)))
  | 4, _, h => List.mem_append_right _ (List.mem_append_right _ (List.mem_append_right _ (List.mem_append_right _ (List.mem_append_left _ h))))
  | 5, _, h => List.mem_append_right _ (List.mem_append_right _ (List.mem_append_right _ (List.mem_append_right _ (List.mem_append_right _ (List.mem_append_left _ h)))))
  | 6, _, h => List.mem_append_right _ (List.mem_append_right _ (List.mem_append_right _ (List.mem_append_right _ (List.mem_append_right _ (List.mem_append_right _ (List.mem_append_left _ h))))))
  | 7, _, h => List.mem_append_right _ (List.mem_append_right _ (List.mem_append_right _ (List.mem_append_right _ (List.mem_append_right _ (List.mem_append_right _ (List.mem_append_right _ (h)))))))
  | _ + 8, _, h => absurd h List.not_mem_nil
theorem inT_r (ws : List Cond) (ps : List (Nat × Nat)) (hp : ws = ps.filterMap (fun i => (wtL i.1)[i.2]?)) : ∀ w ∈ ws, w ∈ lw_tbl := by
  intro w hw
  rw [hp] at hw
  obtain ⟨i, -, hi⟩ := List.mem_filterMap.mp hw
  exact wtL_in i.1 w (by first | exact List.mem_of_getElem? hi | exact List.getElem?_mem hi)
set_option maxRecDepth 20000 in
theorem wT1 : ∀ w ∈ wsL_law_r1, w ∈ lw_tbl := inT_r wsL_law_r1 [(1, 21), (1, 22), (1, 1), (5, 154), (5, 155), (1, 13), (7, 167), (1, 23), (1, 24), (1, 25), (1, 26), (1, 27), (1, 28), (1, 29), (1, 30), (1, 2), (2, 85), (2, 86), (1, 52), (1, 53), (1, 3), (2, 87), (1, 83), (1, 84)] rfl
set_option maxRecDepth 20000 in
theorem wT2 : ∀ w ∈ wsL_law_r2, w ∈ lw_tbl := inT_r wsL_law_r2 [(1, 4), (2, 88), (1, 99), (1, 100), (1, 5), (2, 89), (1, 115), (1, 116), (1, 6), (2, 90), (1, 135), (1, 136), (1, 7), (1, 137), (1, 138), (1, 8), (2, 91), (2, 92), (2, 93), (1, 229), (1, 230), (1, 10), (2, 94), (2, 95)] rfl
set_option maxRecDepth 20000 in
theorem wT3 : ∀ w ∈ wsL_law_r3, w ∈ lw_tbl := inT_r wsL_law_r3 [(2, 96), (2, 22), (2, 23), (1, 11), (2, 97), (2, 98), (2, 55), (2, 56), (1, 12), (2, 99), (2, 100), (1, 32), (1, 33), (1, 34), (1, 51), (1, 35), (1, 36), (1, 37), (1, 38), (1, 39), (1, 55), (1, 56), (1, 57), (1, 58)] rfl
set_option maxRecDepth 20000 in
theorem wT4 : ∀ w ∈ wsL_law_r4, w ∈ lw_tbl := inT_r wsL_law_r4 [(1, 59), (1, 60), (1, 61), (1, 62), (1, 63), (1, 64), (1, 65), (1, 86), (1, 87), (1, 88), (1, 89), (1, 90), (1, 91), (1, 102), (1, 103), (1, 104), (1, 105), (1, 106), (1, 107), (1, 118), (1, 119), (1, 120), (1, 134), (1, 121)] rfl
set_option maxRecDepth 20000 in
theorem wT5 : ∀ w ∈ wsL_law_r5, w ∈ lw_tbl := inT_r wsL_law_r5 [(1, 122), (1, 123), (1, 124), (1, 139), (1, 140), (1, 141), (1, 142), (1, 143), (1, 144), (1, 145), (1, 153), (1, 154), (1, 155), (1, 156), (1, 205), (1, 206), (1, 207), (1, 208), (1, 209), (1, 201), (1, 157), (1, 158), (1, 9), (1, 202)] rfl
set_option maxRecDepth 20000 in
theorem wT6 : ∀ w ∈ wsL_law_r6, w ∈ lw_tbl := inT_r wsL_law_r6 [(1, 203), (1, 204), (1, 159), (1, 160), (1, 161), (1, 162), (1, 164), (1, 165), (1, 166), (1, 167), (1, 168), (1, 169), (1, 170), (1, 171), (1, 172), (1, 173), (1, 163), (1, 197), (1, 198), (1, 199), (1, 200), (1, 231), (1, 232), (1, 233)] rfl
set_option maxRecDepth 20000 in
theorem wT7 : ∀ w ∈ wsL_law_r7, w ∈ lw_tbl := inT_r wsL_law_r7 [(1, 234), (2, 1), (2, 2), (2, 5), (2, 6), (2, 0), (2, 3), (2, 4), (1, 235), (1, 236), (1, 237), (1, 238), (1, 239), (2, 24), (2, 25), (2, 26), (2, 27), (2, 32), (2, 33), (2, 36), (2, 37), (2, 30), (2, 31), (2, 34)] rfl
set_option maxRecDepth 20000 in
theorem wT8 : ∀ w ∈ wsL_law_r8, w ∈ lw_tbl := inT_r wsL_law_r8 [(2, 35), (2, 28), (2, 29), (2, 57), (2, 58), (2, 59), (2, 60), (2, 61), (2, 66), (2, 63), (2, 67), (2, 68), (2, 84), (2, 69), (2, 70), (2, 65), (5, 156), (5, 157), (5, 158), (5, 159), (5, 160), (5, 161), (5, 162), (5, 163)] rfl
set_option maxRecDepth 20000 in
theorem wT9 : ∀ w ∈ wsL_law_r9, w ∈ lw_tbl := inT_r wsL_law_r9 [(5, 164), (5, 165), (5, 167), (5, 175), (5, 177), (5, 178), (5, 179), (5, 180), (5, 181), (5, 182), (5, 186), (5, 187), (5, 188), (5, 189), (5, 190), (5, 191), (5, 193), (5, 194), (5, 196), (5, 197), (5, 198), (5, 199), (5, 202), (5, 203)] rfl
set_option maxRecDepth 20000 in
theorem wT10 : ∀ w ∈ wsL_law_r10, w ∈ lw_tbl := inT_r wsL_law_r10 [(5, 204), (5, 205), (5, 206), (5, 208), (5, 209), (2, 134), (2, 135), (2, 136), (2, 137), (2, 138), (2, 139), (2, 140), (2, 141), (2, 143), (0, 0), (2, 144), (2, 145), (2, 146), (2, 147), (2, 148), (6, 74), (6, 75), (6, 76), (6, 77)] rfl
set_option maxRecDepth 20000 in
theorem wT11 : ∀ w ∈ wsL_law_r11, w ∈ lw_tbl := inT_r wsL_law_r11 [(6, 78), (6, 79), (6, 80), (6, 81), (6, 82), (6, 83), (2, 149), (2, 150), (2, 151), (2, 152), (2, 157), (2, 153), (2, 154), (2, 155), (2, 156), (2, 158), (2, 159), (2, 160), (2, 161), (6, 84), (6, 85), (6, 86), (6, 87), (5, 166)] rfl
set_option maxRecDepth 20000 in
theorem wT12 : ∀ w ∈ wsL_law_r12, w ∈ lw_tbl := inT_r wsL_law_r12 [(6, 88), (2, 162), (2, 163), (2, 164), (2, 165), (2, 166), (2, 167), (2, 168), (2, 169), (6, 89), (6, 90), (6, 91), (6, 92), (2, 170), (2, 171), (2, 172), (2, 173), (2, 174), (2, 175), (2, 176), (2, 177), (2, 178), (2, 180), (0, 1)] rfl
set_option maxRecDepth 20000 in
theorem wT13 : ∀ w ∈ wsL_law_r13, w ∈ lw_tbl := inT_r wsL_law_r13 [(2, 181), (2, 182), (2, 184), (0, 2), (2, 185), (2, 186), (2, 187), (2, 188), (2, 189), (2, 191), (0, 3), (2, 192), (2, 193), (2, 195), (0, 4), (2, 196), (2, 197), (2, 199), (0, 5), (2, 200), (2, 201), (2, 202), (2, 203), (2, 204)] rfl
set_option maxRecDepth 20000 in
theorem wT14 : ∀ w ∈ wsL_law_r14, w ∈ lw_tbl := inT_r wsL_law_r14 [(2, 205), (2, 207), (0, 6), (2, 208), (2, 209), (2, 210), (2, 211), (2, 213), (2, 215), (0, 7), (2, 216), (2, 217), (2, 218), (2, 219), (1, 14), (2, 220), (7, 168), (2, 221), (2, 222), (2, 223), (2, 224), (2, 225), (7, 169), (2, 227)] rfl
set_option maxRecDepth 20000 in
theorem wT15 : ∀ w ∈ wsL_law_r15, w ∈ lw_tbl := inT_r wsL_law_r15 [(2, 228), (2, 229), (2, 230), (2, 231), (2, 232), (2, 233), (2, 234), (2, 235), (2, 236), (1, 15), (2, 237), (2, 238), (2, 239), (3, 0), (3, 1), (3, 3), (3, 4), (1, 16), (3, 5), (3, 6), (3, 7), (1, 17), (3, 8), (3, 9)] rfl
set_option maxRecDepth 20000 in
theorem wT16 : ∀ w ∈ wsL_law_r16, w ∈ lw_tbl := inT_r wsL_law_r16 [(3, 10), (3, 11), (3, 12), (3, 13), (3, 14), (3, 15), (3, 16), (3, 17), (3, 18), (3, 19), (3, 21), (3, 23), (3, 25), (3, 27), (0, 8), (3, 28), (3, 30), (3, 31), (3, 32), (3, 33), (3, 35), (3, 36), (3, 37), (3, 39)] rfl
set_option maxRecDepth 20000 in
theorem wT17 : ∀ w ∈ wsL_law_r17, w ∈ lw_tbl := inT_r wsL_law_r17 [(3, 40), (3, 41), (3, 42), (3, 43), (3, 44), (3, 45), (3, 46), (3, 47), (3, 48), (3, 49), (3, 50), (3, 51), (3, 52), (3, 53), (3, 54), (3, 55), (3, 56), (3, 57), (3, 58), (6, 93), (6, 94), (6, 95), (6, 96), (5, 173)] rfl
set_option maxRecDepth 20000 in
theorem wT18 : ∀ w ∈ wsL_law_r18, w ∈ lw_tbl := inT_r wsL_law_r18 [(6, 97), (6, 99), (0, 48), (6, 100), (5, 168), (5, 174), (5, 170), (6, 118), (6, 113), (6, 101), (6, 103), (0, 49), (6, 104), (6, 123), (6, 124), (6, 129), (6, 130), (6, 131), (6, 117), (5, 172), (6, 105), (6, 107), (0, 50), (6, 108)] rfl
set_option maxRecDepth 20000 in
theorem wT19 : ∀ w ∈ wsL_law_r19, w ∈ lw_tbl := inT_r wsL_law_r19 [(6, 109), (6, 111), (0, 51), (6, 112), (5, 169), (5, 171), (6, 114), (6, 115), (6, 116), (6, 119), (6, 121), (0, 52), (6, 122), (6, 125), (6, 127), (0, 53), (6, 128), (3, 60), (3, 61), (3, 62), (3, 63), (3, 64), (3, 65), (3, 66)] rfl
set_option maxRecDepth 20000 in
theorem wT20 : ∀ w ∈ wsL_law_r20, w ∈ lw_tbl := inT_r wsL_law_r20 [(3, 67), (3, 68), (3, 69), (1, 18), (3, 70), (3, 71), (3, 72), (3, 73), (6, 132), (6, 133), (6, 134), (6, 135), (6, 136), (6, 138), (0, 54), (6, 139), (6, 140), (6, 141), (6, 142), (6, 143), (6, 144), (6, 145), (6, 146), (6, 147)] rfl
set_option maxRecDepth 20000 in
theorem wT21 : ∀ w ∈ wsL_law_r21, w ∈ lw_tbl := inT_r wsL_law_r21 [(6, 148), (6, 149), (6, 151), (0, 55), (6, 152), (6, 153), (6, 155), (0, 56), (6, 156), (6, 157), (6, 158), (6, 159), (3, 74), (3, 75), (3, 76), (3, 77), (3, 78), (3, 79), (3, 80), (3, 81), (3, 82), (3, 83), (3, 84), (3, 85)] rfl
set_option maxRecDepth 20000 in
theorem wT22 : ∀ w ∈ wsL_law_r22, w ∈ lw_tbl := inT_r wsL_law_r22 [(3, 86), (6, 160), (6, 161), (6, 162), (6, 163), (6, 164), (6, 166), (0, 57), (6, 167), (3, 87), (3, 88), (3, 89), (3, 90), (3, 91), (3, 92), (3, 93), (3, 94), (3, 95), (6, 168), (6, 169), (6, 170), (6, 171), (3, 96), (3, 97)] rfl
set_option maxRecDepth 20000 in
theorem wT23 : ∀ w ∈ wsL_law_r23, w ∈ lw_tbl := inT_r wsL_law_r23 [(3, 98), (3, 99), (3, 100), (3, 101), (3, 102), (3, 103), (3, 104), (3, 105), (3, 106), (3, 107), (3, 108), (3, 109), (3, 110), (3, 111), (3, 112), (3, 113), (3, 114), (3, 115), (3, 116), (3, 117), (3, 118), (3, 119), (3, 120), (3, 121)] rfl
set_option maxRecDepth 20000 in
theorem wT24 : ∀ w ∈ wsL_law_r24, w ∈ lw_tbl := inT_r wsL_law_r24 [(3, 122), (6, 172), (6, 173), (6, 174), (6, 175), (5, 176), (3, 123), (3, 124), (3, 125), (3, 126), (3, 127), (3, 128), (3, 129), (3, 130), (3, 131), (3, 132), (3, 133), (3, 134), (6, 176), (6, 177), (6, 178), (6, 179), (6, 180), (6, 181)] rfl
set_option maxRecDepth 20000 in
theorem wT25 : ∀ w ∈ wsL_law_r25, w ∈ lw_tbl := inT_r wsL_law_r25 [(3, 135), (3, 136), (3, 137), (3, 138), (3, 139), (3, 140), (3, 141), (3, 142), (6, 182), (6, 183), (6, 184), (6, 185), (6, 186), (6, 188), (0, 58), (6, 189), (3, 143), (3, 144), (3, 145), (3, 146), (3, 147), (3, 149), (0, 9), (3, 150)] rfl
set_option maxRecDepth 20000 in
theorem wT26 : ∀ w ∈ wsL_law_r26, w ∈ lw_tbl := inT_r wsL_law_r26 [(3, 151), (3, 152), (3, 153), (3, 154), (6, 190), (6, 191), (6, 192), (6, 193), (3, 155), (3, 156), (3, 157), (3, 158), (3, 159), (3, 160), (3, 161), (3, 162), (3, 190), (3, 163), (3, 165), (0, 10), (3, 166), (3, 167), (3, 169), (0, 11)] rfl
set_option maxRecDepth 20000 in
theorem wT27 : ∀ w ∈ wsL_law_r27, w ∈ lw_tbl := inT_r wsL_law_r27 [(3, 170), (3, 171), (3, 172), (3, 173), (3, 174), (3, 175), (3, 176), (3, 177), (3, 178), (3, 180), (0, 12), (3, 181), (3, 182), (3, 184), (0, 13), (3, 185), (3, 186), (3, 188), (0, 14), (3, 189), (3, 191), (3, 192), (3, 194), (0, 15)] rfl
set_option maxRecDepth 20000 in
theorem wT28 : ∀ w ∈ wsL_law_r28, w ∈ lw_tbl := inT_r wsL_law_r28 [(3, 195), (3, 196), (3, 197), (3, 198), (3, 199), (3, 200), (3, 201), (3, 202), (3, 203), (3, 204), (3, 205), (3, 206), (3, 207), (3, 208), (3, 209), (3, 210), (3, 211), (3, 212), (3, 213), (3, 214), (3, 215), (3, 216), (3, 218), (0, 16)] rfl
set_option maxRecDepth 20000 in
theorem wT29 : ∀ w ∈ wsL_law_r29, w ∈ lw_tbl := inT_r wsL_law_r29 [(3, 219), (3, 220), (3, 221), (3, 222), (3, 223), (3, 224), (3, 225), (3, 226), (3, 227), (3, 228), (3, 229), (3, 230), (3, 231), (3, 232), (3, 233), (3, 234), (3, 235), (3, 236), (3, 237), (3, 238), (3, 239), (4, 0), (4, 1), (4, 2)] rfl
set_option maxRecDepth 20000 in
theorem wT30 : ∀ w ∈ wsL_law_r30, w ∈ lw_tbl := inT_r wsL_law_r30 [(4, 3), (4, 4), (6, 194), (6, 195), (6, 196), (6, 197), (6, 210), (5, 184), (6, 198), (6, 200), (0, 59), (6, 201), (6, 202), (6, 204), (0, 60), (6, 205), (6, 206), (6, 208), (0, 61), (6, 209), (6, 211), (6, 213), (0, 62), (6, 214)] rfl
set_option maxRecDepth 20000 in
theorem wT31 : ∀ w ∈ wsL_law_r31, w ∈ lw_tbl := inT_r wsL_law_r31 [(6, 215), (6, 217), (0, 63), (6, 218), (6, 219), (6, 221), (0, 64), (6, 222), (6, 223), (6, 225), (0, 65), (6, 226), (6, 227), (6, 229), (0, 66), (6, 230), (5, 183), (5, 185), (6, 231), (6, 232), (6, 233), (6, 234), (6, 236), (0, 67)] rfl
set_option maxRecDepth 20000 in
theorem wT32 : ∀ w ∈ wsL_law_r32, w ∈ lw_tbl := inT_r wsL_law_r32 [(6, 237), (6, 238), (6, 239), (7, 0), (7, 1), (7, 3), (0, 68), (7, 4), (7, 5), (7, 7), (0, 69), (7, 8), (7, 9), (7, 11), (0, 70), (7, 12), (7, 13), (7, 14), (7, 15), (7, 16), (7, 17), (7, 18), (7, 19), (7, 21)] rfl
set_option maxRecDepth 20000 in
theorem wT33 : ∀ w ∈ wsL_law_r33, w ∈ lw_tbl := inT_r wsL_law_r33 [(0, 71), (7, 22), (7, 23), (7, 25), (0, 72), (7, 26), (7, 27), (7, 29), (0, 73), (7, 30), (4, 5), (4, 6), (4, 7), (4, 8), (4, 9), (4, 10), (4, 11), (4, 12), (4, 13), (4, 14), (4, 15), (4, 16), (7, 31), (7, 32)] rfl
set_option maxRecDepth 20000 in
theorem wT34 : ∀ w ∈ wsL_law_r34, w ∈ lw_tbl := inT_r wsL_law_r34 [(7, 33), (7, 34), (4, 17), (4, 18), (4, 19), (4, 20), (4, 21), (4, 23), (0, 17), (4, 24), (4, 25), (4, 26), (4, 27), (4, 28), (4, 29), (4, 30), (4, 31), (4, 32), (4, 33), (4, 34), (4, 35), (4, 36), (4, 37), (4, 38)] rfl
set_option maxRecDepth 20000 in
theorem wT35 : ∀ w ∈ wsL_law_r35, w ∈ lw_tbl := inT_r wsL_law_r35 [(4, 39), (4, 40), (4, 41), (4, 42), (4, 43), (4, 44), (4, 45), (4, 46), (4, 47), (4, 48), (4, 49), (4, 51), (0, 18), (4, 52), (4, 53), (4, 55), (0, 19), (4, 56), (4, 57), (4, 58), (4, 59), (4, 60), (4, 61), (4, 62)] rfl
set_option maxRecDepth 20000 in
theorem wT36 : ∀ w ∈ wsL_law_r36, w ∈ lw_tbl := inT_r wsL_law_r36 [(4, 63), (4, 64), (4, 65), (4, 66), (4, 67), (4, 68), (4, 70), (0, 20), (4, 71), (4, 72), (4, 73), (4, 74), (4, 75), (4, 76), (4, 77), (4, 79), (0, 21), (4, 80), (4, 81), (4, 82), (4, 83), (4, 84), (4, 85), (4, 86)] rfl
set_option maxRecDepth 20000 in
theorem wT37 : ∀ w ∈ wsL_law_r37, w ∈ lw_tbl := inT_r wsL_law_r37 [(4, 87), (4, 88), (4, 89), (4, 90), (4, 91), (4, 92), (4, 93), (4, 95), (0, 22), (4, 96), (4, 97), (4, 99), (0, 23), (4, 100), (4, 101), (4, 102), (4, 103), (4, 104), (4, 105), (4, 106), (4, 107), (4, 108), (4, 109), (4, 110)] rfl
set_option maxRecDepth 20000 in
theorem wT38 : ∀ w ∈ wsL_law_r38, w ∈ lw_tbl := inT_r wsL_law_r38 [(4, 111), (4, 112), (4, 113), (4, 115), (0, 24), (4, 116), (4, 117), (4, 119), (0, 25), (4, 120), (4, 121), (4, 122), (4, 123), (4, 124), (4, 125), (4, 126), (4, 127), (4, 129), (0, 26), (4, 130), (4, 131), (4, 132), (4, 133), (4, 134)] rfl
set_option maxRecDepth 20000 in
theorem wT39 : ∀ w ∈ wsL_law_r39, w ∈ lw_tbl := inT_r wsL_law_r39 [(4, 135), (4, 136), (1, 19), (4, 137), (4, 138), (4, 139), (4, 140), (4, 141), (4, 142), (4, 143), (4, 144), (7, 35), (7, 36), (7, 37), (7, 38), (5, 192), (5, 201), (7, 39), (7, 41), (0, 74), (7, 42), (5, 200), (7, 43), (7, 45)] rfl
set_option maxRecDepth 20000 in
theorem wT40 : ∀ w ∈ wsL_law_r40, w ∈ lw_tbl := inT_r wsL_law_r40 [(0, 75), (7, 46), (5, 195), (7, 47), (7, 49), (0, 76), (7, 50), (7, 51), (7, 53), (0, 77), (7, 54), (7, 55), (7, 57), (0, 78), (7, 58), (7, 59), (7, 61), (0, 79), (7, 62), (4, 145), (4, 146), (4, 147), (4, 148), (4, 149)] rfl
set_option maxRecDepth 20000 in
theorem wT41 : ∀ w ∈ wsL_law_r41, w ∈ lw_tbl := inT_r wsL_law_r41 [(4, 151), (0, 27), (4, 152), (4, 153), (4, 154), (1, 20), (4, 155), (7, 63), (7, 64), (7, 65), (7, 66), (4, 156), (4, 157), (4, 158), (4, 159), (4, 160), (4, 162), (0, 28), (4, 163), (4, 164), (4, 165), (4, 166), (4, 167), (4, 168)] rfl
set_option maxRecDepth 20000 in
theorem wT42 : ∀ w ∈ wsL_law_r42, w ∈ lw_tbl := inT_r wsL_law_r42 [(4, 169), (4, 170), (4, 171), (4, 172), (4, 173), (4, 174), (4, 187), (4, 223), (4, 224), (4, 225), (4, 175), (4, 177), (0, 29), (4, 178), (4, 179), (4, 180), (4, 181), (4, 182), (4, 183), (4, 185), (0, 30), (4, 186), (4, 188), (4, 189)] rfl
set_option maxRecDepth 20000 in
theorem wT43 : ∀ w ∈ wsL_law_r43, w ∈ lw_tbl := inT_r wsL_law_r43 [(4, 190), (4, 191), (4, 192), (4, 194), (0, 31), (4, 195), (4, 196), (4, 197), (4, 198), (4, 199), (4, 200), (4, 201), (4, 203), (0, 32), (4, 204), (4, 205), (4, 206), (4, 207), (4, 208), (4, 209), (4, 210), (4, 211), (4, 212), (4, 213)] rfl
set_option maxRecDepth 20000 in
theorem wT44 : ∀ w ∈ wsL_law_r44, w ∈ lw_tbl := inT_r wsL_law_r44 [(4, 214), (4, 215), (4, 216), (4, 217), (4, 218), (4, 219), (4, 221), (0, 33), (4, 222), (4, 226), (4, 227), (4, 228), (4, 229), (4, 230), (4, 231), (7, 67), (7, 68), (7, 69), (7, 70), (7, 71), (7, 73), (0, 80), (7, 74), (7, 75)] rfl
set_option maxRecDepth 20000 in
theorem wT45 : ∀ w ∈ wsL_law_r45, w ∈ lw_tbl := inT_r wsL_law_r45 [(7, 77), (0, 81), (7, 78), (4, 232), (4, 233), (4, 234), (4, 235), (4, 236), (4, 238), (0, 34), (4, 239), (5, 0), (5, 1), (5, 2), (5, 3), (5, 4), (5, 6), (0, 35), (5, 7), (5, 8), (5, 9), (5, 10), (5, 11), (5, 12)] rfl
set_option maxRecDepth 20000 in
theorem wT46 : ∀ w ∈ wsL_law_r46, w ∈ lw_tbl := inT_r wsL_law_r46 [(5, 13), (5, 14), (5, 15), (5, 16), (5, 18), (0, 36), (5, 19), (5, 20), (5, 22), (5, 23), (5, 24), (5, 26), (0, 37), (5, 27), (5, 28), (5, 29), (5, 30), (5, 31), (7, 79), (7, 80), (7, 81), (7, 82), (7, 83), (7, 85)] rfl
set_option maxRecDepth 20000 in
theorem wT47 : ∀ w ∈ wsL_law_r47, w ∈ lw_tbl := inT_r wsL_law_r47 [(0, 82), (7, 86), (7, 87), (7, 89), (0, 83), (7, 90), (5, 32), (5, 33), (5, 34), (5, 35), (5, 36), (5, 37), (5, 38), (5, 39), (5, 52), (5, 40), (5, 42), (0, 38), (5, 43), (5, 44), (5, 45), (5, 47), (0, 39), (5, 48)] rfl
set_option maxRecDepth 20000 in
theorem wT48 : ∀ w ∈ wsL_law_r48, w ∈ lw_tbl := inT_r wsL_law_r48 [(5, 49), (5, 50), (5, 51), (5, 53), (5, 54), (5, 56), (0, 40), (5, 57), (5, 58), (5, 59), (5, 61), (0, 41), (5, 62), (5, 63), (5, 64), (5, 65), (5, 66), (5, 68), (0, 42), (5, 69), (5, 70), (5, 71), (5, 72), (5, 74)] rfl
set_option maxRecDepth 20000 in
theorem wT49 : ∀ w ∈ wsL_law_r49, w ∈ lw_tbl := inT_r wsL_law_r49 [(0, 43), (5, 75), (5, 76), (5, 77), (5, 78), (5, 80), (0, 44), (5, 81), (5, 82), (7, 91), (7, 92), (7, 93), (7, 94), (7, 95), (7, 97), (0, 84), (7, 98), (7, 99), (7, 101), (0, 85), (7, 102), (7, 103), (7, 105), (0, 86)] rfl
set_option maxRecDepth 20000 in
theorem wT50 : ∀ w ∈ wsL_law_r50, w ∈ lw_tbl := inT_r wsL_law_r50 [(7, 106), (7, 107), (7, 109), (0, 87), (7, 110), (7, 111), (7, 113), (0, 88), (7, 114), (7, 115), (7, 117), (0, 89), (7, 118), (7, 119), (7, 121), (0, 90), (7, 122), (5, 83), (5, 84), (5, 85), (5, 86), (7, 123), (7, 124), (7, 125)] rfl
set_option maxRecDepth 20000 in
theorem wT51 : ∀ w ∈ wsL_law_r51, w ∈ lw_tbl := inT_r wsL_law_r51 [(7, 126), (5, 87), (5, 88), (5, 89), (5, 90), (5, 126), (5, 91), (5, 92), (5, 93), (5, 94), (5, 95), (5, 96), (5, 97), (5, 98), (5, 99), (5, 100), (5, 101), (5, 102), (5, 103), (5, 104), (5, 105), (5, 106), (5, 107), (5, 109)] rfl
set_option maxRecDepth 20000 in
theorem wT52 : ∀ w ∈ wsL_law_r52, w ∈ lw_tbl := inT_r wsL_law_r52 [(0, 45), (5, 110), (5, 111), (5, 112), (5, 113), (5, 114), (5, 116), (0, 46), (5, 117), (5, 118), (5, 119), (5, 120), (5, 122), (0, 47), (5, 123), (5, 124), (5, 125), (7, 127), (7, 128), (7, 129), (7, 130), (5, 207), (5, 210), (7, 131)] rfl
set_option maxRecDepth 20000 in
theorem wT53 : ∀ w ∈ wsL_law_r53, w ∈ lw_tbl := inT_r wsL_law_r53 [(7, 133), (0, 91), (7, 134), (7, 135), (7, 137), (0, 92), (7, 138), (7, 139), (7, 141), (0, 93), (7, 142), (7, 143), (7, 145), (0, 94), (7, 146), (7, 147), (7, 149), (0, 95), (7, 150), (5, 127), (5, 128), (5, 129), (5, 130), (5, 131)] rfl
set_option maxRecDepth 20000 in
theorem wT54 : ∀ w ∈ wsL_law_r54, w ∈ lw_tbl := inT_r wsL_law_r54 [(5, 132), (5, 133), (5, 134), (5, 135), (5, 136), (5, 137), (5, 138), (5, 139), (5, 140), (5, 141), (7, 151), (7, 152), (7, 153), (7, 154), (5, 142), (5, 143), (5, 144), (5, 145), (7, 155), (7, 156), (7, 157), (7, 158), (5, 146), (5, 147)] rfl
set_option maxRecDepth 20000 in
theorem wT55 : ∀ w ∈ wsL_law_r55, w ∈ lw_tbl := inT_r wsL_law_r55 [(5, 148), (5, 149), (7, 159), (7, 160), (7, 161), (7, 162), (5, 150), (5, 151), (5, 152), (5, 153), (7, 163), (7, 164), (7, 165), (7, 166)] rfl
set_option maxRecDepth 20000 in
theorem inX11 : ∀ w ∈ wsX110, w ∈ lw_tbl := inT_r wsX110 [(2, 101), (2, 103), (2, 105), (2, 107), (2, 109), (2, 111), (2, 113), (2, 115), (2, 117), (2, 119), (2, 121), (2, 123), (2, 125), (2, 127), (2, 129), (2, 131)] rfl
set_option maxRecDepth 20000 in
theorem inX12 : ∀ w ∈ wsX120, w ∈ lw_tbl := inT_r wsX120 [(5, 211), (5, 213), (5, 215), (5, 217), (5, 219), (5, 221), (5, 223), (5, 225), (5, 227), (5, 229), (5, 231), (5, 233), (5, 235), (5, 237), (5, 239), (6, 1), (6, 3), (6, 5), (6, 7), (6, 9), (6, 11), (6, 13), (6, 15), (6, 17), (6, 19), (6, 21), (6, 23), (6, 25), (6, 27), (6, 29), (6, 31), (6, 33), (6, 35), (6, 37), (6, 39), (6, 41), (6, 43), (6, 45), (6, 47), (6, 49), (6, 51), (6, 53), (6, 55), (6, 57), (6, 59), (6, 61), (6, 63), (6, 65), (6, 67), (6, 69), (6, 71)] rfl
set_option maxRecDepth 20000 in
theorem inX5 : ∀ w ∈ wsX50, w ∈ lw_tbl := inT_r wsX50 [(1, 40), (1, 42), (1, 44), (1, 46), (1, 48)] rfl
set_option maxRecDepth 20000 in
theorem inX8 : ∀ w ∈ wsX80, w ∈ lw_tbl := inT_r wsX80 [(1, 66), (1, 68), (1, 70), (1, 72), (1, 74), (1, 76), (1, 78), (1, 80)] rfl
set_option maxRecDepth 20000 in
theorem inX6 : ∀ w ∈ wsX60, w ∈ lw_tbl := inT_r wsX60 [(1, 92), (1, 94), (1, 96)] rfl
set_option maxRecDepth 20000 in
theorem inX9 : ∀ w ∈ wsX90, w ∈ lw_tbl := inT_r wsX90 [(1, 108), (1, 110), (1, 112)] rfl
set_option maxRecDepth 20000 in
theorem inX7 : ∀ w ∈ wsX70, w ∈ lw_tbl := inT_r wsX70 [(1, 125), (1, 127), (1, 129), (1, 131)] rfl
set_option maxRecDepth 20000 in
theorem inX4 : ∀ w ∈ wsX40, w ∈ lw_tbl := inT_r wsX40 [(1, 210), (1, 212), (1, 214), (1, 216), (1, 218), (1, 220), (1, 222), (1, 224), (1, 226)] rfl
set_option maxRecDepth 20000 in
theorem inX1 : ∀ w ∈ wsX10, w ∈ lw_tbl := inT_r wsX10 [(1, 146), (1, 148), (1, 150)] rfl
set_option maxRecDepth 20000 in
theorem inX2 : ∀ w ∈ wsX20, w ∈ lw_tbl := inT_r wsX20 [(2, 7), (2, 9), (2, 11), (2, 13), (2, 15), (2, 17), (2, 19)] rfl
set_option maxRecDepth 20000 in
theorem inX0 : ∀ w ∈ wsX00, w ∈ lw_tbl := inT_r wsX00 [(2, 38), (2, 40), (2, 42), (2, 44), (2, 46), (2, 48), (2, 50), (2, 52)] rfl
set_option maxRecDepth 20000 in
theorem inX3 : ∀ w ∈ wsX30, w ∈ lw_tbl := inT_r wsX30 [(2, 71), (2, 73), (2, 75), (2, 77), (2, 79), (2, 81)] rfl
set_option maxRecDepth 20000 in
theorem inX10 : ∀ w ∈ wsX100, w ∈ lw_tbl := inT_r wsX100 [(1, 174), (1, 176), (1, 178), (1, 180), (1, 182), (1, 184), (1, 186), (1, 188), (1, 190), (1, 192), (1, 194)] rfl
theorem wsL_law_in : ∀ w ∈ wsL_law, w ∈ lw_tbl := fun w h => (fun h => (List.mem_append.mp h).elim (fun h => (List.mem_append.mp h).elim (fun h => (List.mem_append.mp h).elim (fun h => (List.mem_append.mp h).elim (fun h => (List.mem_append.mp h).elim (fun h => (List.mem_append.mp h).elim (fun h => (List.mem_append.mp h).elim (fun h => (List.mem_append.mp h).elim (fun h => (List.mem_append.mp h).elim (fun h => (List.mem_append.mp h).elim (fun h => (List.mem_append.mp h).elim (fun h => (List.mem_append.mp h).elim (fun h => (List.mem_append.mp h).elim (fun h => (List.mem_append.mp h).elim (fun h => (List.mem_append.mp h).elim (wT1 w) (fun h => (List.mem_append.mp h).elim (wT2 w) (fun h => (List.mem_append.mp h).elim (wT3 w) (fun h => (List.mem_append.mp h).elim (wT4 w) (fun h => (List.mem_append.mp h).elim (wT5 w) (fun h => (List.mem_append.mp h).elim (wT6 w) (fun h => (List.mem_append.mp h).elim (wT7 w) (fun h => (List.mem_append.mp h).elim (wT8 w) (fun h => (List.mem_append.mp h).elim (wT9 w) (fun h => (List.mem_append.mp h).elim (wT10 w) (fun h => (List.mem_append.mp h).elim (wT11 w) (fun h => (List.mem_append.mp h).elim (wT12 w) (fun h => (List.mem_append.mp h).elim (wT13 w) (fun h => (List.mem_append.mp h).elim (wT14 w) (fun h => (List.mem_append.mp h).elim (wT15 w) (fun h => (List.mem_append.mp h).elim (wT16 w) (fun h => (List.mem_append.mp h).elim (wT17 w) (fun h => (List.mem_append.mp h).elim (wT18 w) (fun h => (List.mem_append.mp h).elim (wT19 w) (fun h => (List.mem_append.mp h).elim (wT20 w) (fun h => (List.mem_append.mp h).elim (wT21 w) (fun h => (List.mem_append.mp h).elim (wT22 w) (fun h => (List.mem_append.mp h).elim (wT23 w) (fun h => (List.mem_append.mp h).elim (wT24 w) (fun h => (List.mem_append.mp h).elim (wT25 w) (fun h => (List.mem_append.mp h).elim (wT26 w) (fun h => (List.mem_append.mp h).elim (wT27 w) (fun h => (List.mem_append.mp h).elim (wT28 w) (fun h => (List.mem_append.mp h).elim (wT29 w) (fun h => (List.mem_append.mp h).elim (wT30 w) (fun h => (List.mem_append.mp h).elim (wT31 w) (fun h => (List.mem_append.mp h).elim (wT32 w) (fun h => (List.mem_append.mp h).elim (wT33 w) (fun h => (List.mem_append.mp h).elim (wT34 w) (fun h => (List.mem_append.mp h).elim (wT35 w) (fun h => (List.mem_append.mp h).elim (wT36 w) (fun h => (List.mem_append.mp h).elim (wT37 w) (fun h => (List.mem_append.mp h).elim (wT38 w) (fun h => (List.mem_append.mp h).elim (wT39 w) (fun h => (List.mem_append.mp h).elim (wT40 w) (fun h => (List.mem_append.mp h).elim (wT41 w) (fun h => (List.mem_append.mp h).elim (wT42 w) (fun h => (List.mem_append.mp h).elim (wT43 w) (fun h => (List.mem_append.mp h).elim (wT44 w) (fun h => (List.mem_append.mp h).elim (wT45 w) (fun h => (List.mem_append.mp h).elim (wT46 w) (fun h => (List.mem_append.mp h).elim (wT47 w) (fun h => (List.mem_append.mp h).elim (wT48 w) (fun h => (List.mem_append.mp h).elim (wT49 w) (fun h => (List.mem_append.mp h).elim (wT50 w) (fun h => (List.mem_append.mp h).elim (wT51 w) (fun h => (List.mem_append.mp h).elim (wT52 w) (fun h => (List.mem_append.mp h).elim (wT53 w) (fun h => (List.mem_append.mp h).elim (wT54 w) (wT55 w))))))))))))))))))))))))))))))))))))))))))))))))))))))) (inX11 w)) (inX12 w)) (inX5 w)) (inX8 w)) (inX6 w)) (inX9 w)) (inX7 w)) (inX4 w)) (inX1 w)) (inX2 w)) (inX0 w)) (inX3 w)) (inX10 w)) (fun h => absurd h List.not_mem_nil)) h
theorem m1_0 : Cond.classLink RL 7 RX11 ∈ wsL_law := wG1 _ (List.mem_of_getElem? (i := 0) rfl)
theorem m1_1 : Cond.instantiable RX11 16 ∈ wsL_law := wG1 _ (List.mem_of_getElem? (i := 1) rfl)
theorem m1_2 : Cond.initialized RX11 ∈ wsL_law := wG1 _ (List.mem_of_getElem? (i := 2) rfl)
theorem m1_3 : Cond.classLink RL 10 RX12 ∈ wsL_law := wG1 _ (List.mem_of_getElem? (i := 3) rfl)
theorem m1_4 : Cond.instantiable RX12 51 ∈ wsL_law := wG1 _ (List.mem_of_getElem? (i := 4) rfl)
theorem m1_5 : Cond.initialized RX12 ∈ wsL_law := wG1 _ (List.mem_of_getElem? (i := 5) rfl)
theorem m1_6 : Cond.constantLong RL 18 (4294967295) ∈ wsL_law := wG1 _ (List.mem_of_getElem? (i := 6) rfl)
theorem m1_7 : Cond.methodLink RL 9 yX11_init ∈ wsL_law := wG1 _ (List.mem_of_getElem? (i := 7) rfl)
theorem m1_8 : Cond.instanceMethod yX11_init ∈ wsL_law := wG1 _ (List.mem_of_getElem? (i := 8) rfl)
theorem m1_9 : Cond.code yX11_init cX11_init 1 none ∈ wsL_law := wG1 _ (List.mem_of_getElem? (i := 9) rfl)
theorem m1_10 : Cond.methodLink RX11 1 objectInit ∈ wsL_law := wG1 _ (List.mem_of_getElem? (i := 10) rfl)
theorem m1_11 : Cond.instanceMethod objectInit ∈ wsL_law := wG1 _ (List.mem_of_getElem? (i := 11) rfl)
theorem m1_12 : Cond.code objectInit ⟨#[0xb1]⟩ 1 none ∈ wsL_law := wG1 _ (List.mem_of_getElem? (i := 12) rfl)
theorem m1_13 : Cond.classLink RX11 7 RX5 ∈ wsL_law := wG1 _ (List.mem_of_getElem? (i := 13) rfl)
theorem m1_14 : Cond.instantiable RX5 5 ∈ wsL_law := wG1 _ (List.mem_of_getElem? (i := 14) rfl)
theorem m1_15 : Cond.initialized RX5 ∈ wsL_law := wG1 _ (List.mem_of_getElem? (i := 15) rfl)
theorem m1_16 : Cond.fieldLink RX11 10 "NestReaders" "left" "LNestReaders$Reader;" ∈ wsL_law := wG1 _ (List.mem_of_getElem? (i := 16) rfl)
theorem m1_17 : Cond.fieldLink RX11 16 "NestReaders" "right" "LNestReaders$Reader;" ∈ wsL_law := wG1 _ (List.mem_of_getElem? (i := 17) rfl)
theorem m1_18 : Cond.classLink RX11 19 RX8 ∈ wsL_law := wG1 _ (List.mem_of_getElem? (i := 18) rfl)
theorem m1_19 : Cond.instantiable RX8 8 ∈ wsL_law := wG1 _ (List.mem_of_getElem? (i := 19) rfl)
theorem m1_20 : Cond.initialized RX8 ∈ wsL_law := wG1 _ (List.mem_of_getElem? (i := 20) rfl)
theorem m1_21 : Cond.fieldLink RX11 22 "NestReaders" "text" "LNestReaders$Text;" ∈ wsL_law := wG1 _ (List.mem_of_getElem? (i := 21) rfl)
theorem m1_22 : Cond.classLink RX11 26 RX6 ∈ wsL_law := wG1 _ (List.mem_of_getElem? (i := 22) rfl)
theorem m1_23 : Cond.instantiable RX6 3 ∈ wsL_law := wG1 _ (List.mem_of_getElem? (i := 23) rfl)
theorem m2_0 : Cond.initialized RX6 ∈ wsL_law := wG2 _ (List.mem_of_getElem? (i := 0) rfl)
theorem m2_1 : Cond.fieldLink RX11 29 "NestReaders" "row" "LNestReaders$Row;" ∈ wsL_law := wG2 _ (List.mem_of_getElem? (i := 1) rfl)
theorem m2_2 : Cond.classLink RX11 33 RX9 ∈ wsL_law := wG2 _ (List.mem_of_getElem? (i := 2) rfl)
theorem m2_3 : Cond.instantiable RX9 3 ∈ wsL_law := wG2 _ (List.mem_of_getElem? (i := 3) rfl)
theorem m2_4 : Cond.initialized RX9 ∈ wsL_law := wG2 _ (List.mem_of_getElem? (i := 4) rfl)
theorem m2_5 : Cond.fieldLink RX11 36 "NestReaders" "walk" "LNestReaders$Walk;" ∈ wsL_law := wG2 _ (List.mem_of_getElem? (i := 5) rfl)
theorem m2_6 : Cond.classLink RX11 40 RX7 ∈ wsL_law := wG2 _ (List.mem_of_getElem? (i := 6) rfl)
theorem m2_7 : Cond.instantiable RX7 4 ∈ wsL_law := wG2 _ (List.mem_of_getElem? (i := 7) rfl)
theorem m2_8 : Cond.initialized RX7 ∈ wsL_law := wG2 _ (List.mem_of_getElem? (i := 8) rfl)
theorem m2_9 : Cond.fieldLink RX11 43 "NestReaders" "runCount" "LNestReaders$RunCount;" ∈ wsL_law := wG2 _ (List.mem_of_getElem? (i := 9) rfl)
theorem m2_10 : Cond.classLink RX11 47 RX4 ∈ wsL_law := wG2 _ (List.mem_of_getElem? (i := 10) rfl)
theorem m2_11 : Cond.instantiable RX4 9 ∈ wsL_law := wG2 _ (List.mem_of_getElem? (i := 11) rfl)
theorem m2_12 : Cond.initialized RX4 ∈ wsL_law := wG2 _ (List.mem_of_getElem? (i := 12) rfl)
theorem m2_13 : Cond.classLink RX11 49 RX1 ∈ wsL_law := wG2 _ (List.mem_of_getElem? (i := 13) rfl)
theorem m2_14 : Cond.instantiable RX1 3 ∈ wsL_law := wG2 _ (List.mem_of_getElem? (i := 14) rfl)
theorem m2_15 : Cond.initialized RX1 ∈ wsL_law := wG2 _ (List.mem_of_getElem? (i := 15) rfl)
theorem m2_16 : Cond.fieldLink RX11 57 "NestReaders" "leftPlaces" "LNestReaders$Places;" ∈ wsL_law := wG2 _ (List.mem_of_getElem? (i := 16) rfl)
theorem m2_17 : Cond.fieldLink RX11 61 "NestReaders" "rightPlaces" "LNestReaders$Places;" ∈ wsL_law := wG2 _ (List.mem_of_getElem? (i := 17) rfl)
theorem m2_18 : Cond.fieldLink RX11 64 "NestReaders" "bothPlaces" "LNestReaders$Places;" ∈ wsL_law := wG2 _ (List.mem_of_getElem? (i := 18) rfl)
theorem m2_19 : Cond.classLink RX11 67 RX2 ∈ wsL_law := wG2 _ (List.mem_of_getElem? (i := 19) rfl)
theorem m2_20 : Cond.instantiable RX2 7 ∈ wsL_law := wG2 _ (List.mem_of_getElem? (i := 20) rfl)
theorem m2_21 : Cond.initialized RX2 ∈ wsL_law := wG2 _ (List.mem_of_getElem? (i := 21) rfl)
theorem m2_22 : Cond.fieldLink RX11 72 "NestReaders" "leftLengths" "LNestReaders$Lengths;" ∈ wsL_law := wG2 _ (List.mem_of_getElem? (i := 22) rfl)
theorem m2_23 : Cond.fieldLink RX11 76 "NestReaders" "rightLengths" "LNestReaders$Lengths;" ∈ wsL_law := wG2 _ (List.mem_of_getElem? (i := 23) rfl)
theorem m3_0 : Cond.fieldLink RX11 79 "NestReaders" "bothLengths" "LNestReaders$Lengths;" ∈ wsL_law := wG3 _ (List.mem_of_getElem? (i := 0) rfl)
theorem m3_1 : Cond.classLink RX11 82 RX0 ∈ wsL_law := wG3 _ (List.mem_of_getElem? (i := 1) rfl)
theorem m3_2 : Cond.instantiable RX0 8 ∈ wsL_law := wG3 _ (List.mem_of_getElem? (i := 2) rfl)
theorem m3_3 : Cond.initialized RX0 ∈ wsL_law := wG3 _ (List.mem_of_getElem? (i := 3) rfl)
theorem m3_4 : Cond.fieldLink RX11 85 "NestReaders" "leftCounts" "LNestReaders$Counts;" ∈ wsL_law := wG3 _ (List.mem_of_getElem? (i := 4) rfl)
theorem m3_5 : Cond.fieldLink RX11 89 "NestReaders" "rightCounts" "LNestReaders$Counts;" ∈ wsL_law := wG3 _ (List.mem_of_getElem? (i := 5) rfl)
theorem m3_6 : Cond.classLink RX11 92 RX3 ∈ wsL_law := wG3 _ (List.mem_of_getElem? (i := 6) rfl)
theorem m3_7 : Cond.instantiable RX3 6 ∈ wsL_law := wG3 _ (List.mem_of_getElem? (i := 7) rfl)
theorem m3_8 : Cond.initialized RX3 ∈ wsL_law := wG3 _ (List.mem_of_getElem? (i := 8) rfl)
theorem m3_9 : Cond.fieldLink RX11 97 "NestReaders" "leftListing" "LNestReaders$Listing;" ∈ wsL_law := wG3 _ (List.mem_of_getElem? (i := 9) rfl)
theorem m3_10 : Cond.fieldLink RX11 101 "NestReaders" "rightListing" "LNestReaders$Listing;" ∈ wsL_law := wG3 _ (List.mem_of_getElem? (i := 10) rfl)
theorem m3_11 : Cond.instanceMethod yX5_init ∈ wsL_law := wG3 _ (List.mem_of_getElem? (i := 11) rfl)
theorem m3_12 : Cond.code yX5_init cX5_init 1 none ∈ wsL_law := wG3 _ (List.mem_of_getElem? (i := 12) rfl)
theorem m3_13 : Cond.methodLink RX5 3 objectInit ∈ wsL_law := wG3 _ (List.mem_of_getElem? (i := 13) rfl)
theorem m3_14 : Cond.arrayClass .int ∈ wsL_law := wG3 _ (List.mem_of_getElem? (i := 14) rfl)
theorem m3_15 : Cond.fieldLink RX5 11 "NestReaders$Reader" "ways" "[I" ∈ wsL_law := wG3 _ (List.mem_of_getElem? (i := 15) rfl)
theorem m3_16 : Cond.fieldLink RX5 15 "NestReaders$Reader" "states" "I" ∈ wsL_law := wG3 _ (List.mem_of_getElem? (i := 16) rfl)
theorem m3_17 : Cond.fieldLink RX5 19 "NestReaders$Reader" "marks" "I" ∈ wsL_law := wG3 _ (List.mem_of_getElem? (i := 17) rfl)
theorem m3_18 : Cond.fieldLink RX5 22 "NestReaders$Reader" "takes" "I" ∈ wsL_law := wG3 _ (List.mem_of_getElem? (i := 18) rfl)
theorem m3_19 : Cond.fieldLink RX5 25 "NestReaders$Reader" "changes" "I" ∈ wsL_law := wG3 _ (List.mem_of_getElem? (i := 19) rfl)
theorem m3_20 : Cond.instanceMethod yX8_init ∈ wsL_law := wG3 _ (List.mem_of_getElem? (i := 20) rfl)
theorem m3_21 : Cond.code yX8_init cX8_init 1 none ∈ wsL_law := wG3 _ (List.mem_of_getElem? (i := 21) rfl)
theorem m3_22 : Cond.methodLink RX8 3 objectInit ∈ wsL_law := wG3 _ (List.mem_of_getElem? (i := 22) rfl)
theorem m3_23 : Cond.fieldLink RX8 9 "NestReaders$Text" "bytes" "[I" ∈ wsL_law := wG3 _ (List.mem_of_getElem? (i := 23) rfl)
theorem m4_0 : Cond.fieldLink RX8 15 "NestReaders$Text" "size" "I" ∈ wsL_law := wG4 _ (List.mem_of_getElem? (i := 0) rfl)
theorem m4_1 : Cond.fieldLink RX8 19 "NestReaders$Text" "start" "I" ∈ wsL_law := wG4 _ (List.mem_of_getElem? (i := 1) rfl)
theorem m4_2 : Cond.fieldLink RX8 22 "NestReaders$Text" "behind" "I" ∈ wsL_law := wG4 _ (List.mem_of_getElem? (i := 2) rfl)
theorem m4_3 : Cond.fieldLink RX8 25 "NestReaders$Text" "from" "I" ∈ wsL_law := wG4 _ (List.mem_of_getElem? (i := 3) rfl)
theorem m4_4 : Cond.fieldLink RX8 28 "NestReaders$Text" "letter" "I" ∈ wsL_law := wG4 _ (List.mem_of_getElem? (i := 4) rfl)
theorem m4_5 : Cond.fieldLink RX8 31 "NestReaders$Text" "mark" "I" ∈ wsL_law := wG4 _ (List.mem_of_getElem? (i := 5) rfl)
theorem m4_6 : Cond.fieldLink RX8 34 "NestReaders$Text" "to" "I" ∈ wsL_law := wG4 _ (List.mem_of_getElem? (i := 6) rfl)
theorem m4_7 : Cond.instanceMethod yX6_init ∈ wsL_law := wG4 _ (List.mem_of_getElem? (i := 7) rfl)
theorem m4_8 : Cond.code yX6_init cX6_init 1 none ∈ wsL_law := wG4 _ (List.mem_of_getElem? (i := 8) rfl)
theorem m4_9 : Cond.methodLink RX6 3 objectInit ∈ wsL_law := wG4 _ (List.mem_of_getElem? (i := 9) rfl)
theorem m4_10 : Cond.fieldLink RX6 9 "NestReaders$Row" "letters" "[I" ∈ wsL_law := wG4 _ (List.mem_of_getElem? (i := 10) rfl)
theorem m4_11 : Cond.fieldLink RX6 15 "NestReaders$Row" "base" "[I" ∈ wsL_law := wG4 _ (List.mem_of_getElem? (i := 11) rfl)
theorem m4_12 : Cond.fieldLink RX6 18 "NestReaders$Row" "size" "I" ∈ wsL_law := wG4 _ (List.mem_of_getElem? (i := 12) rfl)
theorem m4_13 : Cond.instanceMethod yX9_init ∈ wsL_law := wG4 _ (List.mem_of_getElem? (i := 13) rfl)
theorem m4_14 : Cond.code yX9_init cX9_init 1 none ∈ wsL_law := wG4 _ (List.mem_of_getElem? (i := 14) rfl)
theorem m4_15 : Cond.methodLink RX9 3 objectInit ∈ wsL_law := wG4 _ (List.mem_of_getElem? (i := 15) rfl)
theorem m4_16 : Cond.fieldLink RX9 9 "NestReaders$Walk" "come" "[I" ∈ wsL_law := wG4 _ (List.mem_of_getElem? (i := 16) rfl)
theorem m4_17 : Cond.fieldLink RX9 15 "NestReaders$Walk" "since" "[I" ∈ wsL_law := wG4 _ (List.mem_of_getElem? (i := 17) rfl)
theorem m4_18 : Cond.fieldLink RX9 18 "NestReaders$Walk" "same" "I" ∈ wsL_law := wG4 _ (List.mem_of_getElem? (i := 18) rfl)
theorem m4_19 : Cond.instanceMethod yX7_init ∈ wsL_law := wG4 _ (List.mem_of_getElem? (i := 19) rfl)
theorem m4_20 : Cond.code yX7_init cX7_init 1 none ∈ wsL_law := wG4 _ (List.mem_of_getElem? (i := 20) rfl)
theorem m4_21 : Cond.methodLink RX7 3 objectInit ∈ wsL_law := wG4 _ (List.mem_of_getElem? (i := 21) rfl)
theorem m4_22 : Cond.arrayClass .long ∈ wsL_law := wG4 _ (List.mem_of_getElem? (i := 22) rfl)
theorem m4_23 : Cond.fieldLink RX7 9 "NestReaders$RunCount" "come" "[J" ∈ wsL_law := wG4 _ (List.mem_of_getElem? (i := 23) rfl)
theorem m5_0 : Cond.fieldLink RX7 15 "NestReaders$RunCount" "since" "[J" ∈ wsL_law := wG5 _ (List.mem_of_getElem? (i := 0) rfl)
theorem m5_1 : Cond.fieldLink RX7 18 "NestReaders$RunCount" "factor" "[J" ∈ wsL_law := wG5 _ (List.mem_of_getElem? (i := 1) rfl)
theorem m5_2 : Cond.fieldLink RX7 21 "NestReaders$RunCount" "half" "[J" ∈ wsL_law := wG5 _ (List.mem_of_getElem? (i := 2) rfl)
theorem m5_3 : Cond.methodLink RX11 51 yX1_init ∈ wsL_law := wG5 _ (List.mem_of_getElem? (i := 3) rfl)
theorem m5_4 : Cond.instanceMethod yX1_init ∈ wsL_law := wG5 _ (List.mem_of_getElem? (i := 4) rfl)
theorem m5_5 : Cond.code yX1_init cX1_init 4 none ∈ wsL_law := wG5 _ (List.mem_of_getElem? (i := 5) rfl)
theorem m5_6 : Cond.methodLink RX1 3 objectInit ∈ wsL_law := wG5 _ (List.mem_of_getElem? (i := 6) rfl)
theorem m5_7 : Cond.fieldLink RX1 9 "NestReaders$Held" "one" "LNestReaders$Reader;" ∈ wsL_law := wG5 _ (List.mem_of_getElem? (i := 7) rfl)
theorem m5_8 : Cond.fieldLink RX1 15 "NestReaders$Held" "other" "LNestReaders$Reader;" ∈ wsL_law := wG5 _ (List.mem_of_getElem? (i := 8) rfl)
theorem m5_9 : Cond.fieldLink RX1 18 "NestReaders$Held" "both" "Z" ∈ wsL_law := wG5 _ (List.mem_of_getElem? (i := 9) rfl)
theorem m5_10 : Cond.methodLink RX11 54 yX4_init ∈ wsL_law := wG5 _ (List.mem_of_getElem? (i := 10) rfl)
theorem m5_11 : Cond.instanceMethod yX4_init ∈ wsL_law := wG5 _ (List.mem_of_getElem? (i := 11) rfl)
theorem m5_12 : Cond.code yX4_init cX4_init 2 none ∈ wsL_law := wG5 _ (List.mem_of_getElem? (i := 12) rfl)
theorem m5_13 : Cond.methodLink RX4 3 objectInit ∈ wsL_law := wG5 _ (List.mem_of_getElem? (i := 13) rfl)
theorem m5_14 : Cond.fieldLink RX4 9 "NestReaders$Places" "filled" "J" ∈ wsL_law := wG5 _ (List.mem_of_getElem? (i := 14) rfl)
theorem m5_15 : Cond.fieldLink RX4 15 "NestReaders$Places" "codes" "J" ∈ wsL_law := wG5 _ (List.mem_of_getElem? (i := 15) rfl)
theorem m5_16 : Cond.fieldLink RX4 18 "NestReaders$Places" "size" "I" ∈ wsL_law := wG5 _ (List.mem_of_getElem? (i := 16) rfl)
theorem m5_17 : Cond.fieldLink RX4 22 "NestReaders$Places" "edition" "I" ∈ wsL_law := wG5 _ (List.mem_of_getElem? (i := 17) rfl)
theorem m5_18 : Cond.fieldLink RX4 25 "NestReaders$Places" "seen" "I" ∈ wsL_law := wG5 _ (List.mem_of_getElem? (i := 18) rfl)
theorem m5_19 : Cond.fieldLink RX4 28 "NestReaders$Places" "held" "LNestReaders$Held;" ∈ wsL_law := wG5 _ (List.mem_of_getElem? (i := 19) rfl)
theorem m5_20 : Cond.classLink RX4 32 RX10 ∈ wsL_law := wG5 _ (List.mem_of_getElem? (i := 20) rfl)
theorem m5_21 : Cond.instantiable RX10 11 ∈ wsL_law := wG5 _ (List.mem_of_getElem? (i := 21) rfl)
theorem m5_22 : Cond.initialized RX10 ∈ wsL_law := wG5 _ (List.mem_of_getElem? (i := 22) rfl)
theorem m5_23 : Cond.fieldLink RX4 37 "NestReaders$Places" "wholes" "LNestReaders$Wholes;" ∈ wsL_law := wG5 _ (List.mem_of_getElem? (i := 23) rfl)
theorem m6_0 : Cond.fieldLink RX4 46 "NestReaders$Places" "images" "[I" ∈ wsL_law := wG6 _ (List.mem_of_getElem? (i := 0) rfl)
theorem m6_1 : Cond.fieldLink RX4 50 "NestReaders$Places" "spreads" "[J" ∈ wsL_law := wG6 _ (List.mem_of_getElem? (i := 1) rfl)
theorem m6_2 : Cond.methodLink RX4 34 yX10_init ∈ wsL_law := wG6 _ (List.mem_of_getElem? (i := 2) rfl)
theorem m6_3 : Cond.instanceMethod yX10_init ∈ wsL_law := wG6 _ (List.mem_of_getElem? (i := 3) rfl)
theorem m6_4 : Cond.code yX10_init cX10_init 2 none ∈ wsL_law := wG6 _ (List.mem_of_getElem? (i := 4) rfl)
theorem m6_5 : Cond.methodLink RX10 3 objectInit ∈ wsL_law := wG6 _ (List.mem_of_getElem? (i := 5) rfl)
theorem m6_6 : Cond.fieldLink RX10 9 "NestReaders$Wholes" "pairs" "[I" ∈ wsL_law := wG6 _ (List.mem_of_getElem? (i := 6) rfl)
theorem m6_7 : Cond.fieldLink RX10 15 "NestReaders$Wholes" "stepOf" "[I" ∈ wsL_law := wG6 _ (List.mem_of_getElem? (i := 7) rfl)
theorem m6_8 : Cond.fieldLink RX10 18 "NestReaders$Wholes" "wholeOf" "[I" ∈ wsL_law := wG6 _ (List.mem_of_getElem? (i := 8) rfl)
theorem m6_9 : Cond.fieldLink RX10 21 "NestReaders$Wholes" "next" "[I" ∈ wsL_law := wG6 _ (List.mem_of_getElem? (i := 9) rfl)
theorem m6_10 : Cond.fieldLink RX10 24 "NestReaders$Wholes" "around" "[I" ∈ wsL_law := wG6 _ (List.mem_of_getElem? (i := 10) rfl)
theorem m6_11 : Cond.fieldLink RX10 27 "NestReaders$Wholes" "plain" "[I" ∈ wsL_law := wG6 _ (List.mem_of_getElem? (i := 11) rfl)
theorem m6_12 : Cond.fieldLink RX10 30 "NestReaders$Wholes" "slots" "[I" ∈ wsL_law := wG6 _ (List.mem_of_getElem? (i := 12) rfl)
theorem m6_13 : Cond.fieldLink RX10 33 "NestReaders$Wholes" "size" "I" ∈ wsL_law := wG6 _ (List.mem_of_getElem? (i := 13) rfl)
theorem m6_14 : Cond.fieldLink RX10 37 "NestReaders$Wholes" "steps" "I" ∈ wsL_law := wG6 _ (List.mem_of_getElem? (i := 14) rfl)
theorem m6_15 : Cond.fieldLink RX10 40 "NestReaders$Wholes" "spent" "Z" ∈ wsL_law := wG6 _ (List.mem_of_getElem? (i := 15) rfl)
theorem m6_16 : Cond.fieldLink RX10 44 "NestReaders$Wholes" "held" "LNestReaders$Held;" ∈ wsL_law := wG6 _ (List.mem_of_getElem? (i := 16) rfl)
theorem m6_17 : Cond.methodLink RX4 41 yX1_codes ∈ wsL_law := wG6 _ (List.mem_of_getElem? (i := 17) rfl)
theorem m6_18 : Cond.instanceMethod yX1_codes ∈ wsL_law := wG6 _ (List.mem_of_getElem? (i := 18) rfl)
theorem m6_19 : Cond.selects RX1 yX1_codes yX1_codes ∈ wsL_law := wG6 _ (List.mem_of_getElem? (i := 19) rfl)
theorem m6_20 : Cond.code yX1_codes cX1_codes 1 (some .int) ∈ wsL_law := wG6 _ (List.mem_of_getElem? (i := 20) rfl)
theorem m6_21 : Cond.methodLink RX11 69 yX2_init ∈ wsL_law := wG6 _ (List.mem_of_getElem? (i := 21) rfl)
theorem m6_22 : Cond.instanceMethod yX2_init ∈ wsL_law := wG6 _ (List.mem_of_getElem? (i := 22) rfl)
theorem m6_23 : Cond.code yX2_init cX2_init 2 none ∈ wsL_law := wG6 _ (List.mem_of_getElem? (i := 23) rfl)
theorem m7_0 : Cond.methodLink RX2 3 objectInit ∈ wsL_law := wG7 _ (List.mem_of_getElem? (i := 0) rfl)
theorem m7_1 : Cond.fieldLink RX2 9 "NestReaders$Lengths" "whole" "[I" ∈ wsL_law := wG7 _ (List.mem_of_getElem? (i := 1) rfl)
theorem m7_2 : Cond.fieldLink RX2 15 "NestReaders$Lengths" "step" "[I" ∈ wsL_law := wG7 _ (List.mem_of_getElem? (i := 2) rfl)
theorem m7_3 : Cond.fieldLink RX2 18 "NestReaders$Lengths" "edition" "I" ∈ wsL_law := wG7 _ (List.mem_of_getElem? (i := 3) rfl)
theorem m7_4 : Cond.fieldLink RX2 22 "NestReaders$Lengths" "changed" "Z" ∈ wsL_law := wG7 _ (List.mem_of_getElem? (i := 4) rfl)
theorem m7_5 : Cond.fieldLink RX2 26 "NestReaders$Lengths" "places" "LNestReaders$Places;" ∈ wsL_law := wG7 _ (List.mem_of_getElem? (i := 5) rfl)
theorem m7_6 : Cond.fieldLink RX2 42 "NestReaders$Lengths" "ground" "[I" ∈ wsL_law := wG7 _ (List.mem_of_getElem? (i := 6) rfl)
theorem m7_7 : Cond.fieldLink RX2 45 "NestReaders$Lengths" "above" "[I" ∈ wsL_law := wG7 _ (List.mem_of_getElem? (i := 7) rfl)
theorem m7_8 : Cond.methodLink RX2 30 yX4_held ∈ wsL_law := wG7 _ (List.mem_of_getElem? (i := 8) rfl)
theorem m7_9 : Cond.instanceMethod yX4_held ∈ wsL_law := wG7 _ (List.mem_of_getElem? (i := 9) rfl)
theorem m7_10 : Cond.selects RX4 yX4_held yX4_held ∈ wsL_law := wG7 _ (List.mem_of_getElem? (i := 10) rfl)
theorem m7_11 : Cond.code yX4_held cX4_held 1 (some (.object "NestReaders$Held")) ∈ wsL_law := wG7 _ (List.mem_of_getElem? (i := 11) rfl)
theorem m7_12 : Cond.methodLink RX2 36 yX1_codes ∈ wsL_law := wG7 _ (List.mem_of_getElem? (i := 12) rfl)
theorem m7_13 : Cond.methodLink RX11 84 yX0_init ∈ wsL_law := wG7 _ (List.mem_of_getElem? (i := 13) rfl)
theorem m7_14 : Cond.instanceMethod yX0_init ∈ wsL_law := wG7 _ (List.mem_of_getElem? (i := 14) rfl)
theorem m7_15 : Cond.code yX0_init cX0_init 2 none ∈ wsL_law := wG7 _ (List.mem_of_getElem? (i := 15) rfl)
theorem m7_16 : Cond.methodLink RX0 3 objectInit ∈ wsL_law := wG7 _ (List.mem_of_getElem? (i := 16) rfl)
theorem m7_17 : Cond.fieldLink RX0 11 "NestReaders$Counts" "whole" "[J" ∈ wsL_law := wG7 _ (List.mem_of_getElem? (i := 17) rfl)
theorem m7_18 : Cond.fieldLink RX0 15 "NestReaders$Counts" "step" "[J" ∈ wsL_law := wG7 _ (List.mem_of_getElem? (i := 18) rfl)
theorem m7_19 : Cond.fieldLink RX0 18 "NestReaders$Counts" "edition" "I" ∈ wsL_law := wG7 _ (List.mem_of_getElem? (i := 19) rfl)
theorem m7_20 : Cond.fieldLink RX0 22 "NestReaders$Counts" "counted" "I" ∈ wsL_law := wG7 _ (List.mem_of_getElem? (i := 20) rfl)
theorem m7_21 : Cond.fieldLink RX0 25 "NestReaders$Counts" "places" "LNestReaders$Places;" ∈ wsL_law := wG7 _ (List.mem_of_getElem? (i := 21) rfl)
theorem m7_22 : Cond.fieldLink RX0 41 "NestReaders$Counts" "codes" "I" ∈ wsL_law := wG7 _ (List.mem_of_getElem? (i := 22) rfl)
theorem m7_23 : Cond.fieldLink RX0 43 "NestReaders$Counts" "ground" "[J" ∈ wsL_law := wG7 _ (List.mem_of_getElem? (i := 23) rfl)
theorem m8_0 : Cond.fieldLink RX0 46 "NestReaders$Counts" "above" "[J" ∈ wsL_law := wG8 _ (List.mem_of_getElem? (i := 0) rfl)
theorem m8_1 : Cond.methodLink RX0 29 yX4_held ∈ wsL_law := wG8 _ (List.mem_of_getElem? (i := 1) rfl)
theorem m8_2 : Cond.methodLink RX0 35 yX1_codes ∈ wsL_law := wG8 _ (List.mem_of_getElem? (i := 2) rfl)
theorem m8_3 : Cond.methodLink RX11 94 yX3_init ∈ wsL_law := wG8 _ (List.mem_of_getElem? (i := 3) rfl)
theorem m8_4 : Cond.instanceMethod yX3_init ∈ wsL_law := wG8 _ (List.mem_of_getElem? (i := 4) rfl)
theorem m8_5 : Cond.code yX3_init cX3_init 2 none ∈ wsL_law := wG8 _ (List.mem_of_getElem? (i := 5) rfl)
theorem m8_6 : Cond.methodLink RX3 3 objectInit ∈ wsL_law := wG8 _ (List.mem_of_getElem? (i := 6) rfl)
theorem m8_7 : Cond.classLink RX3 9 RX6 ∈ wsL_law := wG8 _ (List.mem_of_getElem? (i := 7) rfl)
theorem m8_8 : Cond.fieldLink RX3 12 "NestReaders$Listing" "row" "LNestReaders$Row;" ∈ wsL_law := wG8 _ (List.mem_of_getElem? (i := 8) rfl)
theorem m8_9 : Cond.classLink RX3 18 RX9 ∈ wsL_law := wG8 _ (List.mem_of_getElem? (i := 9) rfl)
theorem m8_10 : Cond.fieldLink RX3 21 "NestReaders$Listing" "walk" "LNestReaders$Walk;" ∈ wsL_law := wG8 _ (List.mem_of_getElem? (i := 10) rfl)
theorem m8_11 : Cond.fieldLink RX3 25 "NestReaders$Listing" "words" "[J" ∈ wsL_law := wG8 _ (List.mem_of_getElem? (i := 11) rfl)
theorem m8_12 : Cond.arrayClass .boolean ∈ wsL_law := wG8 _ (List.mem_of_getElem? (i := 12) rfl)
theorem m8_13 : Cond.fieldLink RX3 29 "NestReaders$Listing" "listed" "[Z" ∈ wsL_law := wG8 _ (List.mem_of_getElem? (i := 13) rfl)
theorem m8_14 : Cond.fieldLink RX3 33 "NestReaders$Listing" "seen" "I" ∈ wsL_law := wG8 _ (List.mem_of_getElem? (i := 14) rfl)
theorem m8_15 : Cond.fieldLink RX3 37 "NestReaders$Listing" "reader" "LNestReaders$Reader;" ∈ wsL_law := wG8 _ (List.mem_of_getElem? (i := 15) rfl)
theorem m8_16 : Cond.methodLink RL 12 yX12_init ∈ wsL_law := wG8 _ (List.mem_of_getElem? (i := 16) rfl)
theorem m8_17 : Cond.instanceMethod yX12_init ∈ wsL_law := wG8 _ (List.mem_of_getElem? (i := 17) rfl)
theorem m8_18 : Cond.code yX12_init cX12_init 2 none ∈ wsL_law := wG8 _ (List.mem_of_getElem? (i := 18) rfl)
theorem m8_19 : Cond.methodLink RX12 1 objectInit ∈ wsL_law := wG8 _ (List.mem_of_getElem? (i := 19) rfl)
theorem m8_20 : Cond.fieldLink RX12 7 "NestReadersModel" "states" "[I" ∈ wsL_law := wG8 _ (List.mem_of_getElem? (i := 20) rfl)
theorem m8_21 : Cond.fieldLink RX12 13 "NestReadersModel" "markMany" "[I" ∈ wsL_law := wG8 _ (List.mem_of_getElem? (i := 21) rfl)
theorem m8_22 : Cond.fieldLink RX12 16 "NestReadersModel" "takes" "[I" ∈ wsL_law := wG8 _ (List.mem_of_getElem? (i := 22) rfl)
theorem m8_23 : Cond.fieldLink RX12 19 "NestReadersModel" "puts" "[I" ∈ wsL_law := wG8 _ (List.mem_of_getElem? (i := 23) rfl)
theorem m9_0 : Cond.fieldLink RX12 22 "NestReadersModel" "goes" "[I" ∈ wsL_law := wG9 _ (List.mem_of_getElem? (i := 0) rfl)
theorem m9_1 : Cond.fieldLink RX12 25 "NestReadersModel" "closes" "[I" ∈ wsL_law := wG9 _ (List.mem_of_getElem? (i := 1) rfl)
theorem m9_2 : Cond.fieldLink RX12 28 "NestReadersModel" "text" "[I" ∈ wsL_law := wG9 _ (List.mem_of_getElem? (i := 2) rfl)
theorem m9_3 : Cond.fieldLink RX12 31 "NestReadersModel" "read" "[I" ∈ wsL_law := wG9 _ (List.mem_of_getElem? (i := 3) rfl)
theorem m9_4 : Cond.fieldLink RX12 34 "NestReadersModel" "row" "[I" ∈ wsL_law := wG9 _ (List.mem_of_getElem? (i := 4) rfl)
theorem m9_5 : Cond.fieldLink RX12 37 "NestReadersModel" "partner" "[I" ∈ wsL_law := wG9 _ (List.mem_of_getElem? (i := 5) rfl)
theorem m9_6 : Cond.fieldLink RX12 40 "NestReadersModel" "some" "[I" ∈ wsL_law := wG9 _ (List.mem_of_getElem? (i := 6) rfl)
theorem m9_7 : Cond.fieldLink RX12 43 "NestReadersModel" "stackCome" "[I" ∈ wsL_law := wG9 _ (List.mem_of_getElem? (i := 7) rfl)
theorem m9_8 : Cond.fieldLink RX12 46 "NestReadersModel" "stackSince" "[I" ∈ wsL_law := wG9 _ (List.mem_of_getElem? (i := 8) rfl)
theorem m9_9 : Cond.fieldLink RX12 49 "NestReadersModel" "stackLetter" "[I" ∈ wsL_law := wG9 _ (List.mem_of_getElem? (i := 9) rfl)
theorem m9_10 : Cond.fieldLink RX12 52 "NestReadersModel" "runs" "[J" ∈ wsL_law := wG9 _ (List.mem_of_getElem? (i := 10) rfl)
theorem m9_11 : Cond.fieldLink RX12 56 "NestReadersModel" "ways" "[J" ∈ wsL_law := wG9 _ (List.mem_of_getElem? (i := 11) rfl)
theorem m9_12 : Cond.fieldLink RX12 59 "NestReadersModel" "keptRuns" "[J" ∈ wsL_law := wG9 _ (List.mem_of_getElem? (i := 12) rfl)
theorem m9_13 : Cond.fieldLink RX12 62 "NestReadersModel" "keptWays" "[J" ∈ wsL_law := wG9 _ (List.mem_of_getElem? (i := 13) rfl)
theorem m9_14 : Cond.fieldLink RX12 65 "NestReadersModel" "rel" "[J" ∈ wsL_law := wG9 _ (List.mem_of_getElem? (i := 14) rfl)
theorem m9_15 : Cond.fieldLink RX12 68 "NestReadersModel" "known" "I" ∈ wsL_law := wG9 _ (List.mem_of_getElem? (i := 15) rfl)
theorem m9_16 : Cond.fieldLink RX12 72 "NestReadersModel" "whole" "[I" ∈ wsL_law := wG9 _ (List.mem_of_getElem? (i := 16) rfl)
theorem m9_17 : Cond.fieldLink RX12 75 "NestReadersModel" "wholeLong" "[I" ∈ wsL_law := wG9 _ (List.mem_of_getElem? (i := 17) rfl)
theorem m9_18 : Cond.fieldLink RX12 78 "NestReadersModel" "nodeCome" "[I" ∈ wsL_law := wG9 _ (List.mem_of_getElem? (i := 18) rfl)
theorem m9_19 : Cond.fieldLink RX12 81 "NestReadersModel" "nodeSince" "[I" ∈ wsL_law := wG9 _ (List.mem_of_getElem? (i := 19) rfl)
theorem m9_20 : Cond.fieldLink RX12 84 "NestReadersModel" "nodeDeep" "[Z" ∈ wsL_law := wG9 _ (List.mem_of_getElem? (i := 20) rfl)
theorem m9_21 : Cond.fieldLink RX12 88 "NestReadersModel" "nodeLong" "[I" ∈ wsL_law := wG9 _ (List.mem_of_getElem? (i := 21) rfl)
theorem m9_22 : Cond.fieldLink RX12 91 "NestReadersModel" "wholeMany" "[J" ∈ wsL_law := wG9 _ (List.mem_of_getElem? (i := 22) rfl)
theorem m9_23 : Cond.fieldLink RX12 94 "NestReadersModel" "blockTo" "[I" ∈ wsL_law := wG9 _ (List.mem_of_getElem? (i := 23) rfl)
theorem m10_0 : Cond.fieldLink RX12 97 "NestReadersModel" "nodeMany" "[J" ∈ wsL_law := wG10 _ (List.mem_of_getElem? (i := 0) rfl)
theorem m10_1 : Cond.fieldLink RX12 100 "NestReadersModel" "listCome" "[I" ∈ wsL_law := wG10 _ (List.mem_of_getElem? (i := 1) rfl)
theorem m10_2 : Cond.fieldLink RX12 103 "NestReadersModel" "listSince" "[I" ∈ wsL_law := wG10 _ (List.mem_of_getElem? (i := 2) rfl)
theorem m10_3 : Cond.fieldLink RX12 106 "NestReadersModel" "nextCome" "[I" ∈ wsL_law := wG10 _ (List.mem_of_getElem? (i := 3) rfl)
theorem m10_4 : Cond.fieldLink RX12 109 "NestReadersModel" "nextSince" "[I" ∈ wsL_law := wG10 _ (List.mem_of_getElem? (i := 4) rfl)
theorem m10_5 : Cond.methodLink RL 13 yX11_reader ∈ wsL_law := wG10 _ (List.mem_of_getElem? (i := 5) rfl)
theorem m10_6 : Cond.instanceMethod yX11_reader ∈ wsL_law := wG10 _ (List.mem_of_getElem? (i := 6) rfl)
theorem m10_7 : Cond.selects RX11 yX11_reader yX11_reader ∈ wsL_law := wG10 _ (List.mem_of_getElem? (i := 7) rfl)
theorem m10_8 : Cond.code yX11_reader cX11_reader 5 (some .int) ∈ wsL_law := wG10 _ (List.mem_of_getElem? (i := 8) rfl)
theorem m10_9 : Cond.methodLink RX11 104 yX11_isReader ∈ wsL_law := wG10 _ (List.mem_of_getElem? (i := 9) rfl)
theorem m10_10 : Cond.static yX11_isReader ∈ wsL_law := wG10 _ (List.mem_of_getElem? (i := 10) rfl)
theorem m10_11 : Cond.code yX11_isReader cX11_isReader 1 (some .boolean) ∈ wsL_law := wG10 _ (List.mem_of_getElem? (i := 11) rfl)
theorem m10_12 : Cond.methodLink RX11 108 yX11_chosen ∈ wsL_law := wG10 _ (List.mem_of_getElem? (i := 12) rfl)
theorem m10_13 : Cond.instanceMethod yX11_chosen ∈ wsL_law := wG10 _ (List.mem_of_getElem? (i := 13) rfl)
theorem m10_14 : Cond.selects RX11 yX11_chosen yX11_chosen ∈ wsL_law := wG10 _ (List.mem_of_getElem? (i := 14) rfl)
theorem m10_15 : Cond.code yX11_chosen cX11_chosen 2 (some (.object "NestReaders$Reader")) ∈ wsL_law := wG10 _ (List.mem_of_getElem? (i := 15) rfl)
theorem m10_16 : Cond.methodLink RX11 112 yX5_become ∈ wsL_law := wG10 _ (List.mem_of_getElem? (i := 16) rfl)
theorem m10_17 : Cond.instanceMethod yX5_become ∈ wsL_law := wG10 _ (List.mem_of_getElem? (i := 17) rfl)
theorem m10_18 : Cond.selects RX5 yX5_become yX5_become ∈ wsL_law := wG10 _ (List.mem_of_getElem? (i := 18) rfl)
theorem m10_19 : Cond.code yX5_become cX5_become 5 none ∈ wsL_law := wG10 _ (List.mem_of_getElem? (i := 19) rfl)
theorem m10_20 : Cond.methodLink RL 17 yX12_reader ∈ wsL_law := wG10 _ (List.mem_of_getElem? (i := 20) rfl)
theorem m10_21 : Cond.instanceMethod yX12_reader ∈ wsL_law := wG10 _ (List.mem_of_getElem? (i := 21) rfl)
theorem m10_22 : Cond.selects RX12 yX12_reader yX12_reader ∈ wsL_law := wG10 _ (List.mem_of_getElem? (i := 22) rfl)
theorem m10_23 : Cond.code yX12_reader cX12_reader 6 (some .int) ∈ wsL_law := wG10 _ (List.mem_of_getElem? (i := 23) rfl)
theorem m11_0 : Cond.methodLink RX12 116 yX12_isReader ∈ wsL_law := wG11 _ (List.mem_of_getElem? (i := 0) rfl)
theorem m11_1 : Cond.static yX12_isReader ∈ wsL_law := wG11 _ (List.mem_of_getElem? (i := 1) rfl)
theorem m11_2 : Cond.code yX12_isReader cX12_isReader 1 (some .boolean) ∈ wsL_law := wG11 _ (List.mem_of_getElem? (i := 2) rfl)
theorem m11_3 : Cond.methodLink RX12 112 yX12_in ∈ wsL_law := wG11 _ (List.mem_of_getElem? (i := 3) rfl)
theorem m11_4 : Cond.static yX12_in ∈ wsL_law := wG11 _ (List.mem_of_getElem? (i := 4) rfl)
theorem m11_5 : Cond.code yX12_in cX12_in 3 (some .boolean) ∈ wsL_law := wG11 _ (List.mem_of_getElem? (i := 5) rfl)
theorem m11_6 : Cond.methodLink RL 20 yX11_write ∈ wsL_law := wG11 _ (List.mem_of_getElem? (i := 6) rfl)
theorem m11_7 : Cond.instanceMethod yX11_write ∈ wsL_law := wG11 _ (List.mem_of_getElem? (i := 7) rfl)
theorem m11_8 : Cond.selects RX11 yX11_write yX11_write ∈ wsL_law := wG11 _ (List.mem_of_getElem? (i := 8) rfl)
theorem m11_9 : Cond.code yX11_write cX11_write 5 (some .int) ∈ wsL_law := wG11 _ (List.mem_of_getElem? (i := 9) rfl)
theorem m11_10 : Cond.constantLong RX11 120 (255) ∈ wsL_law := wG11 _ (List.mem_of_getElem? (i := 10) rfl)
theorem m11_11 : Cond.methodLink RX11 116 yX8_size ∈ wsL_law := wG11 _ (List.mem_of_getElem? (i := 11) rfl)
theorem m11_12 : Cond.instanceMethod yX8_size ∈ wsL_law := wG11 _ (List.mem_of_getElem? (i := 12) rfl)
theorem m11_13 : Cond.selects RX8 yX8_size yX8_size ∈ wsL_law := wG11 _ (List.mem_of_getElem? (i := 13) rfl)
theorem m11_14 : Cond.code yX8_size cX8_size 1 (some .int) ∈ wsL_law := wG11 _ (List.mem_of_getElem? (i := 14) rfl)
theorem m11_15 : Cond.methodLink RX11 122 yX8_append ∈ wsL_law := wG11 _ (List.mem_of_getElem? (i := 15) rfl)
theorem m11_16 : Cond.instanceMethod yX8_append ∈ wsL_law := wG11 _ (List.mem_of_getElem? (i := 16) rfl)
theorem m11_17 : Cond.selects RX8 yX8_append yX8_append ∈ wsL_law := wG11 _ (List.mem_of_getElem? (i := 17) rfl)
theorem m11_18 : Cond.code yX8_append cX8_append 2 none ∈ wsL_law := wG11 _ (List.mem_of_getElem? (i := 18) rfl)
theorem m11_19 : Cond.methodLink RL 24 yX12_write ∈ wsL_law := wG11 _ (List.mem_of_getElem? (i := 19) rfl)
theorem m11_20 : Cond.instanceMethod yX12_write ∈ wsL_law := wG11 _ (List.mem_of_getElem? (i := 20) rfl)
theorem m11_21 : Cond.selects RX12 yX12_write yX12_write ∈ wsL_law := wG11 _ (List.mem_of_getElem? (i := 21) rfl)
theorem m11_22 : Cond.code yX12_write cX12_write 5 (some .int) ∈ wsL_law := wG11 _ (List.mem_of_getElem? (i := 22) rfl)
theorem m11_23 : Cond.fieldLink RX12 120 "NestReadersModel" "bytes" "I" ∈ wsL_law := wG11 _ (List.mem_of_getElem? (i := 23) rfl)
theorem m12_0 : Cond.constantLong RX12 123 (255) ∈ wsL_law := wG12 _ (List.mem_of_getElem? (i := 0) rfl)
theorem m12_1 : Cond.methodLink RL 25 yX11_erase ∈ wsL_law := wG12 _ (List.mem_of_getElem? (i := 1) rfl)
theorem m12_2 : Cond.instanceMethod yX11_erase ∈ wsL_law := wG12 _ (List.mem_of_getElem? (i := 2) rfl)
theorem m12_3 : Cond.selects RX11 yX11_erase yX11_erase ∈ wsL_law := wG12 _ (List.mem_of_getElem? (i := 3) rfl)
theorem m12_4 : Cond.code yX11_erase cX11_erase 2 (some .int) ∈ wsL_law := wG12 _ (List.mem_of_getElem? (i := 4) rfl)
theorem m12_5 : Cond.methodLink RX11 126 yX8_empty ∈ wsL_law := wG12 _ (List.mem_of_getElem? (i := 5) rfl)
theorem m12_6 : Cond.instanceMethod yX8_empty ∈ wsL_law := wG12 _ (List.mem_of_getElem? (i := 6) rfl)
theorem m12_7 : Cond.selects RX8 yX8_empty yX8_empty ∈ wsL_law := wG12 _ (List.mem_of_getElem? (i := 7) rfl)
theorem m12_8 : Cond.code yX8_empty cX8_empty 1 none ∈ wsL_law := wG12 _ (List.mem_of_getElem? (i := 8) rfl)
theorem m12_9 : Cond.methodLink RL 29 yX12_erase ∈ wsL_law := wG12 _ (List.mem_of_getElem? (i := 9) rfl)
theorem m12_10 : Cond.instanceMethod yX12_erase ∈ wsL_law := wG12 _ (List.mem_of_getElem? (i := 10) rfl)
theorem m12_11 : Cond.selects RX12 yX12_erase yX12_erase ∈ wsL_law := wG12 _ (List.mem_of_getElem? (i := 11) rfl)
theorem m12_12 : Cond.code yX12_erase cX12_erase 2 (some .int) ∈ wsL_law := wG12 _ (List.mem_of_getElem? (i := 12) rfl)
theorem m12_13 : Cond.methodLink RL 30 yX11_fault ∈ wsL_law := wG12 _ (List.mem_of_getElem? (i := 13) rfl)
theorem m12_14 : Cond.instanceMethod yX11_fault ∈ wsL_law := wG12 _ (List.mem_of_getElem? (i := 14) rfl)
theorem m12_15 : Cond.selects RX11 yX11_fault yX11_fault ∈ wsL_law := wG12 _ (List.mem_of_getElem? (i := 15) rfl)
theorem m12_16 : Cond.code yX11_fault cX11_fault 2 (some .int) ∈ wsL_law := wG12 _ (List.mem_of_getElem? (i := 16) rfl)
theorem m12_17 : Cond.methodLink RX11 129 yX8_faultFor ∈ wsL_law := wG12 _ (List.mem_of_getElem? (i := 17) rfl)
theorem m12_18 : Cond.instanceMethod yX8_faultFor ∈ wsL_law := wG12 _ (List.mem_of_getElem? (i := 18) rfl)
theorem m12_19 : Cond.selects RX8 yX8_faultFor yX8_faultFor ∈ wsL_law := wG12 _ (List.mem_of_getElem? (i := 19) rfl)
theorem m12_20 : Cond.code yX8_faultFor cX8_faultFor 4 (some .int) ∈ wsL_law := wG12 _ (List.mem_of_getElem? (i := 20) rfl)
theorem m12_21 : Cond.methodLink RX8 37 yX8_step ∈ wsL_law := wG12 _ (List.mem_of_getElem? (i := 21) rfl)
theorem m12_22 : Cond.instanceMethod yX8_step ∈ wsL_law := wG12 _ (List.mem_of_getElem? (i := 22) rfl)
theorem m12_23 : Cond.selects RX8 yX8_step yX8_step ∈ wsL_law := wG12 _ (List.mem_of_getElem? (i := 23) rfl)
theorem m13_0 : Cond.code yX8_step cX8_step 2 none ∈ wsL_law := wG13 _ (List.mem_of_getElem? (i := 0) rfl)
theorem m13_1 : Cond.methodLink RX8 89 yX8_byteAt ∈ wsL_law := wG13 _ (List.mem_of_getElem? (i := 1) rfl)
theorem m13_2 : Cond.instanceMethod yX8_byteAt ∈ wsL_law := wG13 _ (List.mem_of_getElem? (i := 2) rfl)
theorem m13_3 : Cond.selects RX8 yX8_byteAt yX8_byteAt ∈ wsL_law := wG13 _ (List.mem_of_getElem? (i := 3) rfl)
theorem m13_4 : Cond.code yX8_byteAt cX8_byteAt 2 (some .int) ∈ wsL_law := wG13 _ (List.mem_of_getElem? (i := 4) rfl)
theorem m13_5 : Cond.methodLink RX8 93 yX8_kindOf ∈ wsL_law := wG13 _ (List.mem_of_getElem? (i := 5) rfl)
theorem m13_6 : Cond.static yX8_kindOf ∈ wsL_law := wG13 _ (List.mem_of_getElem? (i := 6) rfl)
theorem m13_7 : Cond.code yX8_kindOf cX8_kindOf 1 (some .int) ∈ wsL_law := wG13 _ (List.mem_of_getElem? (i := 7) rfl)
theorem m13_8 : Cond.methodLink RX8 40 yX8_readMove ∈ wsL_law := wG13 _ (List.mem_of_getElem? (i := 8) rfl)
theorem m13_9 : Cond.instanceMethod yX8_readMove ∈ wsL_law := wG13 _ (List.mem_of_getElem? (i := 9) rfl)
theorem m13_10 : Cond.selects RX8 yX8_readMove yX8_readMove ∈ wsL_law := wG13 _ (List.mem_of_getElem? (i := 10) rfl)
theorem m13_11 : Cond.code yX8_readMove cX8_readMove 2 (some .boolean) ∈ wsL_law := wG13 _ (List.mem_of_getElem? (i := 11) rfl)
theorem m13_12 : Cond.methodLink RX8 54 yX8_digit ∈ wsL_law := wG13 _ (List.mem_of_getElem? (i := 12) rfl)
theorem m13_13 : Cond.instanceMethod yX8_digit ∈ wsL_law := wG13 _ (List.mem_of_getElem? (i := 13) rfl)
theorem m13_14 : Cond.selects RX8 yX8_digit yX8_digit ∈ wsL_law := wG13 _ (List.mem_of_getElem? (i := 14) rfl)
theorem m13_15 : Cond.code yX8_digit cX8_digit 1 (some .int) ∈ wsL_law := wG13 _ (List.mem_of_getElem? (i := 15) rfl)
theorem m13_16 : Cond.methodLink RX8 50 yX8_head ∈ wsL_law := wG13 _ (List.mem_of_getElem? (i := 16) rfl)
theorem m13_17 : Cond.instanceMethod yX8_head ∈ wsL_law := wG13 _ (List.mem_of_getElem? (i := 17) rfl)
theorem m13_18 : Cond.selects RX8 yX8_head yX8_head ∈ wsL_law := wG13 _ (List.mem_of_getElem? (i := 18) rfl)
theorem m13_19 : Cond.code yX8_head cX8_head 1 (some .int) ∈ wsL_law := wG13 _ (List.mem_of_getElem? (i := 19) rfl)
theorem m13_20 : Cond.methodLink RX8 57 yX5_isState ∈ wsL_law := wG13 _ (List.mem_of_getElem? (i := 20) rfl)
theorem m13_21 : Cond.instanceMethod yX5_isState ∈ wsL_law := wG13 _ (List.mem_of_getElem? (i := 21) rfl)
theorem m13_22 : Cond.selects RX5 yX5_isState yX5_isState ∈ wsL_law := wG13 _ (List.mem_of_getElem? (i := 22) rfl)
theorem m13_23 : Cond.code yX5_isState cX5_isState 2 (some .boolean) ∈ wsL_law := wG13 _ (List.mem_of_getElem? (i := 23) rfl)
theorem m14_0 : Cond.methodLink RX8 61 yX8_pass ∈ wsL_law := wG14 _ (List.mem_of_getElem? (i := 0) rfl)
theorem m14_1 : Cond.instanceMethod yX8_pass ∈ wsL_law := wG14 _ (List.mem_of_getElem? (i := 1) rfl)
theorem m14_2 : Cond.selects RX8 yX8_pass yX8_pass ∈ wsL_law := wG14 _ (List.mem_of_getElem? (i := 2) rfl)
theorem m14_3 : Cond.code yX8_pass cX8_pass 2 (some .boolean) ∈ wsL_law := wG14 _ (List.mem_of_getElem? (i := 3) rfl)
theorem m14_4 : Cond.methodLink RX8 65 yX5_closes ∈ wsL_law := wG14 _ (List.mem_of_getElem? (i := 4) rfl)
theorem m14_5 : Cond.static yX5_closes ∈ wsL_law := wG14 _ (List.mem_of_getElem? (i := 5) rfl)
theorem m14_6 : Cond.code yX5_closes cX5_closes 1 (some .boolean) ∈ wsL_law := wG14 _ (List.mem_of_getElem? (i := 6) rfl)
theorem m14_7 : Cond.methodLink RX8 70 yX8_isWord ∈ wsL_law := wG14 _ (List.mem_of_getElem? (i := 7) rfl)
theorem m14_8 : Cond.instanceMethod yX8_isWord ∈ wsL_law := wG14 _ (List.mem_of_getElem? (i := 8) rfl)
theorem m14_9 : Cond.selects RX8 yX8_isWord yX8_isWord ∈ wsL_law := wG14 _ (List.mem_of_getElem? (i := 9) rfl)
theorem m14_10 : Cond.code yX8_isWord cX8_isWord 4 (some .boolean) ∈ wsL_law := wG14 _ (List.mem_of_getElem? (i := 10) rfl)
theorem m14_11 : Cond.methodLink RX8 96 yJ0_length_8abf5 ∈ wsL_law := wG14 _ (List.mem_of_getElem? (i := 11) rfl)
theorem m14_12 : Cond.instanceMethod yJ0_length_8abf5 ∈ wsL_law := wG14 _ (List.mem_of_getElem? (i := 12) rfl)
theorem m14_13 : Cond.selects RJ0 yJ0_length_8abf5 yJ0_length_8abf5 ∈ wsL_law := wG14 _ (List.mem_of_getElem? (i := 13) rfl)
theorem m14_14 : Cond.initialized RJ0 ∈ wsL_law := wG14 _ (List.mem_of_getElem? (i := 14) rfl)
theorem m14_15 : Cond.code yJ0_length_8abf5 cJ0_length_8abf5 1 (some .int) ∈ wsL_law := wG14 _ (List.mem_of_getElem? (i := 15) rfl)
theorem m14_16 : Cond.fieldLink RJ0 9 "java/lang/String" "value" "[B" ∈ wsL_law := wG14 _ (List.mem_of_getElem? (i := 16) rfl)
theorem m14_17 : Cond.methodLink RJ0 335 yJ0_coder_7d493 ∈ wsL_law := wG14 _ (List.mem_of_getElem? (i := 17) rfl)
theorem m14_18 : Cond.instanceMethod yJ0_coder_7d493 ∈ wsL_law := wG14 _ (List.mem_of_getElem? (i := 18) rfl)
theorem m14_19 : Cond.selects RJ0 yJ0_coder_7d493 yJ0_coder_7d493 ∈ wsL_law := wG14 _ (List.mem_of_getElem? (i := 19) rfl)
theorem m14_20 : Cond.code yJ0_coder_7d493 cJ0_coder_7d493 1 (some .byte) ∈ wsL_law := wG14 _ (List.mem_of_getElem? (i := 20) rfl)
theorem m14_21 : Cond.fieldLink RJ0 38 "java/lang/String" "COMPACT_STRINGS" "Z" ∈ wsL_law := wG14 _ (List.mem_of_getElem? (i := 21) rfl)
theorem m14_22 : Cond.fieldLink RJ0 15 "java/lang/String" "coder" "B" ∈ wsL_law := wG14 _ (List.mem_of_getElem? (i := 22) rfl)
theorem m14_23 : Cond.methodLink RX8 101 yJ0_charAt_5068e ∈ wsL_law := wG14 _ (List.mem_of_getElem? (i := 23) rfl)
theorem m15_0 : Cond.instanceMethod yJ0_charAt_5068e ∈ wsL_law := wG15 _ (List.mem_of_getElem? (i := 0) rfl)
theorem m15_1 : Cond.selects RJ0 yJ0_charAt_5068e yJ0_charAt_5068e ∈ wsL_law := wG15 _ (List.mem_of_getElem? (i := 1) rfl)
theorem m15_2 : Cond.code yJ0_charAt_5068e cJ0_charAt_5068e 2 (some .char) ∈ wsL_law := wG15 _ (List.mem_of_getElem? (i := 2) rfl)
theorem m15_3 : Cond.methodLink RJ0 492 yJ0_isLatin1_aae02 ∈ wsL_law := wG15 _ (List.mem_of_getElem? (i := 3) rfl)
theorem m15_4 : Cond.instanceMethod yJ0_isLatin1_aae02 ∈ wsL_law := wG15 _ (List.mem_of_getElem? (i := 4) rfl)
theorem m15_5 : Cond.selects RJ0 yJ0_isLatin1_aae02 yJ0_isLatin1_aae02 ∈ wsL_law := wG15 _ (List.mem_of_getElem? (i := 5) rfl)
theorem m15_6 : Cond.code yJ0_isLatin1_aae02 cJ0_isLatin1_aae02 1 (some .boolean) ∈ wsL_law := wG15 _ (List.mem_of_getElem? (i := 6) rfl)
theorem m15_7 : Cond.methodLink RJ0 495 yJ1_charAt_3b067 ∈ wsL_law := wG15 _ (List.mem_of_getElem? (i := 7) rfl)
theorem m15_8 : Cond.static yJ1_charAt_3b067 ∈ wsL_law := wG15 _ (List.mem_of_getElem? (i := 8) rfl)
theorem m15_9 : Cond.initialized RJ1 ∈ wsL_law := wG15 _ (List.mem_of_getElem? (i := 9) rfl)
theorem m15_10 : Cond.code yJ1_charAt_3b067 cJ1_charAt_3b067 2 (some .char) ∈ wsL_law := wG15 _ (List.mem_of_getElem? (i := 10) rfl)
theorem m15_11 : Cond.methodLink RJ1 9 yJ0_checkIndex_df160 ∈ wsL_law := wG15 _ (List.mem_of_getElem? (i := 11) rfl)
theorem m15_12 : Cond.static yJ0_checkIndex_df160 ∈ wsL_law := wG15 _ (List.mem_of_getElem? (i := 12) rfl)
theorem m15_13 : Cond.code yJ0_checkIndex_df160 cJ0_checkIndex_df160 2 none ∈ wsL_law := wG15 _ (List.mem_of_getElem? (i := 13) rfl)
theorem m15_14 : Cond.fieldLink RJ0 1053 "jdk/internal/util/Preconditions" "SIOOBE_FORMATTER" "Ljava/util/function/BiFunction;" ∈ wsL_law := wG15 _ (List.mem_of_getElem? (i := 14) rfl)
theorem m15_15 : Cond.methodLink RJ0 1059 yJ3_checkIndex_8e157 ∈ wsL_law := wG15 _ (List.mem_of_getElem? (i := 15) rfl)
theorem m15_16 : Cond.static yJ3_checkIndex_8e157 ∈ wsL_law := wG15 _ (List.mem_of_getElem? (i := 16) rfl)
theorem m15_17 : Cond.initialized RJ3 ∈ wsL_law := wG15 _ (List.mem_of_getElem? (i := 17) rfl)
theorem m15_18 : Cond.code yJ3_checkIndex_8e157 cJ3_checkIndex_8e157 3 (some .int) ∈ wsL_law := wG15 _ (List.mem_of_getElem? (i := 18) rfl)
theorem m15_19 : Cond.methodLink RJ0 498 yJ2_charAt_3b067 ∈ wsL_law := wG15 _ (List.mem_of_getElem? (i := 19) rfl)
theorem m15_20 : Cond.static yJ2_charAt_3b067 ∈ wsL_law := wG15 _ (List.mem_of_getElem? (i := 20) rfl)
theorem m15_21 : Cond.initialized RJ2 ∈ wsL_law := wG15 _ (List.mem_of_getElem? (i := 21) rfl)
theorem m15_22 : Cond.code yJ2_charAt_3b067 cJ2_charAt_3b067 2 (some .char) ∈ wsL_law := wG15 _ (List.mem_of_getElem? (i := 22) rfl)
theorem m15_23 : Cond.methodLink RJ2 67 yJ2_checkIndex_2214a ∈ wsL_law := wG15 _ (List.mem_of_getElem? (i := 23) rfl)
theorem m16_0 : Cond.static yJ2_checkIndex_2214a ∈ wsL_law := wG16 _ (List.mem_of_getElem? (i := 0) rfl)
theorem m16_1 : Cond.code yJ2_checkIndex_2214a cJ2_checkIndex_2214a 2 none ∈ wsL_law := wG16 _ (List.mem_of_getElem? (i := 1) rfl)
theorem m16_2 : Cond.methodLink RJ2 48 yJ2_length_9d52b ∈ wsL_law := wG16 _ (List.mem_of_getElem? (i := 2) rfl)
theorem m16_3 : Cond.static yJ2_length_9d52b ∈ wsL_law := wG16 _ (List.mem_of_getElem? (i := 3) rfl)
theorem m16_4 : Cond.code yJ2_length_9d52b cJ2_length_9d52b 1 (some .int) ∈ wsL_law := wG16 _ (List.mem_of_getElem? (i := 4) rfl)
theorem m16_5 : Cond.methodLink RJ2 414 yJ0_checkIndex_df160 ∈ wsL_law := wG16 _ (List.mem_of_getElem? (i := 5) rfl)
theorem m16_6 : Cond.methodLink RJ2 71 yJ2_getChar_3b067 ∈ wsL_law := wG16 _ (List.mem_of_getElem? (i := 6) rfl)
theorem m16_7 : Cond.static yJ2_getChar_3b067 ∈ wsL_law := wG16 _ (List.mem_of_getElem? (i := 7) rfl)
theorem m16_8 : Cond.code yJ2_getChar_3b067 cJ2_getChar_3b067 2 (some .char) ∈ wsL_law := wG16 _ (List.mem_of_getElem? (i := 8) rfl)
theorem m16_9 : Cond.fieldLink RJ2 44 "java/lang/StringUTF16" "$assertionsDisabled" "Z" ∈ wsL_law := wG16 _ (List.mem_of_getElem? (i := 9) rfl)
theorem m16_10 : Cond.fieldLink RJ2 59 "java/lang/StringUTF16" "HI_BYTE_SHIFT" "I" ∈ wsL_law := wG16 _ (List.mem_of_getElem? (i := 10) rfl)
theorem m16_11 : Cond.fieldLink RJ2 63 "java/lang/StringUTF16" "LO_BYTE_SHIFT" "I" ∈ wsL_law := wG16 _ (List.mem_of_getElem? (i := 11) rfl)
theorem m16_12 : Cond.methodLink RX8 74 yX8_readMark ∈ wsL_law := wG16 _ (List.mem_of_getElem? (i := 12) rfl)
theorem m16_13 : Cond.instanceMethod yX8_readMark ∈ wsL_law := wG16 _ (List.mem_of_getElem? (i := 13) rfl)
theorem m16_14 : Cond.selects RX8 yX8_readMark yX8_readMark ∈ wsL_law := wG16 _ (List.mem_of_getElem? (i := 14) rfl)
theorem m16_15 : Cond.code yX8_readMark cX8_readMark 3 (some .boolean) ∈ wsL_law := wG16 _ (List.mem_of_getElem? (i := 15) rfl)
theorem m16_16 : Cond.methodLink RX8 86 yX5_isMark ∈ wsL_law := wG16 _ (List.mem_of_getElem? (i := 16) rfl)
theorem m16_17 : Cond.instanceMethod yX5_isMark ∈ wsL_law := wG16 _ (List.mem_of_getElem? (i := 17) rfl)
theorem m16_18 : Cond.selects RX5 yX5_isMark yX5_isMark ∈ wsL_law := wG16 _ (List.mem_of_getElem? (i := 18) rfl)
theorem m16_19 : Cond.code yX5_isMark cX5_isMark 2 (some .boolean) ∈ wsL_law := wG16 _ (List.mem_of_getElem? (i := 19) rfl)
theorem m16_20 : Cond.methodLink RX8 79 yX5_opens ∈ wsL_law := wG16 _ (List.mem_of_getElem? (i := 20) rfl)
theorem m16_21 : Cond.static yX5_opens ∈ wsL_law := wG16 _ (List.mem_of_getElem? (i := 21) rfl)
theorem m16_22 : Cond.code yX5_opens cX5_opens 1 (some .boolean) ∈ wsL_law := wG16 _ (List.mem_of_getElem? (i := 22) rfl)
theorem m16_23 : Cond.methodLink RX8 44 yX5_add ∈ wsL_law := wG16 _ (List.mem_of_getElem? (i := 23) rfl)
theorem m17_0 : Cond.instanceMethod yX5_add ∈ wsL_law := wG17 _ (List.mem_of_getElem? (i := 0) rfl)
theorem m17_1 : Cond.selects RX5 yX5_add yX5_add ∈ wsL_law := wG17 _ (List.mem_of_getElem? (i := 1) rfl)
theorem m17_2 : Cond.code yX5_add cX5_add 5 none ∈ wsL_law := wG17 _ (List.mem_of_getElem? (i := 2) rfl)
theorem m17_3 : Cond.methodLink RX5 48 yX5_knows ∈ wsL_law := wG17 _ (List.mem_of_getElem? (i := 3) rfl)
theorem m17_4 : Cond.instanceMethod yX5_knows ∈ wsL_law := wG17 _ (List.mem_of_getElem? (i := 4) rfl)
theorem m17_5 : Cond.selects RX5 yX5_knows yX5_knows ∈ wsL_law := wG17 _ (List.mem_of_getElem? (i := 5) rfl)
theorem m17_6 : Cond.code yX5_knows cX5_knows 5 (some .boolean) ∈ wsL_law := wG17 _ (List.mem_of_getElem? (i := 6) rfl)
theorem m17_7 : Cond.methodLink RX5 28 yX5_isState ∈ wsL_law := wG17 _ (List.mem_of_getElem? (i := 7) rfl)
theorem m17_8 : Cond.methodLink RX5 32 yX5_isPlain ∈ wsL_law := wG17 _ (List.mem_of_getElem? (i := 8) rfl)
theorem m17_9 : Cond.static yX5_isPlain ∈ wsL_law := wG17 _ (List.mem_of_getElem? (i := 9) rfl)
theorem m17_10 : Cond.code yX5_isPlain cX5_isPlain 1 (some .boolean) ∈ wsL_law := wG17 _ (List.mem_of_getElem? (i := 10) rfl)
theorem m17_11 : Cond.methodLink RX5 35 yX5_isMark ∈ wsL_law := wG17 _ (List.mem_of_getElem? (i := 11) rfl)
theorem m17_12 : Cond.methodLink RX5 38 yX5_closes ∈ wsL_law := wG17 _ (List.mem_of_getElem? (i := 12) rfl)
theorem m17_13 : Cond.methodLink RX5 52 yX5_slot ∈ wsL_law := wG17 _ (List.mem_of_getElem? (i := 13) rfl)
theorem m17_14 : Cond.static yX5_slot ∈ wsL_law := wG17 _ (List.mem_of_getElem? (i := 14) rfl)
theorem m17_15 : Cond.code yX5_slot cX5_slot 2 (some .int) ∈ wsL_law := wG17 _ (List.mem_of_getElem? (i := 15) rfl)
theorem m17_16 : Cond.methodLink RX5 45 yX5_pair ∈ wsL_law := wG17 _ (List.mem_of_getElem? (i := 16) rfl)
theorem m17_17 : Cond.static yX5_pair ∈ wsL_law := wG17 _ (List.mem_of_getElem? (i := 17) rfl)
theorem m17_18 : Cond.code yX5_pair cX5_pair 2 (some .int) ∈ wsL_law := wG17 _ (List.mem_of_getElem? (i := 18) rfl)
theorem m17_19 : Cond.methodLink RL 34 yX12_fault ∈ wsL_law := wG17 _ (List.mem_of_getElem? (i := 19) rfl)
theorem m17_20 : Cond.instanceMethod yX12_fault ∈ wsL_law := wG17 _ (List.mem_of_getElem? (i := 20) rfl)
theorem m17_21 : Cond.selects RX12 yX12_fault yX12_fault ∈ wsL_law := wG17 _ (List.mem_of_getElem? (i := 21) rfl)
theorem m17_22 : Cond.code yX12_fault cX12_fault 2 (some .int) ∈ wsL_law := wG17 _ (List.mem_of_getElem? (i := 22) rfl)
theorem m17_23 : Cond.fieldLink RX12 153 "NestReadersModel" "faultAt" "I" ∈ wsL_law := wG17 _ (List.mem_of_getElem? (i := 23) rfl)
theorem m18_0 : Cond.methodLink RX12 187 yX12_isRead ∈ wsL_law := wG18 _ (List.mem_of_getElem? (i := 0) rfl)
theorem m18_1 : Cond.instanceMethod yX12_isRead ∈ wsL_law := wG18 _ (List.mem_of_getElem? (i := 1) rfl)
theorem m18_2 : Cond.selects RX12 yX12_isRead yX12_isRead ∈ wsL_law := wG18 _ (List.mem_of_getElem? (i := 2) rfl)
theorem m18_3 : Cond.code yX12_isRead cX12_isRead 3 (some .boolean) ∈ wsL_law := wG18 _ (List.mem_of_getElem? (i := 3) rfl)
theorem m18_4 : Cond.fieldLink RX12 125 "NestReadersModel" "position" "I" ∈ wsL_law := wG18 _ (List.mem_of_getElem? (i := 4) rfl)
theorem m18_5 : Cond.fieldLink RX12 181 "NestReadersModel" "readMany" "I" ∈ wsL_law := wG18 _ (List.mem_of_getElem? (i := 5) rfl)
theorem m18_6 : Cond.fieldLink RX12 139 "NestReadersModel" "token" "J" ∈ wsL_law := wG18 _ (List.mem_of_getElem? (i := 6) rfl)
theorem m18_7 : Cond.constantLong RX12 151 (-3) ∈ wsL_law := wG18 _ (List.mem_of_getElem? (i := 7) rfl)
theorem m18_8 : Cond.constantLong RX12 137 (-2) ∈ wsL_law := wG18 _ (List.mem_of_getElem? (i := 8) rfl)
theorem m18_9 : Cond.methodLink RX12 184 yX12_isMove ∈ wsL_law := wG18 _ (List.mem_of_getElem? (i := 9) rfl)
theorem m18_10 : Cond.instanceMethod yX12_isMove ∈ wsL_law := wG18 _ (List.mem_of_getElem? (i := 10) rfl)
theorem m18_11 : Cond.selects RX12 yX12_isMove yX12_isMove ∈ wsL_law := wG18 _ (List.mem_of_getElem? (i := 11) rfl)
theorem m18_12 : Cond.code yX12_isMove cX12_isMove 4 (some .boolean) ∈ wsL_law := wG18 _ (List.mem_of_getElem? (i := 12) rfl)
theorem m18_13 : Cond.constantLong RX12 167 (6) ∈ wsL_law := wG18 _ (List.mem_of_getElem? (i := 13) rfl)
theorem m18_14 : Cond.constantLong RX12 169 (555) ∈ wsL_law := wG18 _ (List.mem_of_getElem? (i := 14) rfl)
theorem m18_15 : Cond.constantLong RX12 175 (12251) ∈ wsL_law := wG18 _ (List.mem_of_getElem? (i := 15) rfl)
theorem m18_16 : Cond.constantLong RX12 177 (394691) ∈ wsL_law := wG18 _ (List.mem_of_getElem? (i := 16) rfl)
theorem m18_17 : Cond.constantLong RX12 179 (286880) ∈ wsL_law := wG18 _ (List.mem_of_getElem? (i := 17) rfl)
theorem m18_18 : Cond.constantLong RX12 149 (-1) ∈ wsL_law := wG18 _ (List.mem_of_getElem? (i := 18) rfl)
theorem m18_19 : Cond.fieldLink RX12 134 "NestReadersModel" "number" "I" ∈ wsL_law := wG18 _ (List.mem_of_getElem? (i := 19) rfl)
theorem m18_20 : Cond.methodLink RX12 163 yX12_isNumber ∈ wsL_law := wG18 _ (List.mem_of_getElem? (i := 20) rfl)
theorem m18_21 : Cond.instanceMethod yX12_isNumber ∈ wsL_law := wG18 _ (List.mem_of_getElem? (i := 21) rfl)
theorem m18_22 : Cond.selects RX12 yX12_isNumber yX12_isNumber ∈ wsL_law := wG18 _ (List.mem_of_getElem? (i := 22) rfl)
theorem m18_23 : Cond.code yX12_isNumber cX12_isNumber 3 (some .boolean) ∈ wsL_law := wG18 _ (List.mem_of_getElem? (i := 23) rfl)
theorem m19_0 : Cond.methodLink RX12 156 yX12_nextToken ∈ wsL_law := wG19 _ (List.mem_of_getElem? (i := 0) rfl)
theorem m19_1 : Cond.instanceMethod yX12_nextToken ∈ wsL_law := wG19 _ (List.mem_of_getElem? (i := 1) rfl)
theorem m19_2 : Cond.selects RX12 yX12_nextToken yX12_nextToken ∈ wsL_law := wG19 _ (List.mem_of_getElem? (i := 2) rfl)
theorem m19_3 : Cond.code yX12_nextToken cX12_nextToken 1 none ∈ wsL_law := wG19 _ (List.mem_of_getElem? (i := 3) rfl)
theorem m19_4 : Cond.fieldLink RX12 128 "NestReadersModel" "tokenAt" "I" ∈ wsL_law := wG19 _ (List.mem_of_getElem? (i := 4) rfl)
theorem m19_5 : Cond.fieldLink RX12 131 "NestReadersModel" "digits" "I" ∈ wsL_law := wG19 _ (List.mem_of_getElem? (i := 5) rfl)
theorem m19_6 : Cond.constantLong RX12 143 (27) ∈ wsL_law := wG19 _ (List.mem_of_getElem? (i := 6) rfl)
theorem m19_7 : Cond.constantLong RX12 145 (96) ∈ wsL_law := wG19 _ (List.mem_of_getElem? (i := 7) rfl)
theorem m19_8 : Cond.constantLong RX12 147 (-4) ∈ wsL_law := wG19 _ (List.mem_of_getElem? (i := 8) rfl)
theorem m19_9 : Cond.methodLink RX12 159 yX12_fails ∈ wsL_law := wG19 _ (List.mem_of_getElem? (i := 9) rfl)
theorem m19_10 : Cond.instanceMethod yX12_fails ∈ wsL_law := wG19 _ (List.mem_of_getElem? (i := 10) rfl)
theorem m19_11 : Cond.selects RX12 yX12_fails yX12_fails ∈ wsL_law := wG19 _ (List.mem_of_getElem? (i := 11) rfl)
theorem m19_12 : Cond.code yX12_fails cX12_fails 1 (some .boolean) ∈ wsL_law := wG19 _ (List.mem_of_getElem? (i := 12) rfl)
theorem m19_13 : Cond.methodLink RX12 171 yX12_isWord ∈ wsL_law := wG19 _ (List.mem_of_getElem? (i := 13) rfl)
theorem m19_14 : Cond.instanceMethod yX12_isWord ∈ wsL_law := wG19 _ (List.mem_of_getElem? (i := 14) rfl)
theorem m19_15 : Cond.selects RX12 yX12_isWord yX12_isWord ∈ wsL_law := wG19 _ (List.mem_of_getElem? (i := 15) rfl)
theorem m19_16 : Cond.code yX12_isWord cX12_isWord 3 (some .boolean) ∈ wsL_law := wG19 _ (List.mem_of_getElem? (i := 16) rfl)
theorem m19_17 : Cond.methodLink RL 35 yX11_moves ∈ wsL_law := wG19 _ (List.mem_of_getElem? (i := 17) rfl)
theorem m19_18 : Cond.instanceMethod yX11_moves ∈ wsL_law := wG19 _ (List.mem_of_getElem? (i := 18) rfl)
theorem m19_19 : Cond.selects RX11 yX11_moves yX11_moves ∈ wsL_law := wG19 _ (List.mem_of_getElem? (i := 19) rfl)
theorem m19_20 : Cond.code yX11_moves cX11_moves 3 (some .int) ∈ wsL_law := wG19 _ (List.mem_of_getElem? (i := 20) rfl)
theorem m19_21 : Cond.methodLink RX11 133 yX5_moveCount ∈ wsL_law := wG19 _ (List.mem_of_getElem? (i := 21) rfl)
theorem m19_22 : Cond.instanceMethod yX5_moveCount ∈ wsL_law := wG19 _ (List.mem_of_getElem? (i := 22) rfl)
theorem m19_23 : Cond.selects RX5 yX5_moveCount yX5_moveCount ∈ wsL_law := wG19 _ (List.mem_of_getElem? (i := 23) rfl)
theorem m20_0 : Cond.code yX5_moveCount cX5_moveCount 3 (some .int) ∈ wsL_law := wG20 _ (List.mem_of_getElem? (i := 0) rfl)
theorem m20_1 : Cond.methodLink RX5 55 yJ6_bitCount_0f7a4 ∈ wsL_law := wG20 _ (List.mem_of_getElem? (i := 1) rfl)
theorem m20_2 : Cond.static yJ6_bitCount_0f7a4 ∈ wsL_law := wG20 _ (List.mem_of_getElem? (i := 2) rfl)
theorem m20_3 : Cond.initialized RJ6 ∈ wsL_law := wG20 _ (List.mem_of_getElem? (i := 3) rfl)
theorem m20_4 : Cond.code yJ6_bitCount_0f7a4 cJ6_bitCount_0f7a4 1 (some .int) ∈ wsL_law := wG20 _ (List.mem_of_getElem? (i := 4) rfl)
theorem m20_5 : Cond.constant RJ6 265 (1431655765) ∈ wsL_law := wG20 _ (List.mem_of_getElem? (i := 5) rfl)
theorem m20_6 : Cond.constant RJ6 266 (858993459) ∈ wsL_law := wG20 _ (List.mem_of_getElem? (i := 6) rfl)
theorem m20_7 : Cond.constant RJ6 267 (252645135) ∈ wsL_law := wG20 _ (List.mem_of_getElem? (i := 7) rfl)
theorem m20_8 : Cond.methodLink RL 38 yX12_moves ∈ wsL_law := wG20 _ (List.mem_of_getElem? (i := 8) rfl)
theorem m20_9 : Cond.instanceMethod yX12_moves ∈ wsL_law := wG20 _ (List.mem_of_getElem? (i := 9) rfl)
theorem m20_10 : Cond.selects RX12 yX12_moves yX12_moves ∈ wsL_law := wG20 _ (List.mem_of_getElem? (i := 10) rfl)
theorem m20_11 : Cond.code yX12_moves cX12_moves 6 (some .int) ∈ wsL_law := wG20 _ (List.mem_of_getElem? (i := 11) rfl)
theorem m20_12 : Cond.methodLink RX12 205 yX12_tos ∈ wsL_law := wG20 _ (List.mem_of_getElem? (i := 12) rfl)
theorem m20_13 : Cond.instanceMethod yX12_tos ∈ wsL_law := wG20 _ (List.mem_of_getElem? (i := 13) rfl)
theorem m20_14 : Cond.selects RX12 yX12_tos yX12_tos ∈ wsL_law := wG20 _ (List.mem_of_getElem? (i := 14) rfl)
theorem m20_15 : Cond.code yX12_tos cX12_tos 5 (some .int) ∈ wsL_law := wG20 _ (List.mem_of_getElem? (i := 15) rfl)
theorem m20_16 : Cond.methodLink RX12 194 yX12_putAt ∈ wsL_law := wG20 _ (List.mem_of_getElem? (i := 16) rfl)
theorem m20_17 : Cond.static yX12_putAt ∈ wsL_law := wG20 _ (List.mem_of_getElem? (i := 17) rfl)
theorem m20_18 : Cond.code yX12_putAt cX12_putAt 4 (some .int) ∈ wsL_law := wG20 _ (List.mem_of_getElem? (i := 18) rfl)
theorem m20_19 : Cond.methodLink RX12 198 yX12_goAt ∈ wsL_law := wG20 _ (List.mem_of_getElem? (i := 19) rfl)
theorem m20_20 : Cond.static yX12_goAt ∈ wsL_law := wG20 _ (List.mem_of_getElem? (i := 20) rfl)
theorem m20_21 : Cond.code yX12_goAt cX12_goAt 3 (some .int) ∈ wsL_law := wG20 _ (List.mem_of_getElem? (i := 21) rfl)
theorem m20_22 : Cond.methodLink RX12 202 yX12_closeAt ∈ wsL_law := wG20 _ (List.mem_of_getElem? (i := 22) rfl)
theorem m20_23 : Cond.static yX12_closeAt ∈ wsL_law := wG20 _ (List.mem_of_getElem? (i := 23) rfl)
theorem m21_0 : Cond.code yX12_closeAt cX12_closeAt 4 (some .int) ∈ wsL_law := wG21 _ (List.mem_of_getElem? (i := 0) rfl)
theorem m21_1 : Cond.methodLink RX12 208 yX12_tell ∈ wsL_law := wG21 _ (List.mem_of_getElem? (i := 1) rfl)
theorem m21_2 : Cond.instanceMethod yX12_tell ∈ wsL_law := wG21 _ (List.mem_of_getElem? (i := 2) rfl)
theorem m21_3 : Cond.selects RX12 yX12_tell yX12_tell ∈ wsL_law := wG21 _ (List.mem_of_getElem? (i := 3) rfl)
theorem m21_4 : Cond.code yX12_tell cX12_tell 6 none ∈ wsL_law := wG21 _ (List.mem_of_getElem? (i := 4) rfl)
theorem m21_5 : Cond.methodLink RX12 212 yX12_movesOf ∈ wsL_law := wG21 _ (List.mem_of_getElem? (i := 5) rfl)
theorem m21_6 : Cond.instanceMethod yX12_movesOf ∈ wsL_law := wG21 _ (List.mem_of_getElem? (i := 6) rfl)
theorem m21_7 : Cond.selects RX12 yX12_movesOf yX12_movesOf ∈ wsL_law := wG21 _ (List.mem_of_getElem? (i := 7) rfl)
theorem m21_8 : Cond.code yX12_movesOf cX12_movesOf 4 (some .int) ∈ wsL_law := wG21 _ (List.mem_of_getElem? (i := 8) rfl)
theorem m21_9 : Cond.methodLink RX12 190 yX12_bits ∈ wsL_law := wG21 _ (List.mem_of_getElem? (i := 9) rfl)
theorem m21_10 : Cond.static yX12_bits ∈ wsL_law := wG21 _ (List.mem_of_getElem? (i := 10) rfl)
theorem m21_11 : Cond.code yX12_bits cX12_bits 3 (some .int) ∈ wsL_law := wG21 _ (List.mem_of_getElem? (i := 11) rfl)
theorem m21_12 : Cond.methodLink RL 39 yX11_has ∈ wsL_law := wG21 _ (List.mem_of_getElem? (i := 12) rfl)
theorem m21_13 : Cond.instanceMethod yX11_has ∈ wsL_law := wG21 _ (List.mem_of_getElem? (i := 13) rfl)
theorem m21_14 : Cond.selects RX11 yX11_has yX11_has ∈ wsL_law := wG21 _ (List.mem_of_getElem? (i := 14) rfl)
theorem m21_15 : Cond.code yX11_has cX11_has 6 (some .int) ∈ wsL_law := wG21 _ (List.mem_of_getElem? (i := 15) rfl)
theorem m21_16 : Cond.methodLink RX11 136 yX5_knows ∈ wsL_law := wG21 _ (List.mem_of_getElem? (i := 16) rfl)
theorem m21_17 : Cond.methodLink RX11 140 yX5_holds ∈ wsL_law := wG21 _ (List.mem_of_getElem? (i := 17) rfl)
theorem m21_18 : Cond.instanceMethod yX5_holds ∈ wsL_law := wG21 _ (List.mem_of_getElem? (i := 18) rfl)
theorem m21_19 : Cond.selects RX5 yX5_holds yX5_holds ∈ wsL_law := wG21 _ (List.mem_of_getElem? (i := 19) rfl)
theorem m21_20 : Cond.code yX5_holds cX5_holds 5 (some .boolean) ∈ wsL_law := wG21 _ (List.mem_of_getElem? (i := 20) rfl)
theorem m21_21 : Cond.methodLink RX5 41 yX5_way ∈ wsL_law := wG21 _ (List.mem_of_getElem? (i := 21) rfl)
theorem m21_22 : Cond.instanceMethod yX5_way ∈ wsL_law := wG21 _ (List.mem_of_getElem? (i := 22) rfl)
theorem m21_23 : Cond.selects RX5 yX5_way yX5_way ∈ wsL_law := wG21 _ (List.mem_of_getElem? (i := 23) rfl)
theorem m22_0 : Cond.code yX5_way cX5_way 4 (some .int) ∈ wsL_law := wG22 _ (List.mem_of_getElem? (i := 0) rfl)
theorem m22_1 : Cond.methodLink RL 43 yX12_has ∈ wsL_law := wG22 _ (List.mem_of_getElem? (i := 1) rfl)
theorem m22_2 : Cond.instanceMethod yX12_has ∈ wsL_law := wG22 _ (List.mem_of_getElem? (i := 2) rfl)
theorem m22_3 : Cond.selects RX12 yX12_has yX12_has ∈ wsL_law := wG22 _ (List.mem_of_getElem? (i := 3) rfl)
theorem m22_4 : Cond.code yX12_has cX12_has 6 (some .int) ∈ wsL_law := wG22 _ (List.mem_of_getElem? (i := 4) rfl)
theorem m22_5 : Cond.methodLink RX12 215 yX12_isTold ∈ wsL_law := wG22 _ (List.mem_of_getElem? (i := 5) rfl)
theorem m22_6 : Cond.instanceMethod yX12_isTold ∈ wsL_law := wG22 _ (List.mem_of_getElem? (i := 6) rfl)
theorem m22_7 : Cond.selects RX12 yX12_isTold yX12_isTold ∈ wsL_law := wG22 _ (List.mem_of_getElem? (i := 7) rfl)
theorem m22_8 : Cond.code yX12_isTold cX12_isTold 6 (some .boolean) ∈ wsL_law := wG22 _ (List.mem_of_getElem? (i := 8) rfl)
theorem m22_9 : Cond.methodLink RL 44 yX11_drop ∈ wsL_law := wG22 _ (List.mem_of_getElem? (i := 9) rfl)
theorem m22_10 : Cond.instanceMethod yX11_drop ∈ wsL_law := wG22 _ (List.mem_of_getElem? (i := 10) rfl)
theorem m22_11 : Cond.selects RX11 yX11_drop yX11_drop ∈ wsL_law := wG22 _ (List.mem_of_getElem? (i := 11) rfl)
theorem m22_12 : Cond.code yX11_drop cX11_drop 6 (some .int) ∈ wsL_law := wG22 _ (List.mem_of_getElem? (i := 12) rfl)
theorem m22_13 : Cond.methodLink RX11 143 yX11_has ∈ wsL_law := wG22 _ (List.mem_of_getElem? (i := 13) rfl)
theorem m22_14 : Cond.methodLink RX11 147 yX5_remove ∈ wsL_law := wG22 _ (List.mem_of_getElem? (i := 14) rfl)
theorem m22_15 : Cond.instanceMethod yX5_remove ∈ wsL_law := wG22 _ (List.mem_of_getElem? (i := 15) rfl)
theorem m22_16 : Cond.selects RX5 yX5_remove yX5_remove ∈ wsL_law := wG22 _ (List.mem_of_getElem? (i := 16) rfl)
theorem m22_17 : Cond.code yX5_remove cX5_remove 5 none ∈ wsL_law := wG22 _ (List.mem_of_getElem? (i := 17) rfl)
theorem m22_18 : Cond.methodLink RL 47 yX12_drop ∈ wsL_law := wG22 _ (List.mem_of_getElem? (i := 18) rfl)
theorem m22_19 : Cond.instanceMethod yX12_drop ∈ wsL_law := wG22 _ (List.mem_of_getElem? (i := 19) rfl)
theorem m22_20 : Cond.selects RX12 yX12_drop yX12_drop ∈ wsL_law := wG22 _ (List.mem_of_getElem? (i := 20) rfl)
theorem m22_21 : Cond.code yX12_drop cX12_drop 6 (some .int) ∈ wsL_law := wG22 _ (List.mem_of_getElem? (i := 21) rfl)
theorem m22_22 : Cond.methodLink RL 48 yX11_letter ∈ wsL_law := wG22 _ (List.mem_of_getElem? (i := 22) rfl)
theorem m22_23 : Cond.instanceMethod yX11_letter ∈ wsL_law := wG22 _ (List.mem_of_getElem? (i := 23) rfl)
theorem m23_0 : Cond.selects RX11 yX11_letter yX11_letter ∈ wsL_law := wG23 _ (List.mem_of_getElem? (i := 0) rfl)
theorem m23_1 : Cond.code yX11_letter cX11_letter 2 (some .int) ∈ wsL_law := wG23 _ (List.mem_of_getElem? (i := 1) rfl)
theorem m23_2 : Cond.methodLink RX11 151 yX6_size ∈ wsL_law := wG23 _ (List.mem_of_getElem? (i := 2) rfl)
theorem m23_3 : Cond.instanceMethod yX6_size ∈ wsL_law := wG23 _ (List.mem_of_getElem? (i := 3) rfl)
theorem m23_4 : Cond.selects RX6 yX6_size yX6_size ∈ wsL_law := wG23 _ (List.mem_of_getElem? (i := 4) rfl)
theorem m23_5 : Cond.code yX6_size cX6_size 1 (some .int) ∈ wsL_law := wG23 _ (List.mem_of_getElem? (i := 5) rfl)
theorem m23_6 : Cond.methodLink RX11 152 yX6_append ∈ wsL_law := wG23 _ (List.mem_of_getElem? (i := 6) rfl)
theorem m23_7 : Cond.instanceMethod yX6_append ∈ wsL_law := wG23 _ (List.mem_of_getElem? (i := 7) rfl)
theorem m23_8 : Cond.selects RX6 yX6_append yX6_append ∈ wsL_law := wG23 _ (List.mem_of_getElem? (i := 8) rfl)
theorem m23_9 : Cond.code yX6_append cX6_append 3 none ∈ wsL_law := wG23 _ (List.mem_of_getElem? (i := 9) rfl)
theorem m23_10 : Cond.methodLink RX6 22 yX6_openAt ∈ wsL_law := wG23 _ (List.mem_of_getElem? (i := 10) rfl)
theorem m23_11 : Cond.instanceMethod yX6_openAt ∈ wsL_law := wG23 _ (List.mem_of_getElem? (i := 11) rfl)
theorem m23_12 : Cond.selects RX6 yX6_openAt yX6_openAt ∈ wsL_law := wG23 _ (List.mem_of_getElem? (i := 12) rfl)
theorem m23_13 : Cond.code yX6_openAt cX6_openAt 3 (some .int) ∈ wsL_law := wG23 _ (List.mem_of_getElem? (i := 13) rfl)
theorem m23_14 : Cond.methodLink RX6 35 yX6_baseAt ∈ wsL_law := wG23 _ (List.mem_of_getElem? (i := 14) rfl)
theorem m23_15 : Cond.instanceMethod yX6_baseAt ∈ wsL_law := wG23 _ (List.mem_of_getElem? (i := 15) rfl)
theorem m23_16 : Cond.selects RX6 yX6_baseAt yX6_baseAt ∈ wsL_law := wG23 _ (List.mem_of_getElem? (i := 16) rfl)
theorem m23_17 : Cond.code yX6_baseAt cX6_baseAt 2 (some .int) ∈ wsL_law := wG23 _ (List.mem_of_getElem? (i := 17) rfl)
theorem m23_18 : Cond.methodLink RX6 38 yX6_letterAt ∈ wsL_law := wG23 _ (List.mem_of_getElem? (i := 18) rfl)
theorem m23_19 : Cond.instanceMethod yX6_letterAt ∈ wsL_law := wG23 _ (List.mem_of_getElem? (i := 19) rfl)
theorem m23_20 : Cond.selects RX6 yX6_letterAt yX6_letterAt ∈ wsL_law := wG23 _ (List.mem_of_getElem? (i := 20) rfl)
theorem m23_21 : Cond.code yX6_letterAt cX6_letterAt 2 (some .int) ∈ wsL_law := wG23 _ (List.mem_of_getElem? (i := 21) rfl)
theorem m23_22 : Cond.methodLink RX6 41 yX5_opens ∈ wsL_law := wG23 _ (List.mem_of_getElem? (i := 22) rfl)
theorem m23_23 : Cond.methodLink RX6 26 yX5_isPlain ∈ wsL_law := wG23 _ (List.mem_of_getElem? (i := 23) rfl)
theorem m24_0 : Cond.methodLink RX6 32 yX5_closes ∈ wsL_law := wG24 _ (List.mem_of_getElem? (i := 0) rfl)
theorem m24_1 : Cond.methodLink RL 51 yX12_letter ∈ wsL_law := wG24 _ (List.mem_of_getElem? (i := 1) rfl)
theorem m24_2 : Cond.instanceMethod yX12_letter ∈ wsL_law := wG24 _ (List.mem_of_getElem? (i := 2) rfl)
theorem m24_3 : Cond.selects RX12 yX12_letter yX12_letter ∈ wsL_law := wG24 _ (List.mem_of_getElem? (i := 3) rfl)
theorem m24_4 : Cond.code yX12_letter cX12_letter 2 (some .int) ∈ wsL_law := wG24 _ (List.mem_of_getElem? (i := 4) rfl)
theorem m24_5 : Cond.fieldLink RX12 219 "NestReadersModel" "size" "I" ∈ wsL_law := wG24 _ (List.mem_of_getElem? (i := 5) rfl)
theorem m24_6 : Cond.methodLink RL 52 yX11_row ∈ wsL_law := wG24 _ (List.mem_of_getElem? (i := 6) rfl)
theorem m24_7 : Cond.instanceMethod yX11_row ∈ wsL_law := wG24 _ (List.mem_of_getElem? (i := 7) rfl)
theorem m24_8 : Cond.selects RX11 yX11_row yX11_row ∈ wsL_law := wG24 _ (List.mem_of_getElem? (i := 8) rfl)
theorem m24_9 : Cond.code yX11_row cX11_row 5 (some .int) ∈ wsL_law := wG24 _ (List.mem_of_getElem? (i := 9) rfl)
theorem m24_10 : Cond.methodLink RX11 153 yX11_letterOf ∈ wsL_law := wG24 _ (List.mem_of_getElem? (i := 10) rfl)
theorem m24_11 : Cond.static yX11_letterOf ∈ wsL_law := wG24 _ (List.mem_of_getElem? (i := 11) rfl)
theorem m24_12 : Cond.code yX11_letterOf cX11_letterOf 3 (some .int) ∈ wsL_law := wG24 _ (List.mem_of_getElem? (i := 12) rfl)
theorem m24_13 : Cond.constantLong RX11 246 (7) ∈ wsL_law := wG24 _ (List.mem_of_getElem? (i := 13) rfl)
theorem m24_14 : Cond.methodLink RX11 157 yX6_cut ∈ wsL_law := wG24 _ (List.mem_of_getElem? (i := 14) rfl)
theorem m24_15 : Cond.instanceMethod yX6_cut ∈ wsL_law := wG24 _ (List.mem_of_getElem? (i := 15) rfl)
theorem m24_16 : Cond.selects RX6 yX6_cut yX6_cut ∈ wsL_law := wG24 _ (List.mem_of_getElem? (i := 16) rfl)
theorem m24_17 : Cond.code yX6_cut cX6_cut 2 none ∈ wsL_law := wG24 _ (List.mem_of_getElem? (i := 17) rfl)
theorem m24_18 : Cond.methodLink RL 55 yX12_row ∈ wsL_law := wG24 _ (List.mem_of_getElem? (i := 18) rfl)
theorem m24_19 : Cond.instanceMethod yX12_row ∈ wsL_law := wG24 _ (List.mem_of_getElem? (i := 19) rfl)
theorem m24_20 : Cond.selects RX12 yX12_row yX12_row ∈ wsL_law := wG24 _ (List.mem_of_getElem? (i := 20) rfl)
theorem m24_21 : Cond.code yX12_row cX12_row 5 (some .int) ∈ wsL_law := wG24 _ (List.mem_of_getElem? (i := 21) rfl)
theorem m24_22 : Cond.constantLong RX12 222 (7) ∈ wsL_law := wG24 _ (List.mem_of_getElem? (i := 22) rfl)
theorem m24_23 : Cond.constantLong RX12 224 (5) ∈ wsL_law := wG24 _ (List.mem_of_getElem? (i := 23) rfl)
theorem m25_0 : Cond.methodLink RL 56 yX11_partner ∈ wsL_law := wG25 _ (List.mem_of_getElem? (i := 0) rfl)
theorem m25_1 : Cond.instanceMethod yX11_partner ∈ wsL_law := wG25 _ (List.mem_of_getElem? (i := 1) rfl)
theorem m25_2 : Cond.selects RX11 yX11_partner yX11_partner ∈ wsL_law := wG25 _ (List.mem_of_getElem? (i := 2) rfl)
theorem m25_3 : Cond.code yX11_partner cX11_partner 2 (some .int) ∈ wsL_law := wG25 _ (List.mem_of_getElem? (i := 3) rfl)
theorem m25_4 : Cond.methodLink RX11 160 yX6_partnerOf ∈ wsL_law := wG25 _ (List.mem_of_getElem? (i := 4) rfl)
theorem m25_5 : Cond.instanceMethod yX6_partnerOf ∈ wsL_law := wG25 _ (List.mem_of_getElem? (i := 5) rfl)
theorem m25_6 : Cond.selects RX6 yX6_partnerOf yX6_partnerOf ∈ wsL_law := wG25 _ (List.mem_of_getElem? (i := 6) rfl)
theorem m25_7 : Cond.code yX6_partnerOf cX6_partnerOf 4 (some .int) ∈ wsL_law := wG25 _ (List.mem_of_getElem? (i := 7) rfl)
theorem m25_8 : Cond.methodLink RL 59 yX12_partner ∈ wsL_law := wG25 _ (List.mem_of_getElem? (i := 8) rfl)
theorem m25_9 : Cond.instanceMethod yX12_partner ∈ wsL_law := wG25 _ (List.mem_of_getElem? (i := 9) rfl)
theorem m25_10 : Cond.selects RX12 yX12_partner yX12_partner ∈ wsL_law := wG25 _ (List.mem_of_getElem? (i := 10) rfl)
theorem m25_11 : Cond.code yX12_partner cX12_partner 2 (some .int) ∈ wsL_law := wG25 _ (List.mem_of_getElem? (i := 11) rfl)
theorem m25_12 : Cond.methodLink RX12 226 yX12_findPartners ∈ wsL_law := wG25 _ (List.mem_of_getElem? (i := 12) rfl)
theorem m25_13 : Cond.instanceMethod yX12_findPartners ∈ wsL_law := wG25 _ (List.mem_of_getElem? (i := 13) rfl)
theorem m25_14 : Cond.selects RX12 yX12_findPartners yX12_findPartners ∈ wsL_law := wG25 _ (List.mem_of_getElem? (i := 14) rfl)
theorem m25_15 : Cond.code yX12_findPartners cX12_findPartners 4 (some .int) ∈ wsL_law := wG25 _ (List.mem_of_getElem? (i := 15) rfl)
theorem m25_16 : Cond.methodLink RL 60 yX11_depth ∈ wsL_law := wG25 _ (List.mem_of_getElem? (i := 16) rfl)
theorem m25_17 : Cond.instanceMethod yX11_depth ∈ wsL_law := wG25 _ (List.mem_of_getElem? (i := 17) rfl)
theorem m25_18 : Cond.selects RX11 yX11_depth yX11_depth ∈ wsL_law := wG25 _ (List.mem_of_getElem? (i := 18) rfl)
theorem m25_19 : Cond.code yX11_depth cX11_depth 2 (some .int) ∈ wsL_law := wG25 _ (List.mem_of_getElem? (i := 19) rfl)
theorem m25_20 : Cond.methodLink RX11 164 yX11_isBehind ∈ wsL_law := wG25 _ (List.mem_of_getElem? (i := 20) rfl)
theorem m25_21 : Cond.instanceMethod yX11_isBehind ∈ wsL_law := wG25 _ (List.mem_of_getElem? (i := 21) rfl)
theorem m25_22 : Cond.selects RX11 yX11_isBehind yX11_isBehind ∈ wsL_law := wG25 _ (List.mem_of_getElem? (i := 22) rfl)
theorem m25_23 : Cond.code yX11_isBehind cX11_isBehind 2 (some .boolean) ∈ wsL_law := wG25 _ (List.mem_of_getElem? (i := 23) rfl)
theorem m26_0 : Cond.methodLink RX11 167 yX6_depthBehind ∈ wsL_law := wG26 _ (List.mem_of_getElem? (i := 0) rfl)
theorem m26_1 : Cond.instanceMethod yX6_depthBehind ∈ wsL_law := wG26 _ (List.mem_of_getElem? (i := 1) rfl)
theorem m26_2 : Cond.selects RX6 yX6_depthBehind yX6_depthBehind ∈ wsL_law := wG26 _ (List.mem_of_getElem? (i := 2) rfl)
theorem m26_3 : Cond.code yX6_depthBehind cX6_depthBehind 4 (some .int) ∈ wsL_law := wG26 _ (List.mem_of_getElem? (i := 3) rfl)
theorem m26_4 : Cond.methodLink RL 63 yX12_depth ∈ wsL_law := wG26 _ (List.mem_of_getElem? (i := 4) rfl)
theorem m26_5 : Cond.instanceMethod yX12_depth ∈ wsL_law := wG26 _ (List.mem_of_getElem? (i := 5) rfl)
theorem m26_6 : Cond.selects RX12 yX12_depth yX12_depth ∈ wsL_law := wG26 _ (List.mem_of_getElem? (i := 6) rfl)
theorem m26_7 : Cond.code yX12_depth cX12_depth 2 (some .int) ∈ wsL_law := wG26 _ (List.mem_of_getElem? (i := 7) rfl)
theorem m26_8 : Cond.methodLink RL 64 yX11_run ∈ wsL_law := wG26 _ (List.mem_of_getElem? (i := 8) rfl)
theorem m26_9 : Cond.instanceMethod yX11_run ∈ wsL_law := wG26 _ (List.mem_of_getElem? (i := 9) rfl)
theorem m26_10 : Cond.selects RX11 yX11_run yX11_run ∈ wsL_law := wG26 _ (List.mem_of_getElem? (i := 10) rfl)
theorem m26_11 : Cond.code yX11_run cX11_run 5 (some .int) ∈ wsL_law := wG26 _ (List.mem_of_getElem? (i := 11) rfl)
theorem m26_12 : Cond.methodLink RX11 170 yX7_runs ∈ wsL_law := wG26 _ (List.mem_of_getElem? (i := 12) rfl)
theorem m26_13 : Cond.instanceMethod yX7_runs ∈ wsL_law := wG26 _ (List.mem_of_getElem? (i := 13) rfl)
theorem m26_14 : Cond.selects RX7 yX7_runs yX7_runs ∈ wsL_law := wG26 _ (List.mem_of_getElem? (i := 14) rfl)
theorem m26_15 : Cond.code yX7_runs cX7_runs 7 (some .int) ∈ wsL_law := wG26 _ (List.mem_of_getElem? (i := 15) rfl)
theorem m26_16 : Cond.constantLong RX7 32 (1000000007) ∈ wsL_law := wG26 _ (List.mem_of_getElem? (i := 16) rfl)
theorem m26_17 : Cond.methodLink RX7 24 yX7_beginSince ∈ wsL_law := wG26 _ (List.mem_of_getElem? (i := 17) rfl)
theorem m26_18 : Cond.instanceMethod yX7_beginSince ∈ wsL_law := wG26 _ (List.mem_of_getElem? (i := 18) rfl)
theorem m26_19 : Cond.selects RX7 yX7_beginSince yX7_beginSince ∈ wsL_law := wG26 _ (List.mem_of_getElem? (i := 19) rfl)
theorem m26_20 : Cond.code yX7_beginSince cX7_beginSince 3 none ∈ wsL_law := wG26 _ (List.mem_of_getElem? (i := 20) rfl)
theorem m26_21 : Cond.methodLink RX7 28 yX7_step ∈ wsL_law := wG26 _ (List.mem_of_getElem? (i := 21) rfl)
theorem m26_22 : Cond.instanceMethod yX7_step ∈ wsL_law := wG26 _ (List.mem_of_getElem? (i := 22) rfl)
theorem m26_23 : Cond.selects RX7 yX7_step yX7_step ∈ wsL_law := wG26 _ (List.mem_of_getElem? (i := 23) rfl)
theorem m27_0 : Cond.code yX7_step cX7_step 7 none ∈ wsL_law := wG27 _ (List.mem_of_getElem? (i := 0) rfl)
theorem m27_1 : Cond.methodLink RX7 34 yX6_letterAt ∈ wsL_law := wG27 _ (List.mem_of_getElem? (i := 1) rfl)
theorem m27_2 : Cond.methodLink RX7 40 yX6_openAt ∈ wsL_law := wG27 _ (List.mem_of_getElem? (i := 2) rfl)
theorem m27_3 : Cond.methodLink RX7 43 yX7_clear ∈ wsL_law := wG27 _ (List.mem_of_getElem? (i := 3) rfl)
theorem m27_4 : Cond.static yX7_clear ∈ wsL_law := wG27 _ (List.mem_of_getElem? (i := 4) rfl)
theorem m27_5 : Cond.code yX7_clear cX7_clear 2 none ∈ wsL_law := wG27 _ (List.mem_of_getElem? (i := 5) rfl)
theorem m27_6 : Cond.methodLink RX7 47 yX5_opens ∈ wsL_law := wG27 _ (List.mem_of_getElem? (i := 6) rfl)
theorem m27_7 : Cond.methodLink RX7 53 yX5_way ∈ wsL_law := wG27 _ (List.mem_of_getElem? (i := 7) rfl)
theorem m27_8 : Cond.methodLink RX7 57 yX7_addWay ∈ wsL_law := wG27 _ (List.mem_of_getElem? (i := 8) rfl)
theorem m27_9 : Cond.instanceMethod yX7_addWay ∈ wsL_law := wG27 _ (List.mem_of_getElem? (i := 9) rfl)
theorem m27_10 : Cond.selects RX7 yX7_addWay yX7_addWay ∈ wsL_law := wG27 _ (List.mem_of_getElem? (i := 10) rfl)
theorem m27_11 : Cond.code yX7_addWay cX7_addWay 3 none ∈ wsL_law := wG27 _ (List.mem_of_getElem? (i := 11) rfl)
theorem m27_12 : Cond.methodLink RX7 60 yX7_goOn ∈ wsL_law := wG27 _ (List.mem_of_getElem? (i := 12) rfl)
theorem m27_13 : Cond.instanceMethod yX7_goOn ∈ wsL_law := wG27 _ (List.mem_of_getElem? (i := 13) rfl)
theorem m27_14 : Cond.selects RX7 yX7_goOn yX7_goOn ∈ wsL_law := wG27 _ (List.mem_of_getElem? (i := 14) rfl)
theorem m27_15 : Cond.code yX7_goOn cX7_goOn 3 none ∈ wsL_law := wG27 _ (List.mem_of_getElem? (i := 15) rfl)
theorem m27_16 : Cond.methodLink RX7 71 yX7_times ∈ wsL_law := wG27 _ (List.mem_of_getElem? (i := 16) rfl)
theorem m27_17 : Cond.instanceMethod yX7_times ∈ wsL_law := wG27 _ (List.mem_of_getElem? (i := 17) rfl)
theorem m27_18 : Cond.selects RX7 yX7_times yX7_times ∈ wsL_law := wG27 _ (List.mem_of_getElem? (i := 18) rfl)
theorem m27_19 : Cond.code yX7_times cX7_times 10 none ∈ wsL_law := wG27 _ (List.mem_of_getElem? (i := 19) rfl)
theorem m27_20 : Cond.methodLink RX7 64 yX5_isPlain ∈ wsL_law := wG27 _ (List.mem_of_getElem? (i := 20) rfl)
theorem m27_21 : Cond.methodLink RX7 67 yX7_addWrapped ∈ wsL_law := wG27 _ (List.mem_of_getElem? (i := 21) rfl)
theorem m27_22 : Cond.instanceMethod yX7_addWrapped ∈ wsL_law := wG27 _ (List.mem_of_getElem? (i := 22) rfl)
theorem m27_23 : Cond.selects RX7 yX7_addWrapped yX7_addWrapped ∈ wsL_law := wG27 _ (List.mem_of_getElem? (i := 23) rfl)
theorem m28_0 : Cond.code yX7_addWrapped cX7_addWrapped 6 none ∈ wsL_law := wG28 _ (List.mem_of_getElem? (i := 0) rfl)
theorem m28_1 : Cond.methodLink RX11 174 yX9_follow ∈ wsL_law := wG28 _ (List.mem_of_getElem? (i := 1) rfl)
theorem m28_2 : Cond.instanceMethod yX9_follow ∈ wsL_law := wG28 _ (List.mem_of_getElem? (i := 2) rfl)
theorem m28_3 : Cond.selects RX9 yX9_follow yX9_follow ∈ wsL_law := wG28 _ (List.mem_of_getElem? (i := 3) rfl)
theorem m28_4 : Cond.code yX9_follow cX9_follow 5 none ∈ wsL_law := wG28 _ (List.mem_of_getElem? (i := 4) rfl)
theorem m28_5 : Cond.methodLink RX9 28 yX9_begin ∈ wsL_law := wG28 _ (List.mem_of_getElem? (i := 5) rfl)
theorem m28_6 : Cond.instanceMethod yX9_begin ∈ wsL_law := wG28 _ (List.mem_of_getElem? (i := 6) rfl)
theorem m28_7 : Cond.selects RX9 yX9_begin yX9_begin ∈ wsL_law := wG28 _ (List.mem_of_getElem? (i := 7) rfl)
theorem m28_8 : Cond.code yX9_begin cX9_begin 2 none ∈ wsL_law := wG28 _ (List.mem_of_getElem? (i := 8) rfl)
theorem m28_9 : Cond.methodLink RX9 22 yX5_identity ∈ wsL_law := wG28 _ (List.mem_of_getElem? (i := 9) rfl)
theorem m28_10 : Cond.instanceMethod yX5_identity ∈ wsL_law := wG28 _ (List.mem_of_getElem? (i := 10) rfl)
theorem m28_11 : Cond.selects RX5 yX5_identity yX5_identity ∈ wsL_law := wG28 _ (List.mem_of_getElem? (i := 11) rfl)
theorem m28_12 : Cond.code yX5_identity cX5_identity 3 (some .int) ∈ wsL_law := wG28 _ (List.mem_of_getElem? (i := 12) rfl)
theorem m28_13 : Cond.methodLink RX9 32 yX9_step ∈ wsL_law := wG28 _ (List.mem_of_getElem? (i := 13) rfl)
theorem m28_14 : Cond.instanceMethod yX9_step ∈ wsL_law := wG28 _ (List.mem_of_getElem? (i := 14) rfl)
theorem m28_15 : Cond.selects RX9 yX9_step yX9_step ∈ wsL_law := wG28 _ (List.mem_of_getElem? (i := 15) rfl)
theorem m28_16 : Cond.code yX9_step cX9_step 6 none ∈ wsL_law := wG28 _ (List.mem_of_getElem? (i := 16) rfl)
theorem m28_17 : Cond.methodLink RX9 36 yX6_letterAt ∈ wsL_law := wG28 _ (List.mem_of_getElem? (i := 17) rfl)
theorem m28_18 : Cond.methodLink RX9 42 yX6_openAt ∈ wsL_law := wG28 _ (List.mem_of_getElem? (i := 18) rfl)
theorem m28_19 : Cond.methodLink RX9 45 yX5_isPlain ∈ wsL_law := wG28 _ (List.mem_of_getElem? (i := 19) rfl)
theorem m28_20 : Cond.methodLink RX9 49 yX5_way ∈ wsL_law := wG28 _ (List.mem_of_getElem? (i := 20) rfl)
theorem m28_21 : Cond.methodLink RX9 53 yX9_goOn ∈ wsL_law := wG28 _ (List.mem_of_getElem? (i := 21) rfl)
theorem m28_22 : Cond.instanceMethod yX9_goOn ∈ wsL_law := wG28 _ (List.mem_of_getElem? (i := 22) rfl)
theorem m28_23 : Cond.selects RX9 yX9_goOn yX9_goOn ∈ wsL_law := wG28 _ (List.mem_of_getElem? (i := 23) rfl)
theorem m29_0 : Cond.code yX9_goOn cX9_goOn 4 none ∈ wsL_law := wG29 _ (List.mem_of_getElem? (i := 0) rfl)
theorem m29_1 : Cond.methodLink RX9 67 yX5_image ∈ wsL_law := wG29 _ (List.mem_of_getElem? (i := 1) rfl)
theorem m29_2 : Cond.static yX5_image ∈ wsL_law := wG29 _ (List.mem_of_getElem? (i := 2) rfl)
theorem m29_3 : Cond.code yX5_image cX5_image 3 (some .int) ∈ wsL_law := wG29 _ (List.mem_of_getElem? (i := 3) rfl)
theorem m29_4 : Cond.methodLink RX9 70 yX5_then ∈ wsL_law := wG29 _ (List.mem_of_getElem? (i := 4) rfl)
theorem m29_5 : Cond.static yX5_then ∈ wsL_law := wG29 _ (List.mem_of_getElem? (i := 5) rfl)
theorem m29_6 : Cond.code yX5_then cX5_then 2 (some .int) ∈ wsL_law := wG29 _ (List.mem_of_getElem? (i := 6) rfl)
theorem m29_7 : Cond.methodLink RX5 64 yX5_image ∈ wsL_law := wG29 _ (List.mem_of_getElem? (i := 7) rfl)
theorem m29_8 : Cond.methodLink RX9 57 yX5_closes ∈ wsL_law := wG29 _ (List.mem_of_getElem? (i := 8) rfl)
theorem m29_9 : Cond.methodLink RX9 60 yX5_wrapped ∈ wsL_law := wG29 _ (List.mem_of_getElem? (i := 9) rfl)
theorem m29_10 : Cond.instanceMethod yX5_wrapped ∈ wsL_law := wG29 _ (List.mem_of_getElem? (i := 10) rfl)
theorem m29_11 : Cond.selects RX5 yX5_wrapped yX5_wrapped ∈ wsL_law := wG29 _ (List.mem_of_getElem? (i := 11) rfl)
theorem m29_12 : Cond.code yX5_wrapped cX5_wrapped 6 (some .int) ∈ wsL_law := wG29 _ (List.mem_of_getElem? (i := 12) rfl)
theorem m29_13 : Cond.methodLink RX5 61 yX5_then ∈ wsL_law := wG29 _ (List.mem_of_getElem? (i := 13) rfl)
theorem m29_14 : Cond.methodLink RX9 64 yX5_alone ∈ wsL_law := wG29 _ (List.mem_of_getElem? (i := 14) rfl)
theorem m29_15 : Cond.instanceMethod yX5_alone ∈ wsL_law := wG29 _ (List.mem_of_getElem? (i := 15) rfl)
theorem m29_16 : Cond.selects RX5 yX5_alone yX5_alone ∈ wsL_law := wG29 _ (List.mem_of_getElem? (i := 16) rfl)
theorem m29_17 : Cond.code yX5_alone cX5_alone 2 (some .int) ∈ wsL_law := wG29 _ (List.mem_of_getElem? (i := 17) rfl)
theorem m29_18 : Cond.methodLink RX11 178 yX9_comeAt ∈ wsL_law := wG29 _ (List.mem_of_getElem? (i := 18) rfl)
theorem m29_19 : Cond.instanceMethod yX9_comeAt ∈ wsL_law := wG29 _ (List.mem_of_getElem? (i := 19) rfl)
theorem m29_20 : Cond.selects RX9 yX9_comeAt yX9_comeAt ∈ wsL_law := wG29 _ (List.mem_of_getElem? (i := 20) rfl)
theorem m29_21 : Cond.code yX9_comeAt cX9_comeAt 2 (some .int) ∈ wsL_law := wG29 _ (List.mem_of_getElem? (i := 21) rfl)
theorem m29_22 : Cond.methodLink RX11 181 yX5_takesAny ∈ wsL_law := wG29 _ (List.mem_of_getElem? (i := 22) rfl)
theorem m29_23 : Cond.instanceMethod yX5_takesAny ∈ wsL_law := wG29 _ (List.mem_of_getElem? (i := 23) rfl)
theorem m30_0 : Cond.selects RX5 yX5_takesAny yX5_takesAny ∈ wsL_law := wG30 _ (List.mem_of_getElem? (i := 0) rfl)
theorem m30_1 : Cond.code yX5_takesAny cX5_takesAny 2 (some .boolean) ∈ wsL_law := wG30 _ (List.mem_of_getElem? (i := 1) rfl)
theorem m30_2 : Cond.methodLink RL 68 yX12_run ∈ wsL_law := wG30 _ (List.mem_of_getElem? (i := 2) rfl)
theorem m30_3 : Cond.instanceMethod yX12_run ∈ wsL_law := wG30 _ (List.mem_of_getElem? (i := 3) rfl)
theorem m30_4 : Cond.selects RX12 yX12_run yX12_run ∈ wsL_law := wG30 _ (List.mem_of_getElem? (i := 4) rfl)
theorem m30_5 : Cond.code yX12_run cX12_run 4 (some .int) ∈ wsL_law := wG30 _ (List.mem_of_getElem? (i := 5) rfl)
theorem m30_6 : Cond.constantLong RX12 290 (1000000007) ∈ wsL_law := wG30 _ (List.mem_of_getElem? (i := 6) rfl)
theorem m30_7 : Cond.fieldLink RX12 242 "NestReadersModel" "come" "I" ∈ wsL_law := wG30 _ (List.mem_of_getElem? (i := 7) rfl)
theorem m30_8 : Cond.methodLink RX12 292 yX12_countRuns ∈ wsL_law := wG30 _ (List.mem_of_getElem? (i := 8) rfl)
theorem m30_9 : Cond.instanceMethod yX12_countRuns ∈ wsL_law := wG30 _ (List.mem_of_getElem? (i := 9) rfl)
theorem m30_10 : Cond.selects RX12 yX12_countRuns yX12_countRuns ∈ wsL_law := wG30 _ (List.mem_of_getElem? (i := 10) rfl)
theorem m30_11 : Cond.code yX12_countRuns cX12_countRuns 8 none ∈ wsL_law := wG30 _ (List.mem_of_getElem? (i := 11) rfl)
theorem m30_12 : Cond.methodLink RX12 274 yX12_toItself ∈ wsL_law := wG30 _ (List.mem_of_getElem? (i := 12) rfl)
theorem m30_13 : Cond.instanceMethod yX12_toItself ∈ wsL_law := wG30 _ (List.mem_of_getElem? (i := 13) rfl)
theorem m30_14 : Cond.selects RX12 yX12_toItself yX12_toItself ∈ wsL_law := wG30 _ (List.mem_of_getElem? (i := 14) rfl)
theorem m30_15 : Cond.code yX12_toItself cX12_toItself 2 none ∈ wsL_law := wG30 _ (List.mem_of_getElem? (i := 15) rfl)
theorem m30_16 : Cond.methodLink RX12 277 yX12_stepRuns ∈ wsL_law := wG30 _ (List.mem_of_getElem? (i := 16) rfl)
theorem m30_17 : Cond.instanceMethod yX12_stepRuns ∈ wsL_law := wG30 _ (List.mem_of_getElem? (i := 17) rfl)
theorem m30_18 : Cond.selects RX12 yX12_stepRuns yX12_stepRuns ∈ wsL_law := wG30 _ (List.mem_of_getElem? (i := 18) rfl)
theorem m30_19 : Cond.code yX12_stepRuns cX12_stepRuns 7 none ∈ wsL_law := wG30 _ (List.mem_of_getElem? (i := 19) rfl)
theorem m30_20 : Cond.methodLink RX12 280 yX12_stepWays ∈ wsL_law := wG30 _ (List.mem_of_getElem? (i := 20) rfl)
theorem m30_21 : Cond.instanceMethod yX12_stepWays ∈ wsL_law := wG30 _ (List.mem_of_getElem? (i := 21) rfl)
theorem m30_22 : Cond.selects RX12 yX12_stepWays yX12_stepWays ∈ wsL_law := wG30 _ (List.mem_of_getElem? (i := 22) rfl)
theorem m30_23 : Cond.code yX12_stepWays cX12_stepWays 9 none ∈ wsL_law := wG30 _ (List.mem_of_getElem? (i := 23) rfl)
theorem m31_0 : Cond.methodLink RX12 283 yX12_letterOpen ∈ wsL_law := wG31 _ (List.mem_of_getElem? (i := 0) rfl)
theorem m31_1 : Cond.instanceMethod yX12_letterOpen ∈ wsL_law := wG31 _ (List.mem_of_getElem? (i := 1) rfl)
theorem m31_2 : Cond.selects RX12 yX12_letterOpen yX12_letterOpen ∈ wsL_law := wG31 _ (List.mem_of_getElem? (i := 2) rfl)
theorem m31_3 : Cond.code yX12_letterOpen cX12_letterOpen 2 (some .int) ∈ wsL_law := wG31 _ (List.mem_of_getElem? (i := 3) rfl)
theorem m31_4 : Cond.methodLink RX12 286 yX12_waysOver ∈ wsL_law := wG31 _ (List.mem_of_getElem? (i := 4) rfl)
theorem m31_5 : Cond.instanceMethod yX12_waysOver ∈ wsL_law := wG31 _ (List.mem_of_getElem? (i := 5) rfl)
theorem m31_6 : Cond.selects RX12 yX12_waysOver yX12_waysOver ∈ wsL_law := wG31 _ (List.mem_of_getElem? (i := 6) rfl)
theorem m31_7 : Cond.code yX12_waysOver cX12_waysOver 11 (some .long) ∈ wsL_law := wG31 _ (List.mem_of_getElem? (i := 7) rfl)
theorem m31_8 : Cond.methodLink RX12 295 yX12_goRow ∈ wsL_law := wG31 _ (List.mem_of_getElem? (i := 8) rfl)
theorem m31_9 : Cond.instanceMethod yX12_goRow ∈ wsL_law := wG31 _ (List.mem_of_getElem? (i := 9) rfl)
theorem m31_10 : Cond.selects RX12 yX12_goRow yX12_goRow ∈ wsL_law := wG31 _ (List.mem_of_getElem? (i := 10) rfl)
theorem m31_11 : Cond.code yX12_goRow cX12_goRow 4 none ∈ wsL_law := wG31 _ (List.mem_of_getElem? (i := 11) rfl)
theorem m31_12 : Cond.methodLink RX12 266 yX12_beginRow ∈ wsL_law := wG31 _ (List.mem_of_getElem? (i := 12) rfl)
theorem m31_13 : Cond.instanceMethod yX12_beginRow ∈ wsL_law := wG31 _ (List.mem_of_getElem? (i := 13) rfl)
theorem m31_14 : Cond.selects RX12 yX12_beginRow yX12_beginRow ∈ wsL_law := wG31 _ (List.mem_of_getElem? (i := 14) rfl)
theorem m31_15 : Cond.code yX12_beginRow cX12_beginRow 2 none ∈ wsL_law := wG31 _ (List.mem_of_getElem? (i := 15) rfl)
theorem m31_16 : Cond.fieldLink RX12 236 "NestReadersModel" "stacked" "I" ∈ wsL_law := wG31 _ (List.mem_of_getElem? (i := 16) rfl)
theorem m31_17 : Cond.fieldLink RX12 248 "NestReadersModel" "since" "I" ∈ wsL_law := wG31 _ (List.mem_of_getElem? (i := 17) rfl)
theorem m31_18 : Cond.methodLink RX12 239 yX12_begun ∈ wsL_law := wG31 _ (List.mem_of_getElem? (i := 18) rfl)
theorem m31_19 : Cond.static yX12_begun ∈ wsL_law := wG31 _ (List.mem_of_getElem? (i := 19) rfl)
theorem m31_20 : Cond.code yX12_begun cX12_begun 1 (some .int) ∈ wsL_law := wG31 _ (List.mem_of_getElem? (i := 20) rfl)
theorem m31_21 : Cond.methodLink RX12 245 yX12_itself ∈ wsL_law := wG31 _ (List.mem_of_getElem? (i := 21) rfl)
theorem m31_22 : Cond.instanceMethod yX12_itself ∈ wsL_law := wG31 _ (List.mem_of_getElem? (i := 22) rfl)
theorem m31_23 : Cond.selects RX12 yX12_itself yX12_itself ∈ wsL_law := wG31 _ (List.mem_of_getElem? (i := 23) rfl)
theorem m32_0 : Cond.code yX12_itself cX12_itself 5 (some .int) ∈ wsL_law := wG32 _ (List.mem_of_getElem? (i := 0) rfl)
theorem m32_1 : Cond.methodLink RX12 229 yX12_isOf ∈ wsL_law := wG32 _ (List.mem_of_getElem? (i := 1) rfl)
theorem m32_2 : Cond.static yX12_isOf ∈ wsL_law := wG32 _ (List.mem_of_getElem? (i := 2) rfl)
theorem m32_3 : Cond.code yX12_isOf cX12_isOf 2 (some .boolean) ∈ wsL_law := wG32 _ (List.mem_of_getElem? (i := 3) rfl)
theorem m32_4 : Cond.methodLink RX12 270 yX12_goOn ∈ wsL_law := wG32 _ (List.mem_of_getElem? (i := 4) rfl)
theorem m32_5 : Cond.instanceMethod yX12_goOn ∈ wsL_law := wG32 _ (List.mem_of_getElem? (i := 5) rfl)
theorem m32_6 : Cond.selects RX12 yX12_goOn yX12_goOn ∈ wsL_law := wG32 _ (List.mem_of_getElem? (i := 6) rfl)
theorem m32_7 : Cond.code yX12_goOn cX12_goOn 4 none ∈ wsL_law := wG32 _ (List.mem_of_getElem? (i := 7) rfl)
theorem m32_8 : Cond.methodLink RX12 251 yX12_opened ∈ wsL_law := wG32 _ (List.mem_of_getElem? (i := 8) rfl)
theorem m32_9 : Cond.instanceMethod yX12_opened ∈ wsL_law := wG32 _ (List.mem_of_getElem? (i := 9) rfl)
theorem m32_10 : Cond.selects RX12 yX12_opened yX12_opened ∈ wsL_law := wG32 _ (List.mem_of_getElem? (i := 10) rfl)
theorem m32_11 : Cond.code yX12_opened cX12_opened 8 (some .int) ∈ wsL_law := wG32 _ (List.mem_of_getElem? (i := 11) rfl)
theorem m32_12 : Cond.methodLink RX12 254 yX12_plain ∈ wsL_law := wG32 _ (List.mem_of_getElem? (i := 12) rfl)
theorem m32_13 : Cond.instanceMethod yX12_plain ∈ wsL_law := wG32 _ (List.mem_of_getElem? (i := 13) rfl)
theorem m32_14 : Cond.selects RX12 yX12_plain yX12_plain ∈ wsL_law := wG32 _ (List.mem_of_getElem? (i := 14) rfl)
theorem m32_15 : Cond.code yX12_plain cX12_plain 6 (some .int) ∈ wsL_law := wG32 _ (List.mem_of_getElem? (i := 15) rfl)
theorem m32_16 : Cond.methodLink RX12 232 yX12_image ∈ wsL_law := wG32 _ (List.mem_of_getElem? (i := 16) rfl)
theorem m32_17 : Cond.static yX12_image ∈ wsL_law := wG32 _ (List.mem_of_getElem? (i := 17) rfl)
theorem m32_18 : Cond.code yX12_image cX12_image 5 (some .int) ∈ wsL_law := wG32 _ (List.mem_of_getElem? (i := 18) rfl)
theorem m32_19 : Cond.methodLink RX12 257 yX12_follow ∈ wsL_law := wG32 _ (List.mem_of_getElem? (i := 19) rfl)
theorem m32_20 : Cond.static yX12_follow ∈ wsL_law := wG32 _ (List.mem_of_getElem? (i := 20) rfl)
theorem m32_21 : Cond.code yX12_follow cX12_follow 8 (some .int) ∈ wsL_law := wG32 _ (List.mem_of_getElem? (i := 21) rfl)
theorem m32_22 : Cond.methodLink RX12 260 yX12_block ∈ wsL_law := wG32 _ (List.mem_of_getElem? (i := 22) rfl)
theorem m32_23 : Cond.instanceMethod yX12_block ∈ wsL_law := wG32 _ (List.mem_of_getElem? (i := 23) rfl)
theorem m33_0 : Cond.selects RX12 yX12_block yX12_block ∈ wsL_law := wG33 _ (List.mem_of_getElem? (i := 0) rfl)
theorem m33_1 : Cond.code yX12_block cX12_block 12 (some .int) ∈ wsL_law := wG33 _ (List.mem_of_getElem? (i := 1) rfl)
theorem m33_2 : Cond.methodLink RX12 263 yX12_closedOff ∈ wsL_law := wG33 _ (List.mem_of_getElem? (i := 2) rfl)
theorem m33_3 : Cond.instanceMethod yX12_closedOff ∈ wsL_law := wG33 _ (List.mem_of_getElem? (i := 3) rfl)
theorem m33_4 : Cond.selects RX12 yX12_closedOff yX12_closedOff ∈ wsL_law := wG33 _ (List.mem_of_getElem? (i := 4) rfl)
theorem m33_5 : Cond.code yX12_closedOff cX12_closedOff 7 (some .int) ∈ wsL_law := wG33 _ (List.mem_of_getElem? (i := 5) rfl)
theorem m33_6 : Cond.methodLink RX12 298 yX12_doesTake ∈ wsL_law := wG33 _ (List.mem_of_getElem? (i := 6) rfl)
theorem m33_7 : Cond.instanceMethod yX12_doesTake ∈ wsL_law := wG33 _ (List.mem_of_getElem? (i := 7) rfl)
theorem m33_8 : Cond.selects RX12 yX12_doesTake yX12_doesTake ∈ wsL_law := wG33 _ (List.mem_of_getElem? (i := 8) rfl)
theorem m33_9 : Cond.code yX12_doesTake cX12_doesTake 3 (some .boolean) ∈ wsL_law := wG33 _ (List.mem_of_getElem? (i := 9) rfl)
theorem m33_10 : Cond.methodLink RL 69 yX11_between ∈ wsL_law := wG33 _ (List.mem_of_getElem? (i := 10) rfl)
theorem m33_11 : Cond.instanceMethod yX11_between ∈ wsL_law := wG33 _ (List.mem_of_getElem? (i := 11) rfl)
theorem m33_12 : Cond.selects RX11 yX11_between yX11_between ∈ wsL_law := wG33 _ (List.mem_of_getElem? (i := 12) rfl)
theorem m33_13 : Cond.code yX11_between cX11_between 2 (some .int) ∈ wsL_law := wG33 _ (List.mem_of_getElem? (i := 13) rfl)
theorem m33_14 : Cond.methodLink RX11 184 yX6_isWhole ∈ wsL_law := wG33 _ (List.mem_of_getElem? (i := 14) rfl)
theorem m33_15 : Cond.instanceMethod yX6_isWhole ∈ wsL_law := wG33 _ (List.mem_of_getElem? (i := 15) rfl)
theorem m33_16 : Cond.selects RX6 yX6_isWhole yX6_isWhole ∈ wsL_law := wG33 _ (List.mem_of_getElem? (i := 16) rfl)
theorem m33_17 : Cond.code yX6_isWhole cX6_isWhole 1 (some .boolean) ∈ wsL_law := wG33 _ (List.mem_of_getElem? (i := 17) rfl)
theorem m33_18 : Cond.methodLink RX11 188 yX9_sinceAt ∈ wsL_law := wG33 _ (List.mem_of_getElem? (i := 18) rfl)
theorem m33_19 : Cond.instanceMethod yX9_sinceAt ∈ wsL_law := wG33 _ (List.mem_of_getElem? (i := 19) rfl)
theorem m33_20 : Cond.selects RX9 yX9_sinceAt yX9_sinceAt ∈ wsL_law := wG33 _ (List.mem_of_getElem? (i := 20) rfl)
theorem m33_21 : Cond.code yX9_sinceAt cX9_sinceAt 2 (some .int) ∈ wsL_law := wG33 _ (List.mem_of_getElem? (i := 21) rfl)
theorem m33_22 : Cond.methodLink RL 72 yX12_between ∈ wsL_law := wG33 _ (List.mem_of_getElem? (i := 22) rfl)
theorem m33_23 : Cond.instanceMethod yX12_between ∈ wsL_law := wG33 _ (List.mem_of_getElem? (i := 23) rfl)
theorem m34_0 : Cond.selects RX12 yX12_between yX12_between ∈ wsL_law := wG34 _ (List.mem_of_getElem? (i := 0) rfl)
theorem m34_1 : Cond.code yX12_between cX12_between 4 (some .int) ∈ wsL_law := wG34 _ (List.mem_of_getElem? (i := 1) rfl)
theorem m34_2 : Cond.methodLink RL 73 yX11_places ∈ wsL_law := wG34 _ (List.mem_of_getElem? (i := 2) rfl)
theorem m34_3 : Cond.instanceMethod yX11_places ∈ wsL_law := wG34 _ (List.mem_of_getElem? (i := 3) rfl)
theorem m34_4 : Cond.selects RX11 yX11_places yX11_places ∈ wsL_law := wG34 _ (List.mem_of_getElem? (i := 4) rfl)
theorem m34_5 : Cond.code yX11_places cX11_places 3 (some .int) ∈ wsL_law := wG34 _ (List.mem_of_getElem? (i := 5) rfl)
theorem m34_6 : Cond.methodLink RX11 191 yX11_placesOf ∈ wsL_law := wG34 _ (List.mem_of_getElem? (i := 6) rfl)
theorem m34_7 : Cond.instanceMethod yX11_placesOf ∈ wsL_law := wG34 _ (List.mem_of_getElem? (i := 7) rfl)
theorem m34_8 : Cond.selects RX11 yX11_placesOf yX11_placesOf ∈ wsL_law := wG34 _ (List.mem_of_getElem? (i := 8) rfl)
theorem m34_9 : Cond.code yX11_placesOf cX11_placesOf 2 (some (.object "NestReaders$Places")) ∈ wsL_law := wG34 _ (List.mem_of_getElem? (i := 9) rfl)
theorem m34_10 : Cond.methodLink RX11 195 yX4_areSpent ∈ wsL_law := wG34 _ (List.mem_of_getElem? (i := 10) rfl)
theorem m34_11 : Cond.instanceMethod yX4_areSpent ∈ wsL_law := wG34 _ (List.mem_of_getElem? (i := 11) rfl)
theorem m34_12 : Cond.selects RX4 yX4_areSpent yX4_areSpent ∈ wsL_law := wG34 _ (List.mem_of_getElem? (i := 12) rfl)
theorem m34_13 : Cond.code yX4_areSpent cX4_areSpent 5 (some .boolean) ∈ wsL_law := wG34 _ (List.mem_of_getElem? (i := 13) rfl)
theorem m34_14 : Cond.methodLink RX4 54 yX1_changes ∈ wsL_law := wG34 _ (List.mem_of_getElem? (i := 14) rfl)
theorem m34_15 : Cond.instanceMethod yX1_changes ∈ wsL_law := wG34 _ (List.mem_of_getElem? (i := 15) rfl)
theorem m34_16 : Cond.selects RX1 yX1_changes yX1_changes ∈ wsL_law := wG34 _ (List.mem_of_getElem? (i := 16) rfl)
theorem m34_17 : Cond.code yX1_changes cX1_changes 1 (some .int) ∈ wsL_law := wG34 _ (List.mem_of_getElem? (i := 17) rfl)
theorem m34_18 : Cond.methodLink RX1 22 yX5_changes ∈ wsL_law := wG34 _ (List.mem_of_getElem? (i := 18) rfl)
theorem m34_19 : Cond.instanceMethod yX5_changes ∈ wsL_law := wG34 _ (List.mem_of_getElem? (i := 19) rfl)
theorem m34_20 : Cond.selects RX5 yX5_changes yX5_changes ∈ wsL_law := wG34 _ (List.mem_of_getElem? (i := 20) rfl)
theorem m34_21 : Cond.code yX5_changes cX5_changes 1 (some .int) ∈ wsL_law := wG34 _ (List.mem_of_getElem? (i := 21) rfl)
theorem m34_22 : Cond.methodLink RX4 57 yX10_build ∈ wsL_law := wG34 _ (List.mem_of_getElem? (i := 22) rfl)
theorem m34_23 : Cond.instanceMethod yX10_build ∈ wsL_law := wG34 _ (List.mem_of_getElem? (i := 23) rfl)
theorem m35_0 : Cond.selects RX10 yX10_build yX10_build ∈ wsL_law := wG35 _ (List.mem_of_getElem? (i := 0) rfl)
theorem m35_1 : Cond.code yX10_build cX10_build 5 none ∈ wsL_law := wG35 _ (List.mem_of_getElem? (i := 1) rfl)
theorem m35_2 : Cond.methodLink RX10 54 yX1_identity ∈ wsL_law := wG35 _ (List.mem_of_getElem? (i := 2) rfl)
theorem m35_3 : Cond.instanceMethod yX1_identity ∈ wsL_law := wG35 _ (List.mem_of_getElem? (i := 3) rfl)
theorem m35_4 : Cond.selects RX1 yX1_identity yX1_identity ∈ wsL_law := wG35 _ (List.mem_of_getElem? (i := 4) rfl)
theorem m35_5 : Cond.code yX1_identity cX1_identity 1 (some .int) ∈ wsL_law := wG35 _ (List.mem_of_getElem? (i := 5) rfl)
theorem m35_6 : Cond.methodLink RX1 32 yX5_identity ∈ wsL_law := wG35 _ (List.mem_of_getElem? (i := 6) rfl)
theorem m35_7 : Cond.methodLink RX1 35 yX1_joinedPair ∈ wsL_law := wG35 _ (List.mem_of_getElem? (i := 7) rfl)
theorem m35_8 : Cond.static yX1_joinedPair ∈ wsL_law := wG35 _ (List.mem_of_getElem? (i := 8) rfl)
theorem m35_9 : Cond.code yX1_joinedPair cX1_joinedPair 2 (some .int) ∈ wsL_law := wG35 _ (List.mem_of_getElem? (i := 9) rfl)
theorem m35_10 : Cond.methodLink RX10 60 yX10_numberOf ∈ wsL_law := wG35 _ (List.mem_of_getElem? (i := 10) rfl)
theorem m35_11 : Cond.instanceMethod yX10_numberOf ∈ wsL_law := wG35 _ (List.mem_of_getElem? (i := 11) rfl)
theorem m35_12 : Cond.selects RX10 yX10_numberOf yX10_numberOf ∈ wsL_law := wG35 _ (List.mem_of_getElem? (i := 12) rfl)
theorem m35_13 : Cond.code yX10_numberOf cX10_numberOf 3 (some .int) ∈ wsL_law := wG35 _ (List.mem_of_getElem? (i := 13) rfl)
theorem m35_14 : Cond.methodLink RX10 81 yX10_slotOf ∈ wsL_law := wG35 _ (List.mem_of_getElem? (i := 14) rfl)
theorem m35_15 : Cond.instanceMethod yX10_slotOf ∈ wsL_law := wG35 _ (List.mem_of_getElem? (i := 15) rfl)
theorem m35_16 : Cond.selects RX10 yX10_slotOf yX10_slotOf ∈ wsL_law := wG35 _ (List.mem_of_getElem? (i := 16) rfl)
theorem m35_17 : Cond.code yX10_slotOf cX10_slotOf 5 (some .int) ∈ wsL_law := wG35 _ (List.mem_of_getElem? (i := 17) rfl)
theorem m35_18 : Cond.constant RX10 91 (40503) ∈ wsL_law := wG35 _ (List.mem_of_getElem? (i := 18) rfl)
theorem m35_19 : Cond.methodLink RX10 64 yX1_plain ∈ wsL_law := wG35 _ (List.mem_of_getElem? (i := 19) rfl)
theorem m35_20 : Cond.instanceMethod yX1_plain ∈ wsL_law := wG35 _ (List.mem_of_getElem? (i := 20) rfl)
theorem m35_21 : Cond.selects RX1 yX1_plain yX1_plain ∈ wsL_law := wG35 _ (List.mem_of_getElem? (i := 21) rfl)
theorem m35_22 : Cond.code yX1_plain cX1_plain 2 (some .int) ∈ wsL_law := wG35 _ (List.mem_of_getElem? (i := 22) rfl)
theorem m35_23 : Cond.methodLink RX1 38 yX1_identity ∈ wsL_law := wG35 _ (List.mem_of_getElem? (i := 23) rfl)
theorem m36_0 : Cond.methodLink RX1 39 yX5_way ∈ wsL_law := wG36 _ (List.mem_of_getElem? (i := 0) rfl)
theorem m36_1 : Cond.methodLink RX1 42 yX1_then ∈ wsL_law := wG36 _ (List.mem_of_getElem? (i := 1) rfl)
theorem m36_2 : Cond.static yX1_then ∈ wsL_law := wG36 _ (List.mem_of_getElem? (i := 2) rfl)
theorem m36_3 : Cond.code yX1_then cX1_then 2 (some .int) ∈ wsL_law := wG36 _ (List.mem_of_getElem? (i := 3) rfl)
theorem m36_4 : Cond.methodLink RX1 64 yX5_then ∈ wsL_law := wG36 _ (List.mem_of_getElem? (i := 4) rfl)
theorem m36_5 : Cond.methodLink RX10 66 yX10_stepFor ∈ wsL_law := wG36 _ (List.mem_of_getElem? (i := 5) rfl)
theorem m36_6 : Cond.instanceMethod yX10_stepFor ∈ wsL_law := wG36 _ (List.mem_of_getElem? (i := 6) rfl)
theorem m36_7 : Cond.selects RX10 yX10_stepFor yX10_stepFor ∈ wsL_law := wG36 _ (List.mem_of_getElem? (i := 7) rfl)
theorem m36_8 : Cond.code yX10_stepFor cX10_stepFor 3 (some .int) ∈ wsL_law := wG36 _ (List.mem_of_getElem? (i := 8) rfl)
theorem m36_9 : Cond.methodLink RX10 69 yX1_wrapped ∈ wsL_law := wG36 _ (List.mem_of_getElem? (i := 9) rfl)
theorem m36_10 : Cond.instanceMethod yX1_wrapped ∈ wsL_law := wG36 _ (List.mem_of_getElem? (i := 10) rfl)
theorem m36_11 : Cond.selects RX1 yX1_wrapped yX1_wrapped ∈ wsL_law := wG36 _ (List.mem_of_getElem? (i := 11) rfl)
theorem m36_12 : Cond.code yX1_wrapped cX1_wrapped 4 (some .int) ∈ wsL_law := wG36 _ (List.mem_of_getElem? (i := 12) rfl)
theorem m36_13 : Cond.methodLink RX1 45 yX5_wrapped ∈ wsL_law := wG36 _ (List.mem_of_getElem? (i := 13) rfl)
theorem m36_14 : Cond.methodLink RX10 73 yX10_link ∈ wsL_law := wG36 _ (List.mem_of_getElem? (i := 14) rfl)
theorem m36_15 : Cond.instanceMethod yX10_link ∈ wsL_law := wG36 _ (List.mem_of_getElem? (i := 15) rfl)
theorem m36_16 : Cond.selects RX10 yX10_link yX10_link ∈ wsL_law := wG36 _ (List.mem_of_getElem? (i := 16) rfl)
theorem m36_17 : Cond.code yX10_link cX10_link 5 none ∈ wsL_law := wG36 _ (List.mem_of_getElem? (i := 17) rfl)
theorem m36_18 : Cond.methodLink RX10 88 yX1_then ∈ wsL_law := wG36 _ (List.mem_of_getElem? (i := 18) rfl)
theorem m36_19 : Cond.methodLink RX4 60 yX10_areSpent ∈ wsL_law := wG36 _ (List.mem_of_getElem? (i := 19) rfl)
theorem m36_20 : Cond.instanceMethod yX10_areSpent ∈ wsL_law := wG36 _ (List.mem_of_getElem? (i := 20) rfl)
theorem m36_21 : Cond.selects RX10 yX10_areSpent yX10_areSpent ∈ wsL_law := wG36 _ (List.mem_of_getElem? (i := 21) rfl)
theorem m36_22 : Cond.code yX10_areSpent cX10_areSpent 1 (some .boolean) ∈ wsL_law := wG36 _ (List.mem_of_getElem? (i := 22) rfl)
theorem m36_23 : Cond.methodLink RX4 64 yX1_beginning ∈ wsL_law := wG36 _ (List.mem_of_getElem? (i := 23) rfl)
theorem m37_0 : Cond.instanceMethod yX1_beginning ∈ wsL_law := wG37 _ (List.mem_of_getElem? (i := 0) rfl)
theorem m37_1 : Cond.selects RX1 yX1_beginning yX1_beginning ∈ wsL_law := wG37 _ (List.mem_of_getElem? (i := 1) rfl)
theorem m37_2 : Cond.code yX1_beginning cX1_beginning 1 (some .int) ∈ wsL_law := wG37 _ (List.mem_of_getElem? (i := 2) rfl)
theorem m37_3 : Cond.methodLink RX1 28 yX1_joinedCode ∈ wsL_law := wG37 _ (List.mem_of_getElem? (i := 3) rfl)
theorem m37_4 : Cond.static yX1_joinedCode ∈ wsL_law := wG37 _ (List.mem_of_getElem? (i := 4) rfl)
theorem m37_5 : Cond.code yX1_joinedCode cX1_joinedCode 2 (some .int) ∈ wsL_law := wG37 _ (List.mem_of_getElem? (i := 5) rfl)
theorem m37_6 : Cond.methodLink RX4 67 yX4_spread ∈ wsL_law := wG37 _ (List.mem_of_getElem? (i := 6) rfl)
theorem m37_7 : Cond.instanceMethod yX4_spread ∈ wsL_law := wG37 _ (List.mem_of_getElem? (i := 7) rfl)
theorem m37_8 : Cond.selects RX4 yX4_spread yX4_spread ∈ wsL_law := wG37 _ (List.mem_of_getElem? (i := 8) rfl)
theorem m37_9 : Cond.code yX4_spread cX4_spread 6 (some .long) ∈ wsL_law := wG37 _ (List.mem_of_getElem? (i := 9) rfl)
theorem m37_10 : Cond.methodLink RX4 132 yX4_fill ∈ wsL_law := wG37 _ (List.mem_of_getElem? (i := 10) rfl)
theorem m37_11 : Cond.instanceMethod yX4_fill ∈ wsL_law := wG37 _ (List.mem_of_getElem? (i := 11) rfl)
theorem m37_12 : Cond.selects RX4 yX4_fill yX4_fill ∈ wsL_law := wG37 _ (List.mem_of_getElem? (i := 12) rfl)
theorem m37_13 : Cond.code yX4_fill cX4_fill 4 none ∈ wsL_law := wG37 _ (List.mem_of_getElem? (i := 13) rfl)
theorem m37_14 : Cond.methodLink RX4 119 yX10_size ∈ wsL_law := wG37 _ (List.mem_of_getElem? (i := 14) rfl)
theorem m37_15 : Cond.instanceMethod yX10_size ∈ wsL_law := wG37 _ (List.mem_of_getElem? (i := 15) rfl)
theorem m37_16 : Cond.selects RX10 yX10_size yX10_size ∈ wsL_law := wG37 _ (List.mem_of_getElem? (i := 16) rfl)
theorem m37_17 : Cond.code yX10_size cX10_size 1 (some .int) ∈ wsL_law := wG37 _ (List.mem_of_getElem? (i := 17) rfl)
theorem m37_18 : Cond.methodLink RX4 142 yX10_pairAt ∈ wsL_law := wG37 _ (List.mem_of_getElem? (i := 18) rfl)
theorem m37_19 : Cond.instanceMethod yX10_pairAt ∈ wsL_law := wG37 _ (List.mem_of_getElem? (i := 19) rfl)
theorem m37_20 : Cond.selects RX10 yX10_pairAt yX10_pairAt ∈ wsL_law := wG37 _ (List.mem_of_getElem? (i := 20) rfl)
theorem m37_21 : Cond.code yX10_pairAt cX10_pairAt 2 (some .int) ∈ wsL_law := wG37 _ (List.mem_of_getElem? (i := 21) rfl)
theorem m37_22 : Cond.methodLink RX4 145 yX1_image ∈ wsL_law := wG37 _ (List.mem_of_getElem? (i := 22) rfl)
theorem m37_23 : Cond.static yX1_image ∈ wsL_law := wG37 _ (List.mem_of_getElem? (i := 23) rfl)
theorem m38_0 : Cond.code yX1_image cX1_image 2 (some .int) ∈ wsL_law := wG38 _ (List.mem_of_getElem? (i := 0) rfl)
theorem m38_1 : Cond.methodLink RX1 63 yX5_image ∈ wsL_law := wG38 _ (List.mem_of_getElem? (i := 1) rfl)
theorem m38_2 : Cond.methodLink RX4 71 yX4_reached ∈ wsL_law := wG38 _ (List.mem_of_getElem? (i := 2) rfl)
theorem m38_3 : Cond.instanceMethod yX4_reached ∈ wsL_law := wG38 _ (List.mem_of_getElem? (i := 3) rfl)
theorem m38_4 : Cond.selects RX4 yX4_reached yX4_reached ∈ wsL_law := wG38 _ (List.mem_of_getElem? (i := 4) rfl)
theorem m38_5 : Cond.code yX4_reached cX4_reached 9 (some .long) ∈ wsL_law := wG38 _ (List.mem_of_getElem? (i := 5) rfl)
theorem m38_6 : Cond.methodLink RX4 75 yX4_alone ∈ wsL_law := wG38 _ (List.mem_of_getElem? (i := 6) rfl)
theorem m38_7 : Cond.instanceMethod yX4_alone ∈ wsL_law := wG38 _ (List.mem_of_getElem? (i := 7) rfl)
theorem m38_8 : Cond.selects RX4 yX4_alone yX4_alone ∈ wsL_law := wG38 _ (List.mem_of_getElem? (i := 8) rfl)
theorem m38_9 : Cond.code yX4_alone cX4_alone 7 (some .long) ∈ wsL_law := wG38 _ (List.mem_of_getElem? (i := 9) rfl)
theorem m38_10 : Cond.methodLink RX4 130 yX1_alone ∈ wsL_law := wG38 _ (List.mem_of_getElem? (i := 10) rfl)
theorem m38_11 : Cond.instanceMethod yX1_alone ∈ wsL_law := wG38 _ (List.mem_of_getElem? (i := 11) rfl)
theorem m38_12 : Cond.selects RX1 yX1_alone yX1_alone ∈ wsL_law := wG38 _ (List.mem_of_getElem? (i := 12) rfl)
theorem m38_13 : Cond.code yX1_alone cX1_alone 3 (some .int) ∈ wsL_law := wG38 _ (List.mem_of_getElem? (i := 13) rfl)
theorem m38_14 : Cond.methodLink RX1 49 yX5_alone ∈ wsL_law := wG38 _ (List.mem_of_getElem? (i := 14) rfl)
theorem m38_15 : Cond.methodLink RX1 53 yX1_image ∈ wsL_law := wG38 _ (List.mem_of_getElem? (i := 15) rfl)
theorem m38_16 : Cond.methodLink RX4 78 yX4_sizeFrom ∈ wsL_law := wG38 _ (List.mem_of_getElem? (i := 16) rfl)
theorem m38_17 : Cond.instanceMethod yX4_sizeFrom ∈ wsL_law := wG38 _ (List.mem_of_getElem? (i := 17) rfl)
theorem m38_18 : Cond.selects RX4 yX4_sizeFrom yX4_sizeFrom ∈ wsL_law := wG38 _ (List.mem_of_getElem? (i := 18) rfl)
theorem m38_19 : Cond.code yX4_sizeFrom cX4_sizeFrom 8 (some .int) ∈ wsL_law := wG38 _ (List.mem_of_getElem? (i := 19) rfl)
theorem m38_20 : Cond.methodLink RX4 121 yX4_image ∈ wsL_law := wG38 _ (List.mem_of_getElem? (i := 20) rfl)
theorem m38_21 : Cond.instanceMethod yX4_image ∈ wsL_law := wG38 _ (List.mem_of_getElem? (i := 21) rfl)
theorem m38_22 : Cond.selects RX4 yX4_image yX4_image ∈ wsL_law := wG38 _ (List.mem_of_getElem? (i := 22) rfl)
theorem m38_23 : Cond.code yX4_image cX4_image 4 (some .int) ∈ wsL_law := wG38 _ (List.mem_of_getElem? (i := 23) rfl)
theorem m39_0 : Cond.methodLink RX4 125 yJ13_bitCount_95d88 ∈ wsL_law := wG39 _ (List.mem_of_getElem? (i := 0) rfl)
theorem m39_1 : Cond.static yJ13_bitCount_95d88 ∈ wsL_law := wG39 _ (List.mem_of_getElem? (i := 1) rfl)
theorem m39_2 : Cond.initialized RJ13 ∈ wsL_law := wG39 _ (List.mem_of_getElem? (i := 2) rfl)
theorem m39_3 : Cond.code yJ13_bitCount_95d88 cJ13_bitCount_95d88 2 (some .int) ∈ wsL_law := wG39 _ (List.mem_of_getElem? (i := 3) rfl)
theorem m39_4 : Cond.constantLong RJ13 314 (6148914691236517205) ∈ wsL_law := wG39 _ (List.mem_of_getElem? (i := 4) rfl)
theorem m39_5 : Cond.constantLong RJ13 316 (3689348814741910323) ∈ wsL_law := wG39 _ (List.mem_of_getElem? (i := 5) rfl)
theorem m39_6 : Cond.constantLong RJ13 318 (1085102592571150095) ∈ wsL_law := wG39 _ (List.mem_of_getElem? (i := 6) rfl)
theorem m39_7 : Cond.methodLink RX11 198 yX4_size ∈ wsL_law := wG39 _ (List.mem_of_getElem? (i := 7) rfl)
theorem m39_8 : Cond.instanceMethod yX4_size ∈ wsL_law := wG39 _ (List.mem_of_getElem? (i := 8) rfl)
theorem m39_9 : Cond.selects RX4 yX4_size yX4_size ∈ wsL_law := wG39 _ (List.mem_of_getElem? (i := 9) rfl)
theorem m39_10 : Cond.code yX4_size cX4_size 1 (some .int) ∈ wsL_law := wG39 _ (List.mem_of_getElem? (i := 10) rfl)
theorem m39_11 : Cond.methodLink RL 76 yX12_places ∈ wsL_law := wG39 _ (List.mem_of_getElem? (i := 11) rfl)
theorem m39_12 : Cond.instanceMethod yX12_places ∈ wsL_law := wG39 _ (List.mem_of_getElem? (i := 12) rfl)
theorem m39_13 : Cond.selects RX12 yX12_places yX12_places ∈ wsL_law := wG39 _ (List.mem_of_getElem? (i := 13) rfl)
theorem m39_14 : Cond.code yX12_places cX12_places 2 (some .int) ∈ wsL_law := wG39 _ (List.mem_of_getElem? (i := 14) rfl)
theorem m39_15 : Cond.fieldLink RX12 304 "NestReadersModel" "isSpent" "Z" ∈ wsL_law := wG39 _ (List.mem_of_getElem? (i := 15) rfl)
theorem m39_16 : Cond.fieldLink RX12 318 "NestReadersModel" "places" "I" ∈ wsL_law := wG39 _ (List.mem_of_getElem? (i := 16) rfl)
theorem m39_17 : Cond.methodLink RX12 331 yX12_findPlaces ∈ wsL_law := wG39 _ (List.mem_of_getElem? (i := 17) rfl)
theorem m39_18 : Cond.instanceMethod yX12_findPlaces ∈ wsL_law := wG39 _ (List.mem_of_getElem? (i := 18) rfl)
theorem m39_19 : Cond.selects RX12 yX12_findPlaces yX12_findPlaces ∈ wsL_law := wG39 _ (List.mem_of_getElem? (i := 19) rfl)
theorem m39_20 : Cond.code yX12_findPlaces cX12_findPlaces 4 none ∈ wsL_law := wG39 _ (List.mem_of_getElem? (i := 20) rfl)
theorem m39_21 : Cond.fieldLink RX12 311 "NestReadersModel" "nodes" "I" ∈ wsL_law := wG39 _ (List.mem_of_getElem? (i := 21) rfl)
theorem m39_22 : Cond.methodLink RX12 325 yX12_findWholes ∈ wsL_law := wG39 _ (List.mem_of_getElem? (i := 22) rfl)
theorem m39_23 : Cond.instanceMethod yX12_findWholes ∈ wsL_law := wG39 _ (List.mem_of_getElem? (i := 23) rfl)
theorem m40_0 : Cond.selects RX12 yX12_findWholes yX12_findWholes ∈ wsL_law := wG40 _ (List.mem_of_getElem? (i := 0) rfl)
theorem m40_1 : Cond.code yX12_findWholes cX12_findWholes 7 none ∈ wsL_law := wG40 _ (List.mem_of_getElem? (i := 1) rfl)
theorem m40_2 : Cond.fieldLink RX12 301 "NestReadersModel" "wholes" "I" ∈ wsL_law := wG40 _ (List.mem_of_getElem? (i := 2) rfl)
theorem m40_3 : Cond.methodLink RX12 308 yX12_meetWhole ∈ wsL_law := wG40 _ (List.mem_of_getElem? (i := 3) rfl)
theorem m40_4 : Cond.instanceMethod yX12_meetWhole ∈ wsL_law := wG40 _ (List.mem_of_getElem? (i := 4) rfl)
theorem m40_5 : Cond.selects RX12 yX12_meetWhole yX12_meetWhole ∈ wsL_law := wG40 _ (List.mem_of_getElem? (i := 5) rfl)
theorem m40_6 : Cond.code yX12_meetWhole cX12_meetWhole 5 (some .boolean) ∈ wsL_law := wG40 _ (List.mem_of_getElem? (i := 6) rfl)
theorem m40_7 : Cond.methodLink RX12 321 yX12_meetNode ∈ wsL_law := wG40 _ (List.mem_of_getElem? (i := 7) rfl)
theorem m40_8 : Cond.instanceMethod yX12_meetNode ∈ wsL_law := wG40 _ (List.mem_of_getElem? (i := 8) rfl)
theorem m40_9 : Cond.selects RX12 yX12_meetNode yX12_meetNode ∈ wsL_law := wG40 _ (List.mem_of_getElem? (i := 9) rfl)
theorem m40_10 : Cond.code yX12_meetNode cX12_meetNode 7 (some .boolean) ∈ wsL_law := wG40 _ (List.mem_of_getElem? (i := 10) rfl)
theorem m40_11 : Cond.methodLink RX12 314 yX12_nodeOf ∈ wsL_law := wG40 _ (List.mem_of_getElem? (i := 11) rfl)
theorem m40_12 : Cond.instanceMethod yX12_nodeOf ∈ wsL_law := wG40 _ (List.mem_of_getElem? (i := 12) rfl)
theorem m40_13 : Cond.selects RX12 yX12_nodeOf yX12_nodeOf ∈ wsL_law := wG40 _ (List.mem_of_getElem? (i := 13) rfl)
theorem m40_14 : Cond.code yX12_nodeOf cX12_nodeOf 5 (some .int) ∈ wsL_law := wG40 _ (List.mem_of_getElem? (i := 14) rfl)
theorem m40_15 : Cond.methodLink RX12 328 yX12_meetBehind ∈ wsL_law := wG40 _ (List.mem_of_getElem? (i := 15) rfl)
theorem m40_16 : Cond.instanceMethod yX12_meetBehind ∈ wsL_law := wG40 _ (List.mem_of_getElem? (i := 16) rfl)
theorem m40_17 : Cond.selects RX12 yX12_meetBehind yX12_meetBehind ∈ wsL_law := wG40 _ (List.mem_of_getElem? (i := 17) rfl)
theorem m40_18 : Cond.code yX12_meetBehind cX12_meetBehind 9 (some .boolean) ∈ wsL_law := wG40 _ (List.mem_of_getElem? (i := 18) rfl)
theorem m40_19 : Cond.methodLink RL 77 yX11_alike ∈ wsL_law := wG40 _ (List.mem_of_getElem? (i := 19) rfl)
theorem m40_20 : Cond.instanceMethod yX11_alike ∈ wsL_law := wG40 _ (List.mem_of_getElem? (i := 20) rfl)
theorem m40_21 : Cond.selects RX11 yX11_alike yX11_alike ∈ wsL_law := wG40 _ (List.mem_of_getElem? (i := 21) rfl)
theorem m40_22 : Cond.code yX11_alike cX11_alike 5 (some .int) ∈ wsL_law := wG40 _ (List.mem_of_getElem? (i := 22) rfl)
theorem m40_23 : Cond.methodLink RX11 199 yX11_isAtOnePlace ∈ wsL_law := wG40 _ (List.mem_of_getElem? (i := 23) rfl)
theorem m41_0 : Cond.instanceMethod yX11_isAtOnePlace ∈ wsL_law := wG41 _ (List.mem_of_getElem? (i := 0) rfl)
theorem m41_1 : Cond.selects RX11 yX11_isAtOnePlace yX11_isAtOnePlace ∈ wsL_law := wG41 _ (List.mem_of_getElem? (i := 1) rfl)
theorem m41_2 : Cond.code yX11_isAtOnePlace cX11_isAtOnePlace 4 (some .boolean) ∈ wsL_law := wG41 _ (List.mem_of_getElem? (i := 2) rfl)
theorem m41_3 : Cond.methodLink RX11 248 Lib.Math.max.name ∈ wsL_law := wG41 _ (List.mem_of_getElem? (i := 3) rfl)
theorem m41_4 : Cond.static Lib.Math.max.name ∈ wsL_law := wG41 _ (List.mem_of_getElem? (i := 4) rfl)
theorem m41_5 : Cond.initialized "java/lang/Math" ∈ wsL_law := wG41 _ (List.mem_of_getElem? (i := 5) rfl)
theorem m41_6 : Cond.code Lib.Math.max.name Lib.Math.max.code 2 (some .int) ∈ wsL_law := wG41 _ (List.mem_of_getElem? (i := 6) rfl)
theorem m41_7 : Cond.methodLink RL 80 yX12_alike ∈ wsL_law := wG41 _ (List.mem_of_getElem? (i := 7) rfl)
theorem m41_8 : Cond.instanceMethod yX12_alike ∈ wsL_law := wG41 _ (List.mem_of_getElem? (i := 8) rfl)
theorem m41_9 : Cond.selects RX12 yX12_alike yX12_alike ∈ wsL_law := wG41 _ (List.mem_of_getElem? (i := 9) rfl)
theorem m41_10 : Cond.code yX12_alike cX12_alike 6 (some .int) ∈ wsL_law := wG41 _ (List.mem_of_getElem? (i := 10) rfl)
theorem m41_11 : Cond.methodLink RL 81 yX11_shortest ∈ wsL_law := wG41 _ (List.mem_of_getElem? (i := 11) rfl)
theorem m41_12 : Cond.instanceMethod yX11_shortest ∈ wsL_law := wG41 _ (List.mem_of_getElem? (i := 12) rfl)
theorem m41_13 : Cond.selects RX11 yX11_shortest yX11_shortest ∈ wsL_law := wG41 _ (List.mem_of_getElem? (i := 13) rfl)
theorem m41_14 : Cond.code yX11_shortest cX11_shortest 3 (some .int) ∈ wsL_law := wG41 _ (List.mem_of_getElem? (i := 14) rfl)
theorem m41_15 : Cond.methodLink RX11 203 yX11_lengthsOf ∈ wsL_law := wG41 _ (List.mem_of_getElem? (i := 15) rfl)
theorem m41_16 : Cond.instanceMethod yX11_lengthsOf ∈ wsL_law := wG41 _ (List.mem_of_getElem? (i := 16) rfl)
theorem m41_17 : Cond.selects RX11 yX11_lengthsOf yX11_lengthsOf ∈ wsL_law := wG41 _ (List.mem_of_getElem? (i := 17) rfl)
theorem m41_18 : Cond.code yX11_lengthsOf cX11_lengthsOf 2 (some (.object "NestReaders$Lengths")) ∈ wsL_law := wG41 _ (List.mem_of_getElem? (i := 18) rfl)
theorem m41_19 : Cond.methodLink RX11 207 yX4_held ∈ wsL_law := wG41 _ (List.mem_of_getElem? (i := 19) rfl)
theorem m41_20 : Cond.methodLink RX11 211 yX1_takenByOne ∈ wsL_law := wG41 _ (List.mem_of_getElem? (i := 20) rfl)
theorem m41_21 : Cond.instanceMethod yX1_takenByOne ∈ wsL_law := wG41 _ (List.mem_of_getElem? (i := 21) rfl)
theorem m41_22 : Cond.selects RX1 yX1_takenByOne yX1_takenByOne ∈ wsL_law := wG41 _ (List.mem_of_getElem? (i := 22) rfl)
theorem m41_23 : Cond.code yX1_takenByOne cX1_takenByOne 4 (some .long) ∈ wsL_law := wG41 _ (List.mem_of_getElem? (i := 23) rfl)
theorem m42_0 : Cond.methodLink RX1 56 yX1_codes ∈ wsL_law := wG42 _ (List.mem_of_getElem? (i := 0) rfl)
theorem m42_1 : Cond.methodLink RX1 59 yX5_takesAny ∈ wsL_law := wG42 _ (List.mem_of_getElem? (i := 1) rfl)
theorem m42_2 : Cond.methodLink RX11 215 yX2_least ∈ wsL_law := wG42 _ (List.mem_of_getElem? (i := 2) rfl)
theorem m42_3 : Cond.instanceMethod yX2_least ∈ wsL_law := wG42 _ (List.mem_of_getElem? (i := 3) rfl)
theorem m42_4 : Cond.selects RX2 yX2_least yX2_least ∈ wsL_law := wG42 _ (List.mem_of_getElem? (i := 4) rfl)
theorem m42_5 : Cond.code yX2_least cX2_least 5 (some .int) ∈ wsL_law := wG42 _ (List.mem_of_getElem? (i := 5) rfl)
theorem m42_6 : Cond.constant RX2 51 (1000000000) ∈ wsL_law := wG42 _ (List.mem_of_getElem? (i := 6) rfl)
theorem m42_7 : Cond.methodLink RX2 52 Lib.Math.min.name ∈ wsL_law := wG42 _ (List.mem_of_getElem? (i := 7) rfl)
theorem m42_8 : Cond.static Lib.Math.min.name ∈ wsL_law := wG42 _ (List.mem_of_getElem? (i := 8) rfl)
theorem m42_9 : Cond.code Lib.Math.min.name Lib.Math.min.code 2 (some .int) ∈ wsL_law := wG42 _ (List.mem_of_getElem? (i := 9) rfl)
theorem m42_10 : Cond.methodLink RX2 48 yX2_refresh ∈ wsL_law := wG42 _ (List.mem_of_getElem? (i := 10) rfl)
theorem m42_11 : Cond.instanceMethod yX2_refresh ∈ wsL_law := wG42 _ (List.mem_of_getElem? (i := 11) rfl)
theorem m42_12 : Cond.selects RX2 yX2_refresh yX2_refresh ∈ wsL_law := wG42 _ (List.mem_of_getElem? (i := 12) rfl)
theorem m42_13 : Cond.code yX2_refresh cX2_refresh 3 none ∈ wsL_law := wG42 _ (List.mem_of_getElem? (i := 13) rfl)
theorem m42_14 : Cond.methodLink RX2 58 yX4_edition ∈ wsL_law := wG42 _ (List.mem_of_getElem? (i := 14) rfl)
theorem m42_15 : Cond.instanceMethod yX4_edition ∈ wsL_law := wG42 _ (List.mem_of_getElem? (i := 15) rfl)
theorem m42_16 : Cond.selects RX4 yX4_edition yX4_edition ∈ wsL_law := wG42 _ (List.mem_of_getElem? (i := 16) rfl)
theorem m42_17 : Cond.code yX4_edition cX4_edition 1 (some .int) ∈ wsL_law := wG42 _ (List.mem_of_getElem? (i := 17) rfl)
theorem m42_18 : Cond.methodLink RX2 60 yX2_setAllFar ∈ wsL_law := wG42 _ (List.mem_of_getElem? (i := 18) rfl)
theorem m42_19 : Cond.instanceMethod yX2_setAllFar ∈ wsL_law := wG42 _ (List.mem_of_getElem? (i := 19) rfl)
theorem m42_20 : Cond.selects RX2 yX2_setAllFar yX2_setAllFar ∈ wsL_law := wG42 _ (List.mem_of_getElem? (i := 20) rfl)
theorem m42_21 : Cond.code yX2_setAllFar cX2_setAllFar 2 none ∈ wsL_law := wG42 _ (List.mem_of_getElem? (i := 21) rfl)
theorem m42_22 : Cond.methodLink RX2 63 yX4_wholes ∈ wsL_law := wG42 _ (List.mem_of_getElem? (i := 22) rfl)
theorem m42_23 : Cond.instanceMethod yX4_wholes ∈ wsL_law := wG42 _ (List.mem_of_getElem? (i := 23) rfl)
theorem m43_0 : Cond.selects RX4 yX4_wholes yX4_wholes ∈ wsL_law := wG43 _ (List.mem_of_getElem? (i := 0) rfl)
theorem m43_1 : Cond.code yX4_wholes cX4_wholes 1 (some (.object "NestReaders$Wholes")) ∈ wsL_law := wG43 _ (List.mem_of_getElem? (i := 1) rfl)
theorem m43_2 : Cond.methodLink RX2 67 yX2_shorten ∈ wsL_law := wG43 _ (List.mem_of_getElem? (i := 2) rfl)
theorem m43_3 : Cond.instanceMethod yX2_shorten ∈ wsL_law := wG43 _ (List.mem_of_getElem? (i := 3) rfl)
theorem m43_4 : Cond.selects RX2 yX2_shorten yX2_shorten ∈ wsL_law := wG43 _ (List.mem_of_getElem? (i := 4) rfl)
theorem m43_5 : Cond.code yX2_shorten cX2_shorten 4 none ∈ wsL_law := wG43 _ (List.mem_of_getElem? (i := 5) rfl)
theorem m43_6 : Cond.methodLink RX2 71 yX10_stepOfPlain ∈ wsL_law := wG43 _ (List.mem_of_getElem? (i := 6) rfl)
theorem m43_7 : Cond.instanceMethod yX10_stepOfPlain ∈ wsL_law := wG43 _ (List.mem_of_getElem? (i := 7) rfl)
theorem m43_8 : Cond.selects RX10 yX10_stepOfPlain yX10_stepOfPlain ∈ wsL_law := wG43 _ (List.mem_of_getElem? (i := 8) rfl)
theorem m43_9 : Cond.code yX10_stepOfPlain cX10_stepOfPlain 2 (some .int) ∈ wsL_law := wG43 _ (List.mem_of_getElem? (i := 9) rfl)
theorem m43_10 : Cond.methodLink RX10 48 yX5_isPlain ∈ wsL_law := wG43 _ (List.mem_of_getElem? (i := 10) rfl)
theorem m43_11 : Cond.methodLink RX2 77 yX2_shortenWholes ∈ wsL_law := wG43 _ (List.mem_of_getElem? (i := 11) rfl)
theorem m43_12 : Cond.instanceMethod yX2_shortenWholes ∈ wsL_law := wG43 _ (List.mem_of_getElem? (i := 12) rfl)
theorem m43_13 : Cond.selects RX2 yX2_shortenWholes yX2_shortenWholes ∈ wsL_law := wG43 _ (List.mem_of_getElem? (i := 13) rfl)
theorem m43_14 : Cond.code yX2_shortenWholes cX2_shortenWholes 4 none ∈ wsL_law := wG43 _ (List.mem_of_getElem? (i := 14) rfl)
theorem m43_15 : Cond.methodLink RX2 87 yX10_size ∈ wsL_law := wG43 _ (List.mem_of_getElem? (i := 15) rfl)
theorem m43_16 : Cond.methodLink RX2 90 yX10_stepAround ∈ wsL_law := wG43 _ (List.mem_of_getElem? (i := 16) rfl)
theorem m43_17 : Cond.instanceMethod yX10_stepAround ∈ wsL_law := wG43 _ (List.mem_of_getElem? (i := 17) rfl)
theorem m43_18 : Cond.selects RX10 yX10_stepAround yX10_stepAround ∈ wsL_law := wG43 _ (List.mem_of_getElem? (i := 18) rfl)
theorem m43_19 : Cond.code yX10_stepAround cX10_stepAround 3 (some .int) ∈ wsL_law := wG43 _ (List.mem_of_getElem? (i := 19) rfl)
theorem m43_20 : Cond.methodLink RX2 93 yX10_steps ∈ wsL_law := wG43 _ (List.mem_of_getElem? (i := 20) rfl)
theorem m43_21 : Cond.instanceMethod yX10_steps ∈ wsL_law := wG43 _ (List.mem_of_getElem? (i := 21) rfl)
theorem m43_22 : Cond.selects RX10 yX10_steps yX10_steps ∈ wsL_law := wG43 _ (List.mem_of_getElem? (i := 22) rfl)
theorem m43_23 : Cond.code yX10_steps cX10_steps 1 (some .int) ∈ wsL_law := wG43 _ (List.mem_of_getElem? (i := 23) rfl)
theorem m44_0 : Cond.methodLink RX2 96 yX10_after ∈ wsL_law := wG44 _ (List.mem_of_getElem? (i := 0) rfl)
theorem m44_1 : Cond.instanceMethod yX10_after ∈ wsL_law := wG44 _ (List.mem_of_getElem? (i := 1) rfl)
theorem m44_2 : Cond.selects RX10 yX10_after yX10_after ∈ wsL_law := wG44 _ (List.mem_of_getElem? (i := 2) rfl)
theorem m44_3 : Cond.code yX10_after cX10_after 4 (some .int) ∈ wsL_law := wG44 _ (List.mem_of_getElem? (i := 3) rfl)
theorem m44_4 : Cond.methodLink RX2 81 yX1_beginning ∈ wsL_law := wG44 _ (List.mem_of_getElem? (i := 4) rfl)
theorem m44_5 : Cond.methodLink RX2 84 yX2_shortenCodes ∈ wsL_law := wG44 _ (List.mem_of_getElem? (i := 5) rfl)
theorem m44_6 : Cond.instanceMethod yX2_shortenCodes ∈ wsL_law := wG44 _ (List.mem_of_getElem? (i := 6) rfl)
theorem m44_7 : Cond.selects RX2 yX2_shortenCodes yX2_shortenCodes ∈ wsL_law := wG44 _ (List.mem_of_getElem? (i := 7) rfl)
theorem m44_8 : Cond.code yX2_shortenCodes cX2_shortenCodes 7 none ∈ wsL_law := wG44 _ (List.mem_of_getElem? (i := 8) rfl)
theorem m44_9 : Cond.methodLink RX2 99 yX10_wholeOfStep ∈ wsL_law := wG44 _ (List.mem_of_getElem? (i := 9) rfl)
theorem m44_10 : Cond.instanceMethod yX10_wholeOfStep ∈ wsL_law := wG44 _ (List.mem_of_getElem? (i := 10) rfl)
theorem m44_11 : Cond.selects RX10 yX10_wholeOfStep yX10_wholeOfStep ∈ wsL_law := wG44 _ (List.mem_of_getElem? (i := 11) rfl)
theorem m44_12 : Cond.code yX10_wholeOfStep cX10_wholeOfStep 2 (some .int) ∈ wsL_law := wG44 _ (List.mem_of_getElem? (i := 12) rfl)
theorem m44_13 : Cond.methodLink RX2 102 yX4_image ∈ wsL_law := wG44 _ (List.mem_of_getElem? (i := 13) rfl)
theorem m44_14 : Cond.methodLink RX2 105 yX1_alone ∈ wsL_law := wG44 _ (List.mem_of_getElem? (i := 14) rfl)
theorem m44_15 : Cond.methodLink RL 84 yX12_shortest ∈ wsL_law := wG44 _ (List.mem_of_getElem? (i := 15) rfl)
theorem m44_16 : Cond.instanceMethod yX12_shortest ∈ wsL_law := wG44 _ (List.mem_of_getElem? (i := 16) rfl)
theorem m44_17 : Cond.selects RX12 yX12_shortest yX12_shortest ∈ wsL_law := wG44 _ (List.mem_of_getElem? (i := 17) rfl)
theorem m44_18 : Cond.code yX12_shortest cX12_shortest 2 (some .int) ∈ wsL_law := wG44 _ (List.mem_of_getElem? (i := 18) rfl)
theorem m44_19 : Cond.methodLink RX12 337 yX12_shortestOf ∈ wsL_law := wG44 _ (List.mem_of_getElem? (i := 19) rfl)
theorem m44_20 : Cond.instanceMethod yX12_shortestOf ∈ wsL_law := wG44 _ (List.mem_of_getElem? (i := 20) rfl)
theorem m44_21 : Cond.selects RX12 yX12_shortestOf yX12_shortestOf ∈ wsL_law := wG44 _ (List.mem_of_getElem? (i := 21) rfl)
theorem m44_22 : Cond.code yX12_shortestOf cX12_shortestOf 4 (some .int) ∈ wsL_law := wG44 _ (List.mem_of_getElem? (i := 22) rfl)
theorem m44_23 : Cond.methodLink RX12 334 yX12_isSought ∈ wsL_law := wG44 _ (List.mem_of_getElem? (i := 23) rfl)
theorem m45_0 : Cond.instanceMethod yX12_isSought ∈ wsL_law := wG45 _ (List.mem_of_getElem? (i := 0) rfl)
theorem m45_1 : Cond.selects RX12 yX12_isSought yX12_isSought ∈ wsL_law := wG45 _ (List.mem_of_getElem? (i := 1) rfl)
theorem m45_2 : Cond.code yX12_isSought cX12_isSought 5 (some .boolean) ∈ wsL_law := wG45 _ (List.mem_of_getElem? (i := 2) rfl)
theorem m45_3 : Cond.methodLink RL 85 yX11_first ∈ wsL_law := wG45 _ (List.mem_of_getElem? (i := 3) rfl)
theorem m45_4 : Cond.instanceMethod yX11_first ∈ wsL_law := wG45 _ (List.mem_of_getElem? (i := 4) rfl)
theorem m45_5 : Cond.selects RX11 yX11_first yX11_first ∈ wsL_law := wG45 _ (List.mem_of_getElem? (i := 5) rfl)
theorem m45_6 : Cond.code yX11_first cX11_first 5 (some .int) ∈ wsL_law := wG45 _ (List.mem_of_getElem? (i := 6) rfl)
theorem m45_7 : Cond.methodLink RX11 219 yX11_listingOf ∈ wsL_law := wG45 _ (List.mem_of_getElem? (i := 7) rfl)
theorem m45_8 : Cond.instanceMethod yX11_listingOf ∈ wsL_law := wG45 _ (List.mem_of_getElem? (i := 8) rfl)
theorem m45_9 : Cond.selects RX11 yX11_listingOf yX11_listingOf ∈ wsL_law := wG45 _ (List.mem_of_getElem? (i := 9) rfl)
theorem m45_10 : Cond.code yX11_listingOf cX11_listingOf 2 (some (.object "NestReaders$Listing")) ∈ wsL_law := wG45 _ (List.mem_of_getElem? (i := 10) rfl)
theorem m45_11 : Cond.methodLink RX11 223 yX3_letterAt ∈ wsL_law := wG45 _ (List.mem_of_getElem? (i := 11) rfl)
theorem m45_12 : Cond.instanceMethod yX3_letterAt ∈ wsL_law := wG45 _ (List.mem_of_getElem? (i := 12) rfl)
theorem m45_13 : Cond.selects RX3 yX3_letterAt yX3_letterAt ∈ wsL_law := wG45 _ (List.mem_of_getElem? (i := 13) rfl)
theorem m45_14 : Cond.code yX3_letterAt cX3_letterAt 6 (some .int) ∈ wsL_law := wG45 _ (List.mem_of_getElem? (i := 14) rfl)
theorem m45_15 : Cond.methodLink RX3 41 yX3_forgetIfChanged ∈ wsL_law := wG45 _ (List.mem_of_getElem? (i := 15) rfl)
theorem m45_16 : Cond.instanceMethod yX3_forgetIfChanged ∈ wsL_law := wG45 _ (List.mem_of_getElem? (i := 16) rfl)
theorem m45_17 : Cond.selects RX3 yX3_forgetIfChanged yX3_forgetIfChanged ∈ wsL_law := wG45 _ (List.mem_of_getElem? (i := 17) rfl)
theorem m45_18 : Cond.code yX3_forgetIfChanged cX3_forgetIfChanged 2 none ∈ wsL_law := wG45 _ (List.mem_of_getElem? (i := 18) rfl)
theorem m45_19 : Cond.methodLink RX3 60 yX5_changes ∈ wsL_law := wG45 _ (List.mem_of_getElem? (i := 19) rfl)
theorem m45_20 : Cond.methodLink RX3 44 yX6_cut ∈ wsL_law := wG45 _ (List.mem_of_getElem? (i := 20) rfl)
theorem m45_21 : Cond.methodLink RX3 48 yX9_begin ∈ wsL_law := wG45 _ (List.mem_of_getElem? (i := 21) rfl)
theorem m45_22 : Cond.methodLink RX3 52 yX3_grow ∈ wsL_law := wG45 _ (List.mem_of_getElem? (i := 22) rfl)
theorem m45_23 : Cond.static yX3_grow ∈ wsL_law := wG45 _ (List.mem_of_getElem? (i := 23) rfl)
theorem m46_0 : Cond.code yX3_grow cX3_grow 6 none ∈ wsL_law := wG46 _ (List.mem_of_getElem? (i := 0) rfl)
theorem m46_1 : Cond.methodLink RX3 66 yX9_comeAt ∈ wsL_law := wG46 _ (List.mem_of_getElem? (i := 1) rfl)
theorem m46_2 : Cond.methodLink RX3 70 yX5_takesAny ∈ wsL_law := wG46 _ (List.mem_of_getElem? (i := 2) rfl)
theorem m46_3 : Cond.methodLink RX3 74 yX3_keep ∈ wsL_law := wG46 _ (List.mem_of_getElem? (i := 3) rfl)
theorem m46_4 : Cond.instanceMethod yX3_keep ∈ wsL_law := wG46 _ (List.mem_of_getElem? (i := 4) rfl)
theorem m46_5 : Cond.selects RX3 yX3_keep yX3_keep ∈ wsL_law := wG46 _ (List.mem_of_getElem? (i := 5) rfl)
theorem m46_6 : Cond.code yX3_keep cX3_keep 4 none ∈ wsL_law := wG46 _ (List.mem_of_getElem? (i := 6) rfl)
theorem m46_7 : Cond.fieldLink RX3 85 "NestReaders$Listing" "BEGIN" "[I" ∈ wsL_law := wG46 _ (List.mem_of_getElem? (i := 7) rfl)
theorem m46_8 : Cond.methodLink RX3 78 yX6_append ∈ wsL_law := wG46 _ (List.mem_of_getElem? (i := 8) rfl)
theorem m46_9 : Cond.methodLink RX3 81 yX9_step ∈ wsL_law := wG46 _ (List.mem_of_getElem? (i := 9) rfl)
theorem m46_10 : Cond.methodLink RX3 56 yX3_numberOf ∈ wsL_law := wG46 _ (List.mem_of_getElem? (i := 10) rfl)
theorem m46_11 : Cond.instanceMethod yX3_numberOf ∈ wsL_law := wG46 _ (List.mem_of_getElem? (i := 11) rfl)
theorem m46_12 : Cond.selects RX3 yX3_numberOf yX3_numberOf ∈ wsL_law := wG46 _ (List.mem_of_getElem? (i := 12) rfl)
theorem m46_13 : Cond.code yX3_numberOf cX3_numberOf 7 (some .int) ∈ wsL_law := wG46 _ (List.mem_of_getElem? (i := 13) rfl)
theorem m46_14 : Cond.methodLink RX3 89 yJ13_bitCount_95d88 ∈ wsL_law := wG46 _ (List.mem_of_getElem? (i := 14) rfl)
theorem m46_15 : Cond.methodLink RX3 95 yX3_placeOf ∈ wsL_law := wG46 _ (List.mem_of_getElem? (i := 15) rfl)
theorem m46_16 : Cond.static yX3_placeOf ∈ wsL_law := wG46 _ (List.mem_of_getElem? (i := 16) rfl)
theorem m46_17 : Cond.code yX3_placeOf cX3_placeOf 5 (some .int) ∈ wsL_law := wG46 _ (List.mem_of_getElem? (i := 17) rfl)
theorem m46_18 : Cond.methodLink RL 89 yX12_first ∈ wsL_law := wG46 _ (List.mem_of_getElem? (i := 18) rfl)
theorem m46_19 : Cond.instanceMethod yX12_first ∈ wsL_law := wG46 _ (List.mem_of_getElem? (i := 19) rfl)
theorem m46_20 : Cond.selects RX12 yX12_first yX12_first ∈ wsL_law := wG46 _ (List.mem_of_getElem? (i := 20) rfl)
theorem m46_21 : Cond.code yX12_first cX12_first 4 (some .int) ∈ wsL_law := wG46 _ (List.mem_of_getElem? (i := 21) rfl)
theorem m46_22 : Cond.methodLink RX12 343 yX12_letterOf ∈ wsL_law := wG46 _ (List.mem_of_getElem? (i := 22) rfl)
theorem m46_23 : Cond.instanceMethod yX12_letterOf ∈ wsL_law := wG46 _ (List.mem_of_getElem? (i := 23) rfl)
theorem m47_0 : Cond.selects RX12 yX12_letterOf yX12_letterOf ∈ wsL_law := wG47 _ (List.mem_of_getElem? (i := 0) rfl)
theorem m47_1 : Cond.code yX12_letterOf cX12_letterOf 8 (some .int) ∈ wsL_law := wG47 _ (List.mem_of_getElem? (i := 1) rfl)
theorem m47_2 : Cond.methodLink RX12 340 yX12_isTaken ∈ wsL_law := wG47 _ (List.mem_of_getElem? (i := 2) rfl)
theorem m47_3 : Cond.instanceMethod yX12_isTaken ∈ wsL_law := wG47 _ (List.mem_of_getElem? (i := 3) rfl)
theorem m47_4 : Cond.selects RX12 yX12_isTaken yX12_isTaken ∈ wsL_law := wG47 _ (List.mem_of_getElem? (i := 4) rfl)
theorem m47_5 : Cond.code yX12_isTaken cX12_isTaken 6 (some .boolean) ∈ wsL_law := wG47 _ (List.mem_of_getElem? (i := 5) rfl)
theorem m47_6 : Cond.methodLink RL 90 yX11_many ∈ wsL_law := wG47 _ (List.mem_of_getElem? (i := 6) rfl)
theorem m47_7 : Cond.instanceMethod yX11_many ∈ wsL_law := wG47 _ (List.mem_of_getElem? (i := 7) rfl)
theorem m47_8 : Cond.selects RX11 yX11_many yX11_many ∈ wsL_law := wG47 _ (List.mem_of_getElem? (i := 8) rfl)
theorem m47_9 : Cond.code yX11_many cX11_many 5 (some .int) ∈ wsL_law := wG47 _ (List.mem_of_getElem? (i := 9) rfl)
theorem m47_10 : Cond.methodLink RX11 227 yX0_rowsWithin ∈ wsL_law := wG47 _ (List.mem_of_getElem? (i := 10) rfl)
theorem m47_11 : Cond.instanceMethod yX0_rowsWithin ∈ wsL_law := wG47 _ (List.mem_of_getElem? (i := 11) rfl)
theorem m47_12 : Cond.selects RX0 yX0_rowsWithin yX0_rowsWithin ∈ wsL_law := wG47 _ (List.mem_of_getElem? (i := 12) rfl)
theorem m47_13 : Cond.code yX0_rowsWithin cX0_rowsWithin 7 (some .int) ∈ wsL_law := wG47 _ (List.mem_of_getElem? (i := 13) rfl)
theorem m47_14 : Cond.constantLong RX0 56 (1000000007) ∈ wsL_law := wG47 _ (List.mem_of_getElem? (i := 14) rfl)
theorem m47_15 : Cond.methodLink RX0 49 yX0_refresh ∈ wsL_law := wG47 _ (List.mem_of_getElem? (i := 15) rfl)
theorem m47_16 : Cond.instanceMethod yX0_refresh ∈ wsL_law := wG47 _ (List.mem_of_getElem? (i := 16) rfl)
theorem m47_17 : Cond.selects RX0 yX0_refresh yX0_refresh ∈ wsL_law := wG47 _ (List.mem_of_getElem? (i := 17) rfl)
theorem m47_18 : Cond.code yX0_refresh cX0_refresh 1 none ∈ wsL_law := wG47 _ (List.mem_of_getElem? (i := 18) rfl)
theorem m47_19 : Cond.methodLink RX0 58 yX4_edition ∈ wsL_law := wG47 _ (List.mem_of_getElem? (i := 19) rfl)
theorem m47_20 : Cond.methodLink RX0 60 yX0_clearLine ∈ wsL_law := wG47 _ (List.mem_of_getElem? (i := 20) rfl)
theorem m47_21 : Cond.instanceMethod yX0_clearLine ∈ wsL_law := wG47 _ (List.mem_of_getElem? (i := 21) rfl)
theorem m47_22 : Cond.selects RX0 yX0_clearLine yX0_clearLine ∈ wsL_law := wG47 _ (List.mem_of_getElem? (i := 22) rfl)
theorem m47_23 : Cond.code yX0_clearLine cX0_clearLine 3 none ∈ wsL_law := wG47 _ (List.mem_of_getElem? (i := 23) rfl)
theorem m48_0 : Cond.methodLink RX0 63 yX0_add ∈ wsL_law := wG48 _ (List.mem_of_getElem? (i := 0) rfl)
theorem m48_1 : Cond.static yX0_add ∈ wsL_law := wG48 _ (List.mem_of_getElem? (i := 1) rfl)
theorem m48_2 : Cond.code yX0_add cX0_add 4 none ∈ wsL_law := wG48 _ (List.mem_of_getElem? (i := 2) rfl)
theorem m48_3 : Cond.methodLink RX0 67 yX1_beginning ∈ wsL_law := wG48 _ (List.mem_of_getElem? (i := 3) rfl)
theorem m48_4 : Cond.methodLink RX0 52 yX0_extend ∈ wsL_law := wG48 _ (List.mem_of_getElem? (i := 4) rfl)
theorem m48_5 : Cond.instanceMethod yX0_extend ∈ wsL_law := wG48 _ (List.mem_of_getElem? (i := 5) rfl)
theorem m48_6 : Cond.selects RX0 yX0_extend yX0_extend ∈ wsL_law := wG48 _ (List.mem_of_getElem? (i := 6) rfl)
theorem m48_7 : Cond.code yX0_extend cX0_extend 3 none ∈ wsL_law := wG48 _ (List.mem_of_getElem? (i := 7) rfl)
theorem m48_8 : Cond.methodLink RX0 70 yX4_wholes ∈ wsL_law := wG48 _ (List.mem_of_getElem? (i := 8) rfl)
theorem m48_9 : Cond.methodLink RX0 74 yX0_countSteps ∈ wsL_law := wG48 _ (List.mem_of_getElem? (i := 9) rfl)
theorem m48_10 : Cond.instanceMethod yX0_countSteps ∈ wsL_law := wG48 _ (List.mem_of_getElem? (i := 10) rfl)
theorem m48_11 : Cond.selects RX0 yX0_countSteps yX0_countSteps ∈ wsL_law := wG48 _ (List.mem_of_getElem? (i := 11) rfl)
theorem m48_12 : Cond.code yX0_countSteps cX0_countSteps 6 none ∈ wsL_law := wG48 _ (List.mem_of_getElem? (i := 12) rfl)
theorem m48_13 : Cond.methodLink RX0 89 yX10_stepOfPlain ∈ wsL_law := wG48 _ (List.mem_of_getElem? (i := 13) rfl)
theorem m48_14 : Cond.methodLink RX0 95 yX10_size ∈ wsL_law := wG48 _ (List.mem_of_getElem? (i := 14) rfl)
theorem m48_15 : Cond.methodLink RX0 98 yX10_stepAround ∈ wsL_law := wG48 _ (List.mem_of_getElem? (i := 15) rfl)
theorem m48_16 : Cond.methodLink RX0 78 yX0_addWholes ∈ wsL_law := wG48 _ (List.mem_of_getElem? (i := 16) rfl)
theorem m48_17 : Cond.instanceMethod yX0_addWholes ∈ wsL_law := wG48 _ (List.mem_of_getElem? (i := 17) rfl)
theorem m48_18 : Cond.selects RX0 yX0_addWholes yX0_addWholes ∈ wsL_law := wG48 _ (List.mem_of_getElem? (i := 18) rfl)
theorem m48_19 : Cond.code yX0_addWholes cX0_addWholes 11 none ∈ wsL_law := wG48 _ (List.mem_of_getElem? (i := 19) rfl)
theorem m48_20 : Cond.methodLink RX0 102 yX10_steps ∈ wsL_law := wG48 _ (List.mem_of_getElem? (i := 20) rfl)
theorem m48_21 : Cond.methodLink RX0 105 yX10_after ∈ wsL_law := wG48 _ (List.mem_of_getElem? (i := 21) rfl)
theorem m48_22 : Cond.methodLink RX0 82 yX0_addCodes ∈ wsL_law := wG48 _ (List.mem_of_getElem? (i := 22) rfl)
theorem m48_23 : Cond.instanceMethod yX0_addCodes ∈ wsL_law := wG48 _ (List.mem_of_getElem? (i := 23) rfl)
theorem m49_0 : Cond.selects RX0 yX0_addCodes yX0_addCodes ∈ wsL_law := wG49 _ (List.mem_of_getElem? (i := 0) rfl)
theorem m49_1 : Cond.code yX0_addCodes cX0_addCodes 12 none ∈ wsL_law := wG49 _ (List.mem_of_getElem? (i := 1) rfl)
theorem m49_2 : Cond.methodLink RX0 108 yX10_wholeOfStep ∈ wsL_law := wG49 _ (List.mem_of_getElem? (i := 2) rfl)
theorem m49_3 : Cond.methodLink RX0 111 yX4_image ∈ wsL_law := wG49 _ (List.mem_of_getElem? (i := 3) rfl)
theorem m49_4 : Cond.methodLink RX0 86 yX0_addHalfOpen ∈ wsL_law := wG49 _ (List.mem_of_getElem? (i := 4) rfl)
theorem m49_5 : Cond.instanceMethod yX0_addHalfOpen ∈ wsL_law := wG49 _ (List.mem_of_getElem? (i := 5) rfl)
theorem m49_6 : Cond.selects RX0 yX0_addHalfOpen yX0_addHalfOpen ∈ wsL_law := wG49 _ (List.mem_of_getElem? (i := 6) rfl)
theorem m49_7 : Cond.code yX0_addHalfOpen cX0_addHalfOpen 10 none ∈ wsL_law := wG49 _ (List.mem_of_getElem? (i := 7) rfl)
theorem m49_8 : Cond.methodLink RX0 114 yX1_alone ∈ wsL_law := wG49 _ (List.mem_of_getElem? (i := 8) rfl)
theorem m49_9 : Cond.methodLink RL 93 yX12_many ∈ wsL_law := wG49 _ (List.mem_of_getElem? (i := 9) rfl)
theorem m49_10 : Cond.instanceMethod yX12_many ∈ wsL_law := wG49 _ (List.mem_of_getElem? (i := 10) rfl)
theorem m49_11 : Cond.selects RX12 yX12_many yX12_many ∈ wsL_law := wG49 _ (List.mem_of_getElem? (i := 11) rfl)
theorem m49_12 : Cond.code yX12_many cX12_many 6 (some .int) ∈ wsL_law := wG49 _ (List.mem_of_getElem? (i := 12) rfl)
theorem m49_13 : Cond.methodLink RX12 364 yX12_countWholes ∈ wsL_law := wG49 _ (List.mem_of_getElem? (i := 13) rfl)
theorem m49_14 : Cond.instanceMethod yX12_countWholes ∈ wsL_law := wG49 _ (List.mem_of_getElem? (i := 14) rfl)
theorem m49_15 : Cond.selects RX12 yX12_countWholes yX12_countWholes ∈ wsL_law := wG49 _ (List.mem_of_getElem? (i := 15) rfl)
theorem m49_16 : Cond.code yX12_countWholes cX12_countWholes 9 none ∈ wsL_law := wG49 _ (List.mem_of_getElem? (i := 16) rfl)
theorem m49_17 : Cond.methodLink RX12 346 yX12_wholeOf ∈ wsL_law := wG49 _ (List.mem_of_getElem? (i := 17) rfl)
theorem m49_18 : Cond.instanceMethod yX12_wholeOf ∈ wsL_law := wG49 _ (List.mem_of_getElem? (i := 18) rfl)
theorem m49_19 : Cond.selects RX12 yX12_wholeOf yX12_wholeOf ∈ wsL_law := wG49 _ (List.mem_of_getElem? (i := 19) rfl)
theorem m49_20 : Cond.code yX12_wholeOf cX12_wholeOf 4 (some .int) ∈ wsL_law := wG49 _ (List.mem_of_getElem? (i := 20) rfl)
theorem m49_21 : Cond.methodLink RX12 349 yX12_countBlocks ∈ wsL_law := wG49 _ (List.mem_of_getElem? (i := 21) rfl)
theorem m49_22 : Cond.instanceMethod yX12_countBlocks ∈ wsL_law := wG49 _ (List.mem_of_getElem? (i := 22) rfl)
theorem m49_23 : Cond.selects RX12 yX12_countBlocks yX12_countBlocks ∈ wsL_law := wG49 _ (List.mem_of_getElem? (i := 23) rfl)
theorem m50_0 : Cond.code yX12_countBlocks cX12_countBlocks 11 none ∈ wsL_law := wG50 _ (List.mem_of_getElem? (i := 0) rfl)
theorem m50_1 : Cond.methodLink RX12 367 yX12_countNodes ∈ wsL_law := wG50 _ (List.mem_of_getElem? (i := 1) rfl)
theorem m50_2 : Cond.instanceMethod yX12_countNodes ∈ wsL_law := wG50 _ (List.mem_of_getElem? (i := 2) rfl)
theorem m50_3 : Cond.selects RX12 yX12_countNodes yX12_countNodes ∈ wsL_law := wG50 _ (List.mem_of_getElem? (i := 3) rfl)
theorem m50_4 : Cond.code yX12_countNodes cX12_countNodes 7 none ∈ wsL_law := wG50 _ (List.mem_of_getElem? (i := 4) rfl)
theorem m50_5 : Cond.methodLink RX12 353 yX12_findBlocks ∈ wsL_law := wG50 _ (List.mem_of_getElem? (i := 5) rfl)
theorem m50_6 : Cond.instanceMethod yX12_findBlocks ∈ wsL_law := wG50 _ (List.mem_of_getElem? (i := 6) rfl)
theorem m50_7 : Cond.selects RX12 yX12_findBlocks yX12_findBlocks ∈ wsL_law := wG50 _ (List.mem_of_getElem? (i := 7) rfl)
theorem m50_8 : Cond.code yX12_findBlocks cX12_findBlocks 5 none ∈ wsL_law := wG50 _ (List.mem_of_getElem? (i := 8) rfl)
theorem m50_9 : Cond.methodLink RX12 356 yX12_countBehind ∈ wsL_law := wG50 _ (List.mem_of_getElem? (i := 9) rfl)
theorem m50_10 : Cond.instanceMethod yX12_countBehind ∈ wsL_law := wG50 _ (List.mem_of_getElem? (i := 10) rfl)
theorem m50_11 : Cond.selects RX12 yX12_countBehind yX12_countBehind ∈ wsL_law := wG50 _ (List.mem_of_getElem? (i := 11) rfl)
theorem m50_12 : Cond.code yX12_countBehind cX12_countBehind 15 none ∈ wsL_law := wG50 _ (List.mem_of_getElem? (i := 12) rfl)
theorem m50_13 : Cond.methodLink RX12 360 yX12_addNode ∈ wsL_law := wG50 _ (List.mem_of_getElem? (i := 13) rfl)
theorem m50_14 : Cond.instanceMethod yX12_addNode ∈ wsL_law := wG50 _ (List.mem_of_getElem? (i := 14) rfl)
theorem m50_15 : Cond.selects RX12 yX12_addNode yX12_addNode ∈ wsL_law := wG50 _ (List.mem_of_getElem? (i := 15) rfl)
theorem m50_16 : Cond.code yX12_addNode cX12_addNode 9 none ∈ wsL_law := wG50 _ (List.mem_of_getElem? (i := 16) rfl)
theorem m50_17 : Cond.methodLink RL 94 yX11_of ∈ wsL_law := wG50 _ (List.mem_of_getElem? (i := 17) rfl)
theorem m50_18 : Cond.instanceMethod yX11_of ∈ wsL_law := wG50 _ (List.mem_of_getElem? (i := 18) rfl)
theorem m50_19 : Cond.selects RX11 yX11_of yX11_of ∈ wsL_law := wG50 _ (List.mem_of_getElem? (i := 19) rfl)
theorem m50_20 : Cond.code yX11_of cX11_of 5 (some .int) ∈ wsL_law := wG50 _ (List.mem_of_getElem? (i := 20) rfl)
theorem m50_21 : Cond.methodLink RL 97 yX12_of ∈ wsL_law := wG50 _ (List.mem_of_getElem? (i := 21) rfl)
theorem m50_22 : Cond.instanceMethod yX12_of ∈ wsL_law := wG50 _ (List.mem_of_getElem? (i := 22) rfl)
theorem m50_23 : Cond.selects RX12 yX12_of yX12_of ∈ wsL_law := wG50 _ (List.mem_of_getElem? (i := 23) rfl)
theorem m51_0 : Cond.code yX12_of cX12_of 5 (some .int) ∈ wsL_law := wG51 _ (List.mem_of_getElem? (i := 0) rfl)
theorem m51_1 : Cond.methodLink RL 98 yX11_watch ∈ wsL_law := wG51 _ (List.mem_of_getElem? (i := 1) rfl)
theorem m51_2 : Cond.instanceMethod yX11_watch ∈ wsL_law := wG51 _ (List.mem_of_getElem? (i := 2) rfl)
theorem m51_3 : Cond.selects RX11 yX11_watch yX11_watch ∈ wsL_law := wG51 _ (List.mem_of_getElem? (i := 3) rfl)
theorem m51_4 : Cond.code yX11_watch cX11_watch 9 (some .int) ∈ wsL_law := wG51 _ (List.mem_of_getElem? (i := 4) rfl)
theorem m51_5 : Cond.constantLong RX11 234 (-1) ∈ wsL_law := wG51 _ (List.mem_of_getElem? (i := 5) rfl)
theorem m51_6 : Cond.methodLink RX11 230 yX4_codesAhead ∈ wsL_law := wG51 _ (List.mem_of_getElem? (i := 6) rfl)
theorem m51_7 : Cond.instanceMethod yX4_codesAhead ∈ wsL_law := wG51 _ (List.mem_of_getElem? (i := 7) rfl)
theorem m51_8 : Cond.selects RX4 yX4_codesAhead yX4_codesAhead ∈ wsL_law := wG51 _ (List.mem_of_getElem? (i := 8) rfl)
theorem m51_9 : Cond.code yX4_codesAhead cX4_codesAhead 13 (some .long) ∈ wsL_law := wG51 _ (List.mem_of_getElem? (i := 9) rfl)
theorem m51_10 : Cond.methodLink RX4 82 yX9_sinceAt ∈ wsL_law := wG51 _ (List.mem_of_getElem? (i := 10) rfl)
theorem m51_11 : Cond.methodLink RX4 88 yX10_find ∈ wsL_law := wG51 _ (List.mem_of_getElem? (i := 11) rfl)
theorem m51_12 : Cond.instanceMethod yX10_find ∈ wsL_law := wG51 _ (List.mem_of_getElem? (i := 12) rfl)
theorem m51_13 : Cond.selects RX10 yX10_find yX10_find ∈ wsL_law := wG51 _ (List.mem_of_getElem? (i := 13) rfl)
theorem m51_14 : Cond.code yX10_find cX10_find 3 (some .int) ∈ wsL_law := wG51 _ (List.mem_of_getElem? (i := 14) rfl)
theorem m51_15 : Cond.methodLink RX4 91 yX4_bit ∈ wsL_law := wG51 _ (List.mem_of_getElem? (i := 15) rfl)
theorem m51_16 : Cond.static yX4_bit ∈ wsL_law := wG51 _ (List.mem_of_getElem? (i := 16) rfl)
theorem m51_17 : Cond.code yX4_bit cX4_bit 1 (some .long) ∈ wsL_law := wG51 _ (List.mem_of_getElem? (i := 17) rfl)
theorem m51_18 : Cond.methodLink RX4 95 yX10_reached ∈ wsL_law := wG51 _ (List.mem_of_getElem? (i := 18) rfl)
theorem m51_19 : Cond.instanceMethod yX10_reached ∈ wsL_law := wG51 _ (List.mem_of_getElem? (i := 19) rfl)
theorem m51_20 : Cond.selects RX10 yX10_reached yX10_reached ∈ wsL_law := wG51 _ (List.mem_of_getElem? (i := 20) rfl)
theorem m51_21 : Cond.code yX10_reached cX10_reached 9 (some .long) ∈ wsL_law := wG51 _ (List.mem_of_getElem? (i := 21) rfl)
theorem m51_22 : Cond.methodLink RX10 77 yX10_followers ∈ wsL_law := wG51 _ (List.mem_of_getElem? (i := 22) rfl)
theorem m51_23 : Cond.instanceMethod yX10_followers ∈ wsL_law := wG51 _ (List.mem_of_getElem? (i := 23) rfl)
theorem m52_0 : Cond.selects RX10 yX10_followers yX10_followers ∈ wsL_law := wG52 _ (List.mem_of_getElem? (i := 0) rfl)
theorem m52_1 : Cond.code yX10_followers cX10_followers 5 (some .long) ∈ wsL_law := wG52 _ (List.mem_of_getElem? (i := 1) rfl)
theorem m52_2 : Cond.methodLink RX10 84 yX10_after ∈ wsL_law := wG52 _ (List.mem_of_getElem? (i := 2) rfl)
theorem m52_3 : Cond.methodLink RX4 97 yX6_baseAt ∈ wsL_law := wG52 _ (List.mem_of_getElem? (i := 3) rfl)
theorem m52_4 : Cond.methodLink RX4 102 yX9_comeAt ∈ wsL_law := wG52 _ (List.mem_of_getElem? (i := 4) rfl)
theorem m52_5 : Cond.methodLink RX4 105 yX4_codesFrom ∈ wsL_law := wG52 _ (List.mem_of_getElem? (i := 5) rfl)
theorem m52_6 : Cond.instanceMethod yX4_codesFrom ∈ wsL_law := wG52 _ (List.mem_of_getElem? (i := 6) rfl)
theorem m52_7 : Cond.selects RX4 yX4_codesFrom yX4_codesFrom ∈ wsL_law := wG52 _ (List.mem_of_getElem? (i := 7) rfl)
theorem m52_8 : Cond.code yX4_codesFrom cX4_codesFrom 7 (some .long) ∈ wsL_law := wG52 _ (List.mem_of_getElem? (i := 8) rfl)
theorem m52_9 : Cond.methodLink RX4 109 yX6_openAt ∈ wsL_law := wG52 _ (List.mem_of_getElem? (i := 9) rfl)
theorem m52_10 : Cond.methodLink RX4 112 yX6_letterAt ∈ wsL_law := wG52 _ (List.mem_of_getElem? (i := 10) rfl)
theorem m52_11 : Cond.methodLink RX4 115 yX4_closedAround ∈ wsL_law := wG52 _ (List.mem_of_getElem? (i := 11) rfl)
theorem m52_12 : Cond.instanceMethod yX4_closedAround ∈ wsL_law := wG52 _ (List.mem_of_getElem? (i := 12) rfl)
theorem m52_13 : Cond.selects RX4 yX4_closedAround yX4_closedAround ∈ wsL_law := wG52 _ (List.mem_of_getElem? (i := 13) rfl)
theorem m52_14 : Cond.code yX4_closedAround cX4_closedAround 8 (some .long) ∈ wsL_law := wG52 _ (List.mem_of_getElem? (i := 14) rfl)
theorem m52_15 : Cond.methodLink RX4 136 yX10_stepAround ∈ wsL_law := wG52 _ (List.mem_of_getElem? (i := 15) rfl)
theorem m52_16 : Cond.methodLink RX4 139 yX10_after ∈ wsL_law := wG52 _ (List.mem_of_getElem? (i := 16) rfl)
theorem m52_17 : Cond.methodLink RL 101 yX12_watch ∈ wsL_law := wG52 _ (List.mem_of_getElem? (i := 17) rfl)
theorem m52_18 : Cond.instanceMethod yX12_watch ∈ wsL_law := wG52 _ (List.mem_of_getElem? (i := 18) rfl)
theorem m52_19 : Cond.selects RX12 yX12_watch yX12_watch ∈ wsL_law := wG52 _ (List.mem_of_getElem? (i := 19) rfl)
theorem m52_20 : Cond.code yX12_watch cX12_watch 8 (some .int) ∈ wsL_law := wG52 _ (List.mem_of_getElem? (i := 20) rfl)
theorem m52_21 : Cond.fieldLink RX12 370 "NestReadersModel" "listed" "I" ∈ wsL_law := wG52 _ (List.mem_of_getElem? (i := 21) rfl)
theorem m52_22 : Cond.fieldLink RX12 376 "NestReadersModel" "nexts" "I" ∈ wsL_law := wG52 _ (List.mem_of_getElem? (i := 22) rfl)
theorem m52_23 : Cond.methodLink RX12 373 yX12_list ∈ wsL_law := wG52 _ (List.mem_of_getElem? (i := 23) rfl)
theorem m53_0 : Cond.instanceMethod yX12_list ∈ wsL_law := wG53 _ (List.mem_of_getElem? (i := 0) rfl)
theorem m53_1 : Cond.selects RX12 yX12_list yX12_list ∈ wsL_law := wG53 _ (List.mem_of_getElem? (i := 1) rfl)
theorem m53_2 : Cond.code yX12_list cX12_list 5 none ∈ wsL_law := wG53 _ (List.mem_of_getElem? (i := 2) rfl)
theorem m53_3 : Cond.methodLink RX12 379 yX12_widen ∈ wsL_law := wG53 _ (List.mem_of_getElem? (i := 3) rfl)
theorem m53_4 : Cond.instanceMethod yX12_widen ∈ wsL_law := wG53 _ (List.mem_of_getElem? (i := 4) rfl)
theorem m53_5 : Cond.selects RX12 yX12_widen yX12_widen ∈ wsL_law := wG53 _ (List.mem_of_getElem? (i := 5) rfl)
theorem m53_6 : Cond.code yX12_widen cX12_widen 8 none ∈ wsL_law := wG53 _ (List.mem_of_getElem? (i := 6) rfl)
theorem m53_7 : Cond.methodLink RX12 383 yX12_judge ∈ wsL_law := wG53 _ (List.mem_of_getElem? (i := 7) rfl)
theorem m53_8 : Cond.instanceMethod yX12_judge ∈ wsL_law := wG53 _ (List.mem_of_getElem? (i := 8) rfl)
theorem m53_9 : Cond.selects RX12 yX12_judge yX12_judge ∈ wsL_law := wG53 _ (List.mem_of_getElem? (i := 9) rfl)
theorem m53_10 : Cond.code yX12_judge cX12_judge 4 (some .int) ∈ wsL_law := wG53 _ (List.mem_of_getElem? (i := 10) rfl)
theorem m53_11 : Cond.methodLink RX12 386 yX12_putAside ∈ wsL_law := wG53 _ (List.mem_of_getElem? (i := 11) rfl)
theorem m53_12 : Cond.instanceMethod yX12_putAside ∈ wsL_law := wG53 _ (List.mem_of_getElem? (i := 12) rfl)
theorem m53_13 : Cond.selects RX12 yX12_putAside yX12_putAside ∈ wsL_law := wG53 _ (List.mem_of_getElem? (i := 13) rfl)
theorem m53_14 : Cond.code yX12_putAside cX12_putAside 2 none ∈ wsL_law := wG53 _ (List.mem_of_getElem? (i := 14) rfl)
theorem m53_15 : Cond.methodLink RX12 389 yX12_judgeDeeper ∈ wsL_law := wG53 _ (List.mem_of_getElem? (i := 15) rfl)
theorem m53_16 : Cond.instanceMethod yX12_judgeDeeper ∈ wsL_law := wG53 _ (List.mem_of_getElem? (i := 16) rfl)
theorem m53_17 : Cond.selects RX12 yX12_judgeDeeper yX12_judgeDeeper ∈ wsL_law := wG53 _ (List.mem_of_getElem? (i := 17) rfl)
theorem m53_18 : Cond.code yX12_judgeDeeper cX12_judgeDeeper 6 (some .int) ∈ wsL_law := wG53 _ (List.mem_of_getElem? (i := 18) rfl)
theorem m53_19 : Cond.methodLink RL 102 yX11_compare ∈ wsL_law := wG53 _ (List.mem_of_getElem? (i := 19) rfl)
theorem m53_20 : Cond.instanceMethod yX11_compare ∈ wsL_law := wG53 _ (List.mem_of_getElem? (i := 20) rfl)
theorem m53_21 : Cond.selects RX11 yX11_compare yX11_compare ∈ wsL_law := wG53 _ (List.mem_of_getElem? (i := 21) rfl)
theorem m53_22 : Cond.code yX11_compare cX11_compare 5 (some .int) ∈ wsL_law := wG53 _ (List.mem_of_getElem? (i := 22) rfl)
theorem m53_23 : Cond.methodLink RX11 236 yX1_takenByOther ∈ wsL_law := wG53 _ (List.mem_of_getElem? (i := 23) rfl)
theorem m54_0 : Cond.instanceMethod yX1_takenByOther ∈ wsL_law := wG54 _ (List.mem_of_getElem? (i := 0) rfl)
theorem m54_1 : Cond.selects RX1 yX1_takenByOther yX1_takenByOther ∈ wsL_law := wG54 _ (List.mem_of_getElem? (i := 1) rfl)
theorem m54_2 : Cond.code yX1_takenByOther cX1_takenByOther 4 (some .long) ∈ wsL_law := wG54 _ (List.mem_of_getElem? (i := 2) rfl)
theorem m54_3 : Cond.methodLink RX11 239 yX11_codesAgainst ∈ wsL_law := wG54 _ (List.mem_of_getElem? (i := 3) rfl)
theorem m54_4 : Cond.static yX11_codesAgainst ∈ wsL_law := wG54 _ (List.mem_of_getElem? (i := 4) rfl)
theorem m54_5 : Cond.code yX11_codesAgainst cX11_codesAgainst 5 (some .long) ∈ wsL_law := wG54 _ (List.mem_of_getElem? (i := 5) rfl)
theorem m54_6 : Cond.methodLink RX11 243 yX4_codes ∈ wsL_law := wG54 _ (List.mem_of_getElem? (i := 6) rfl)
theorem m54_7 : Cond.instanceMethod yX4_codes ∈ wsL_law := wG54 _ (List.mem_of_getElem? (i := 7) rfl)
theorem m54_8 : Cond.selects RX4 yX4_codes yX4_codes ∈ wsL_law := wG54 _ (List.mem_of_getElem? (i := 8) rfl)
theorem m54_9 : Cond.code yX4_codes cX4_codes 1 (some .long) ∈ wsL_law := wG54 _ (List.mem_of_getElem? (i := 9) rfl)
theorem m54_10 : Cond.methodLink RL 105 yX12_compare ∈ wsL_law := wG54 _ (List.mem_of_getElem? (i := 10) rfl)
theorem m54_11 : Cond.instanceMethod yX12_compare ∈ wsL_law := wG54 _ (List.mem_of_getElem? (i := 11) rfl)
theorem m54_12 : Cond.selects RX12 yX12_compare yX12_compare ∈ wsL_law := wG54 _ (List.mem_of_getElem? (i := 12) rfl)
theorem m54_13 : Cond.code yX12_compare cX12_compare 6 (some .int) ∈ wsL_law := wG54 _ (List.mem_of_getElem? (i := 13) rfl)
theorem m54_14 : Cond.methodLink RL 106 yX11_parted ∈ wsL_law := wG54 _ (List.mem_of_getElem? (i := 14) rfl)
theorem m54_15 : Cond.instanceMethod yX11_parted ∈ wsL_law := wG54 _ (List.mem_of_getElem? (i := 15) rfl)
theorem m54_16 : Cond.selects RX11 yX11_parted yX11_parted ∈ wsL_law := wG54 _ (List.mem_of_getElem? (i := 16) rfl)
theorem m54_17 : Cond.code yX11_parted cX11_parted 2 (some .int) ∈ wsL_law := wG54 _ (List.mem_of_getElem? (i := 17) rfl)
theorem m54_18 : Cond.methodLink RL 109 yX12_parted ∈ wsL_law := wG54 _ (List.mem_of_getElem? (i := 18) rfl)
theorem m54_19 : Cond.instanceMethod yX12_parted ∈ wsL_law := wG54 _ (List.mem_of_getElem? (i := 19) rfl)
theorem m54_20 : Cond.selects RX12 yX12_parted yX12_parted ∈ wsL_law := wG54 _ (List.mem_of_getElem? (i := 20) rfl)
theorem m54_21 : Cond.code yX12_parted cX12_parted 1 (some .int) ∈ wsL_law := wG54 _ (List.mem_of_getElem? (i := 21) rfl)
theorem m54_22 : Cond.methodLink RL 110 yX11_both ∈ wsL_law := wG54 _ (List.mem_of_getElem? (i := 22) rfl)
theorem m54_23 : Cond.instanceMethod yX11_both ∈ wsL_law := wG54 _ (List.mem_of_getElem? (i := 23) rfl)
theorem m55_0 : Cond.selects RX11 yX11_both yX11_both ∈ wsL_law := wG55 _ (List.mem_of_getElem? (i := 0) rfl)
theorem m55_1 : Cond.code yX11_both cX11_both 2 (some .int) ∈ wsL_law := wG55 _ (List.mem_of_getElem? (i := 1) rfl)
theorem m55_2 : Cond.methodLink RL 113 yX12_both ∈ wsL_law := wG55 _ (List.mem_of_getElem? (i := 2) rfl)
theorem m55_3 : Cond.instanceMethod yX12_both ∈ wsL_law := wG55 _ (List.mem_of_getElem? (i := 3) rfl)
theorem m55_4 : Cond.selects RX12 yX12_both yX12_both ∈ wsL_law := wG55 _ (List.mem_of_getElem? (i := 4) rfl)
theorem m55_5 : Cond.code yX12_both cX12_both 1 (some .int) ∈ wsL_law := wG55 _ (List.mem_of_getElem? (i := 5) rfl)
theorem m55_6 : Cond.methodLink RL 114 yX11_count ∈ wsL_law := wG55 _ (List.mem_of_getElem? (i := 6) rfl)
theorem m55_7 : Cond.instanceMethod yX11_count ∈ wsL_law := wG55 _ (List.mem_of_getElem? (i := 7) rfl)
theorem m55_8 : Cond.selects RX11 yX11_count yX11_count ∈ wsL_law := wG55 _ (List.mem_of_getElem? (i := 8) rfl)
theorem m55_9 : Cond.code yX11_count cX11_count 2 (some .int) ∈ wsL_law := wG55 _ (List.mem_of_getElem? (i := 9) rfl)
theorem m55_10 : Cond.methodLink RL 117 yX12_count ∈ wsL_law := wG55 _ (List.mem_of_getElem? (i := 10) rfl)
theorem m55_11 : Cond.instanceMethod yX12_count ∈ wsL_law := wG55 _ (List.mem_of_getElem? (i := 11) rfl)
theorem m55_12 : Cond.selects RX12 yX12_count yX12_count ∈ wsL_law := wG55 _ (List.mem_of_getElem? (i := 12) rfl)
theorem m55_13 : Cond.code yX12_count cX12_count 2 (some .int) ∈ wsL_law := wG55 _ (List.mem_of_getElem? (i := 13) rfl)
theorem gdC {w0 : Cond} {ws : List Cond} (h : ∀ w ∈ ws, w ∈ wsL_law) : GoodIn (w0 :: wsL_law) ws := fun w hw => ⟨List.mem_cons_of_mem _ (h w hw), gG w (h w hw)⟩
theorem gd1 {c0 : Cond} (h : c0 ∈ wsL_law) : ∀ w ∈ c0 :: wsL_law, w ∈ wsL_law := fun w hw => (List.mem_cons.mp hw).elim (fun e => e ▸ h) id
theorem gd4 {c0 a1 a2 a3 a4 : Cond} (h1 : a1 ∈ wsL_law) (h2 : a2 ∈ wsL_law) (h3 : a3 ∈ wsL_law) (h4 : a4 ∈ wsL_law) (h : c0 ∈ wsL_law) : ∀ w ∈ ([a1, a2, a3, a4] : List Cond) ++ (c0 :: wsL_law), w ∈ wsL_law := fun w hw => (List.mem_append.mp hw).elim (fun hw => by
  simp only [List.mem_cons, List.not_mem_nil, or_false] at hw
  rcases hw with rfl | rfl | rfl | rfl <;> assumption) (gd1 h w)
theorem gd3 {c0 a1 a2 a3 : Cond} (h1 : a1 ∈ wsL_law) (h2 : a2 ∈ wsL_law) (h3 : a3 ∈ wsL_law) (h : c0 ∈ wsL_law) : ∀ w ∈ ([a1, a2, a3] : List Cond) ++ (c0 :: wsL_law), w ∈ wsL_law := fun w hw => (List.mem_append.mp hw).elim (fun hw => by
  simp only [List.mem_cons, List.not_mem_nil, or_false] at hw
  rcases hw with rfl | rfl | rfl <;> assumption) (gd1 h w)
theorem gdL {ws : List Cond} (h : ∀ w ∈ ws, w ∈ wsL_law) : GoodIn wsL_law ws := fun w hw => ⟨h w hw, gG w (h w hw)⟩
def wsX4_held : List Cond := .code yX4_held cX4_held 1 (some (.object "NestReaders$Held")) :: wsL_law
def wsX1_codes : List Cond := .code yX1_codes cX1_codes 1 (some .int) :: wsL_law
def wsX0_init : List Cond := .code yX0_init cX0_init 2 none :: wsL_law
def wsX4_edition : List Cond := .code yX4_edition cX4_edition 1 (some .int) :: wsL_law
def wsX0_clearLine : List Cond := .code yX0_clearLine cX0_clearLine 3 none :: wsL_law
def wsX0_add : List Cond := .code yX0_add cX0_add 4 none :: wsL_law
def wsX1_joinedCode : List Cond := .code yX1_joinedCode cX1_joinedCode 2 (some .int) :: wsL_law
def wsX1_beginning : List Cond := .code yX1_beginning cX1_beginning 1 (some .int) :: wsL_law
def wsX0_refresh : List Cond := .code yX0_refresh cX0_refresh 1 none :: wsL_law
def wsX4_wholes : List Cond := .code yX4_wholes cX4_wholes 1 (some (.object "NestReaders$Wholes")) :: wsL_law
def wsX5_isPlain : List Cond := .code yX5_isPlain cX5_isPlain 1 (some .boolean) :: wsL_law
def wsX10_stepOfPlain : List Cond := .code yX10_stepOfPlain cX10_stepOfPlain 2 (some .int) :: wsL_law
def wsX10_size : List Cond := .code yX10_size cX10_size 1 (some .int) :: wsL_law
def wsX10_stepAround : List Cond := .code yX10_stepAround cX10_stepAround 3 (some .int) :: wsL_law
def wsX0_countSteps : List Cond := .code yX0_countSteps cX0_countSteps 6 none :: wsL_law
def wsX10_steps : List Cond := .code yX10_steps cX10_steps 1 (some .int) :: wsL_law
def wsX10_after : List Cond := .code yX10_after cX10_after 4 (some .int) :: wsL_law
def wsX0_addWholes : List Cond := .code yX0_addWholes cX0_addWholes 11 none :: wsL_law
def wsX10_wholeOfStep : List Cond := .code yX10_wholeOfStep cX10_wholeOfStep 2 (some .int) :: wsL_law
def wsX4_image : List Cond := .code yX4_image cX4_image 4 (some .int) :: wsL_law
def wsX0_addCodes : List Cond := .code yX0_addCodes cX0_addCodes 12 none :: wsL_law
def wsX5_closes : List Cond := .code yX5_closes cX5_closes 1 (some .boolean) :: wsL_law
def wsX5_way : List Cond := .code yX5_way cX5_way 4 (some .int) :: wsL_law
def wsX5_alone : List Cond := .code yX5_alone cX5_alone 2 (some .int) :: wsL_law
def wsX1_joinedPair : List Cond := .code yX1_joinedPair cX1_joinedPair 2 (some .int) :: wsL_law
def wsX5_image : List Cond := .code yX5_image cX5_image 3 (some .int) :: wsL_law
def wsX1_image : List Cond := .code yX1_image cX1_image 2 (some .int) :: wsL_law
def wsX1_alone : List Cond := .code yX1_alone cX1_alone 3 (some .int) :: wsL_law
def wsX0_addHalfOpen : List Cond := .code yX0_addHalfOpen cX0_addHalfOpen 10 none :: wsL_law
def wsX0_extend : List Cond := .code yX0_extend cX0_extend 3 none :: wsL_law
def wsX0_rowsWithin : List Cond := .code yX0_rowsWithin cX0_rowsWithin 7 (some .int) :: wsL_law
def wsX1_init : List Cond := .code yX1_init cX1_init 4 none :: wsL_law
def wsX5_changes : List Cond := .code yX5_changes cX5_changes 1 (some .int) :: wsL_law
def wsX1_changes : List Cond := .code yX1_changes cX1_changes 1 (some .int) :: wsL_law
def wsX5_pair : List Cond := .code yX5_pair cX5_pair 2 (some .int) :: wsL_law
def wsX5_identity : List Cond := .code yX5_identity cX5_identity 3 (some .int) :: wsL_law
def wsX1_identity : List Cond := .code yX1_identity cX1_identity 1 (some .int) :: wsL_law
def wsX5_then : List Cond := .code yX5_then cX5_then 2 (some .int) :: wsL_law
def wsX1_then : List Cond := .code yX1_then cX1_then 2 (some .int) :: wsL_law
def wsX1_plain : List Cond := .code yX1_plain cX1_plain 2 (some .int) :: wsL_law
def wsX5_wrapped : List Cond := .code yX5_wrapped cX5_wrapped 6 (some .int) :: wsL_law
def wsX1_wrapped : List Cond := .code yX1_wrapped cX1_wrapped 4 (some .int) :: wsL_law
def wsX5_takesAny : List Cond := .code yX5_takesAny cX5_takesAny 2 (some .boolean) :: wsL_law
def wsX1_takenByOne : List Cond := .code yX1_takenByOne cX1_takenByOne 4 (some .long) :: wsL_law
def wsX1_takenByOther : List Cond := .code yX1_takenByOther cX1_takenByOther 4 (some .long) :: wsL_law
def wsX2_init : List Cond := .code yX2_init cX2_init 2 none :: wsL_law
def wsX2_setAllFar : List Cond := .code yX2_setAllFar cX2_setAllFar 2 none :: wsL_law
def wsX2_shorten : List Cond := .code yX2_shorten cX2_shorten 4 none :: wsL_law
def wsX2_shortenWholes : List Cond := .code yX2_shortenWholes cX2_shortenWholes 4 none :: wsL_law
def wsX2_shortenCodes : List Cond := .code yX2_shortenCodes cX2_shortenCodes 7 none :: wsL_law
def wsX2_refresh : List Cond := .code yX2_refresh cX2_refresh 3 none :: wsL_law
def wsX2_least : List Cond := .code yX2_least cX2_least 5 (some .int) :: wsL_law
def wsX6_init : List Cond := .code yX6_init cX6_init 1 none :: wsL_law
def wsX9_init : List Cond := .code yX9_init cX9_init 1 none :: wsL_law
def wsX3_init : List Cond := .code yX3_init cX3_init 2 none :: wsL_law
def wsX3_forgetIfChanged : List Cond := .code yX3_forgetIfChanged cX3_forgetIfChanged 2 none :: wsL_law
def wsX6_cut : List Cond := .code yX6_cut cX6_cut 2 none :: wsL_law
def wsX9_begin : List Cond := .code yX9_begin cX9_begin 2 none :: wsL_law
def wsX9_comeAt : List Cond := .code yX9_comeAt cX9_comeAt 2 (some .int) :: wsL_law
def wsX3_keep : List Cond := .code yX3_keep cX3_keep 4 none :: wsL_law
def wsX6_baseAt : List Cond := .code yX6_baseAt cX6_baseAt 2 (some .int) :: wsL_law
def wsX6_letterAt : List Cond := .code yX6_letterAt cX6_letterAt 2 (some .int) :: wsL_law
def wsX5_opens : List Cond := .code yX5_opens cX5_opens 1 (some .boolean) :: wsL_law
def wsX6_openAt : List Cond := .code yX6_openAt cX6_openAt 3 (some .int) :: wsL_law
def wsX6_append : List Cond := .code yX6_append cX6_append 3 none :: wsL_law
def wsX9_goOn : List Cond := .code yX9_goOn cX9_goOn 4 none :: wsL_law
def wsX9_step : List Cond := .code yX9_step cX9_step 6 none :: wsL_law
def wsX3_grow : List Cond := .code yX3_grow cX3_grow 6 none :: wsL_law
def wsJ13_bitCount_95d88 : List Cond := .code yJ13_bitCount_95d88 cJ13_bitCount_95d88 2 (some .int) :: wsL_law
def wsX3_placeOf : List Cond := .code yX3_placeOf cX3_placeOf 5 (some .int) :: wsL_law
def wsX3_numberOf : List Cond := .code yX3_numberOf cX3_numberOf 7 (some .int) :: wsL_law
def wsX3_letterAt : List Cond := .code yX3_letterAt cX3_letterAt 6 (some .int) :: wsL_law
def wsX10_init : List Cond := .code yX10_init cX10_init 2 none :: wsL_law
def wsX4_init : List Cond := .code yX4_init cX4_init 2 none :: wsL_law
def wsX4_size : List Cond := .code yX4_size cX4_size 1 (some .int) :: wsL_law
def wsX4_codes : List Cond := .code yX4_codes cX4_codes 1 (some .long) :: wsL_law
def wsX10_slotOf : List Cond := .code yX10_slotOf cX10_slotOf 5 (some .int) :: wsL_law
def wsX10_numberOf : List Cond := .code yX10_numberOf cX10_numberOf 3 (some .int) :: wsL_law
def wsX10_stepFor : List Cond := .code yX10_stepFor cX10_stepFor 3 (some .int) :: wsL_law
def wsX10_link : List Cond := .code yX10_link cX10_link 5 none :: wsL_law
def wsX10_build : List Cond := .code yX10_build cX10_build 5 none :: wsL_law
def wsX10_areSpent : List Cond := .code yX10_areSpent cX10_areSpent 1 (some .boolean) :: wsL_law
def wsX10_pairAt : List Cond := .code yX10_pairAt cX10_pairAt 2 (some .int) :: wsL_law
def wsX4_fill : List Cond := .code yX4_fill cX4_fill 4 none :: wsL_law
def wsX4_spread : List Cond := .code yX4_spread cX4_spread 6 (some .long) :: wsL_law
def wsX4_alone : List Cond := .code yX4_alone cX4_alone 7 (some .long) :: wsL_law
def wsX4_reached : List Cond := .code yX4_reached cX4_reached 9 (some .long) :: wsL_law
def wsX4_sizeFrom : List Cond := .code yX4_sizeFrom cX4_sizeFrom 8 (some .int) :: wsL_law
def wsX4_areSpent : List Cond := .code yX4_areSpent cX4_areSpent 5 (some .boolean) :: wsL_law
def wsX9_sinceAt : List Cond := .code yX9_sinceAt cX9_sinceAt 2 (some .int) :: wsL_law
def wsX10_find : List Cond := .code yX10_find cX10_find 3 (some .int) :: wsL_law
def wsX4_bit : List Cond := .code yX4_bit cX4_bit 1 (some .long) :: wsL_law
def wsX10_followers : List Cond := .code yX10_followers cX10_followers 5 (some .long) :: wsL_law
def wsX10_reached : List Cond := .code yX10_reached cX10_reached 9 (some .long) :: wsL_law
def wsX4_codesFrom : List Cond := .code yX4_codesFrom cX4_codesFrom 7 (some .long) :: wsL_law
def wsX4_closedAround : List Cond := .code yX4_closedAround cX4_closedAround 8 (some .long) :: wsL_law
def wsX4_codesAhead : List Cond := .code yX4_codesAhead cX4_codesAhead 13 (some .long) :: wsL_law
def wsX5_init : List Cond := .code yX5_init cX5_init 1 none :: wsL_law
def wsX5_become : List Cond := .code yX5_become cX5_become 5 none :: wsL_law
def wsX5_isState : List Cond := .code yX5_isState cX5_isState 2 (some .boolean) :: wsL_law
def wsX5_isMark : List Cond := .code yX5_isMark cX5_isMark 2 (some .boolean) :: wsL_law
def wsX5_knows : List Cond := .code yX5_knows cX5_knows 5 (some .boolean) :: wsL_law
def wsX5_holds : List Cond := .code yX5_holds cX5_holds 5 (some .boolean) :: wsL_law
def wsX5_slot : List Cond := .code yX5_slot cX5_slot 2 (some .int) :: wsL_law
def wsX5_add : List Cond := .code yX5_add cX5_add 5 none :: wsL_law
def wsX5_remove : List Cond := .code yX5_remove cX5_remove 5 none :: wsL_law
def wsJ6_bitCount_0f7a4 : List Cond := .code yJ6_bitCount_0f7a4 cJ6_bitCount_0f7a4 1 (some .int) :: wsL_law
def wsX5_moveCount : List Cond := .code yX5_moveCount cX5_moveCount 3 (some .int) :: wsL_law
def wsX6_size : List Cond := .code yX6_size cX6_size 1 (some .int) :: wsL_law
def wsX6_isWhole : List Cond := .code yX6_isWhole cX6_isWhole 1 (some .boolean) :: wsL_law
def wsX6_depthBehind : List Cond := .code yX6_depthBehind cX6_depthBehind 4 (some .int) :: wsL_law
def wsX6_partnerOf : List Cond := .code yX6_partnerOf cX6_partnerOf 4 (some .int) :: wsL_law
def wsX7_init : List Cond := .code yX7_init cX7_init 1 none :: wsL_law
def wsX7_beginSince : List Cond := .code yX7_beginSince cX7_beginSince 3 none :: wsL_law
def wsX7_clear : List Cond := .code yX7_clear cX7_clear 2 none :: wsL_law
def wsX7_addWay : List Cond := .code yX7_addWay cX7_addWay 3 none :: wsL_law
def wsX7_times : List Cond := .code yX7_times cX7_times 10 none :: wsL_law
def wsX7_goOn : List Cond := .code yX7_goOn cX7_goOn 3 none :: wsL_law
def wsX7_addWrapped : List Cond := .code yX7_addWrapped cX7_addWrapped 6 none :: wsL_law
def wsX7_step : List Cond := .code yX7_step cX7_step 7 none :: wsL_law
def wsX7_runs : List Cond := .code yX7_runs cX7_runs 7 (some .int) :: wsL_law
def wsX8_init : List Cond := .code yX8_init cX8_init 1 none :: wsL_law
def wsX8_size : List Cond := .code yX8_size cX8_size 1 (some .int) :: wsL_law
def wsX8_empty : List Cond := .code yX8_empty cX8_empty 1 none :: wsL_law
def wsX8_append : List Cond := .code yX8_append cX8_append 2 none :: wsL_law
def wsX8_byteAt : List Cond := .code yX8_byteAt cX8_byteAt 2 (some .int) :: wsL_law
def wsX8_kindOf : List Cond := .code yX8_kindOf cX8_kindOf 1 (some .int) :: wsL_law
def wsX8_step : List Cond := .code yX8_step cX8_step 2 none :: wsL_law
def wsX8_head : List Cond := .code yX8_head cX8_head 1 (some .int) :: wsL_law
def wsX8_digit : List Cond := .code yX8_digit cX8_digit 1 (some .int) :: wsL_law
def wsX8_pass : List Cond := .code yX8_pass cX8_pass 2 (some .boolean) :: wsL_law
def wsJ0_coder_7d493 : List Cond := .code yJ0_coder_7d493 cJ0_coder_7d493 1 (some .byte) :: wsL_law
def wsJ0_length_8abf5 : List Cond := .code yJ0_length_8abf5 cJ0_length_8abf5 1 (some .int) :: wsL_law
def wsJ0_isLatin1_aae02 : List Cond := .code yJ0_isLatin1_aae02 cJ0_isLatin1_aae02 1 (some .boolean) :: wsL_law
def wsJ3_checkIndex_8e157 : List Cond := .code yJ3_checkIndex_8e157 cJ3_checkIndex_8e157 3 (some .int) :: wsL_law
def wsJ0_checkIndex_df160 : List Cond := .code yJ0_checkIndex_df160 cJ0_checkIndex_df160 2 none :: wsL_law
def wsJ1_charAt_3b067 : List Cond := .code yJ1_charAt_3b067 cJ1_charAt_3b067 2 (some .char) :: wsL_law
def wsJ2_length_9d52b : List Cond := .code yJ2_length_9d52b cJ2_length_9d52b 1 (some .int) :: wsL_law
def wsJ2_checkIndex_2214a : List Cond := .code yJ2_checkIndex_2214a cJ2_checkIndex_2214a 2 none :: wsL_law
def wsJ2_getChar_3b067 : List Cond := .code yJ2_getChar_3b067 cJ2_getChar_3b067 2 (some .char) :: wsL_law
def wsJ2_charAt_3b067 : List Cond := .code yJ2_charAt_3b067 cJ2_charAt_3b067 2 (some .char) :: wsL_law
def wsJ0_charAt_5068e : List Cond := .code yJ0_charAt_5068e cJ0_charAt_5068e 2 (some .char) :: wsL_law
def wsX8_isWord : List Cond := .code yX8_isWord cX8_isWord 4 (some .boolean) :: wsL_law
def wsX8_readMark : List Cond := .code yX8_readMark cX8_readMark 3 (some .boolean) :: wsL_law
def wsX8_readMove : List Cond := .code yX8_readMove cX8_readMove 2 (some .boolean) :: wsL_law
def wsX8_faultFor : List Cond := .code yX8_faultFor cX8_faultFor 4 (some .int) :: wsL_law
def wsX9_follow : List Cond := .code yX9_follow cX9_follow 5 none :: wsL_law
def wsX11_init : List Cond := .code yX11_init cX11_init 1 none :: wsL_law
def wsX11_isReader : List Cond := .code yX11_isReader cX11_isReader 1 (some .boolean) :: wsL_law
def wsX11_chosen : List Cond := .code yX11_chosen cX11_chosen 2 (some (.object "NestReaders$Reader")) :: wsL_law
def wsX11_reader : List Cond := .code yX11_reader cX11_reader 5 (some .int) :: wsL_law
def wsX11_write : List Cond := .code yX11_write cX11_write 5 (some .int) :: wsL_law
def wsX11_erase : List Cond := .code yX11_erase cX11_erase 2 (some .int) :: wsL_law
def wsX11_fault : List Cond := .code yX11_fault cX11_fault 2 (some .int) :: wsL_law
def wsX11_moves : List Cond := .code yX11_moves cX11_moves 3 (some .int) :: wsL_law
def wsX11_has : List Cond := .code yX11_has cX11_has 6 (some .int) :: wsL_law
def wsX11_drop : List Cond := .code yX11_drop cX11_drop 6 (some .int) :: wsL_law
def wsX11_letter : List Cond := .code yX11_letter cX11_letter 2 (some .int) :: wsL_law
def wsX11_letterOf : List Cond := .code yX11_letterOf cX11_letterOf 3 (some .int) :: wsL_law
def wsX11_row : List Cond := .code yX11_row cX11_row 5 (some .int) :: wsL_law
def wsX11_partner : List Cond := .code yX11_partner cX11_partner 2 (some .int) :: wsL_law
def wsX11_isBehind : List Cond := .code yX11_isBehind cX11_isBehind 2 (some .boolean) :: wsL_law
def wsX11_depth : List Cond := .code yX11_depth cX11_depth 2 (some .int) :: wsL_law
def wsX11_run : List Cond := .code yX11_run cX11_run 5 (some .int) :: wsL_law
def wsX11_between : List Cond := .code yX11_between cX11_between 2 (some .int) :: wsL_law
def wsX11_placesOf : List Cond := .code yX11_placesOf cX11_placesOf 2 (some (.object "NestReaders$Places")) :: wsL_law
def wsX11_places : List Cond := .code yX11_places cX11_places 3 (some .int) :: wsL_law
def wsX11_isAtOnePlace : List Cond := .code yX11_isAtOnePlace cX11_isAtOnePlace 4 (some .boolean) :: wsL_law
def wsX11_alike : List Cond := .code yX11_alike cX11_alike 5 (some .int) :: wsL_law
def wsX11_lengthsOf : List Cond := .code yX11_lengthsOf cX11_lengthsOf 2 (some (.object "NestReaders$Lengths")) :: wsL_law
def wsX11_shortest : List Cond := .code yX11_shortest cX11_shortest 3 (some .int) :: wsL_law
def wsX11_listingOf : List Cond := .code yX11_listingOf cX11_listingOf 2 (some (.object "NestReaders$Listing")) :: wsL_law
def wsX11_first : List Cond := .code yX11_first cX11_first 5 (some .int) :: wsL_law
def wsX11_many : List Cond := .code yX11_many cX11_many 5 (some .int) :: wsL_law
def wsX11_of : List Cond := .code yX11_of cX11_of 5 (some .int) :: wsL_law
def wsX11_watch : List Cond := .code yX11_watch cX11_watch 9 (some .int) :: wsL_law
def wsX11_codesAgainst : List Cond := .code yX11_codesAgainst cX11_codesAgainst 5 (some .long) :: wsL_law
def wsX11_compare : List Cond := .code yX11_compare cX11_compare 5 (some .int) :: wsL_law
def wsX11_parted : List Cond := .code yX11_parted cX11_parted 2 (some .int) :: wsL_law
def wsX11_both : List Cond := .code yX11_both cX11_both 2 (some .int) :: wsL_law
def wsX11_count : List Cond := .code yX11_count cX11_count 2 (some .int) :: wsL_law
def wsX12_init : List Cond := .code yX12_init cX12_init 2 none :: wsL_law
def wsX12_in : List Cond := .code yX12_in cX12_in 3 (some .boolean) :: wsL_law
def wsX12_isReader : List Cond := .code yX12_isReader cX12_isReader 1 (some .boolean) :: wsL_law
def wsX12_putAt : List Cond := .code yX12_putAt cX12_putAt 4 (some .int) :: wsL_law
def wsX12_goAt : List Cond := .code yX12_goAt cX12_goAt 3 (some .int) :: wsL_law
def wsX12_closeAt : List Cond := .code yX12_closeAt cX12_closeAt 4 (some .int) :: wsL_law
def wsX12_reader : List Cond := .code yX12_reader cX12_reader 6 (some .int) :: wsL_law
def wsX12_write : List Cond := .code yX12_write cX12_write 5 (some .int) :: wsL_law
def wsX12_erase : List Cond := .code yX12_erase cX12_erase 2 (some .int) :: wsL_law
def wsX12_nextToken : List Cond := .code yX12_nextToken cX12_nextToken 1 none :: wsL_law
def wsX12_fails : List Cond := .code yX12_fails cX12_fails 1 (some .boolean) :: wsL_law
def wsX12_isNumber : List Cond := .code yX12_isNumber cX12_isNumber 3 (some .boolean) :: wsL_law
def wsX12_isWord : List Cond := .code yX12_isWord cX12_isWord 3 (some .boolean) :: wsL_law
def wsX12_isMove : List Cond := .code yX12_isMove cX12_isMove 4 (some .boolean) :: wsL_law
def wsX12_isRead : List Cond := .code yX12_isRead cX12_isRead 3 (some .boolean) :: wsL_law
def wsX12_fault : List Cond := .code yX12_fault cX12_fault 2 (some .int) :: wsL_law
def wsX12_bits : List Cond := .code yX12_bits cX12_bits 3 (some .int) :: wsL_law
def wsX12_movesOf : List Cond := .code yX12_movesOf cX12_movesOf 4 (some .int) :: wsL_law
def wsX12_tos : List Cond := .code yX12_tos cX12_tos 5 (some .int) :: wsL_law
def wsX12_tell : List Cond := .code yX12_tell cX12_tell 6 none :: wsL_law
def wsX12_moves : List Cond := .code yX12_moves cX12_moves 6 (some .int) :: wsL_law
def wsX12_isTold : List Cond := .code yX12_isTold cX12_isTold 6 (some .boolean) :: wsL_law
def wsX12_has : List Cond := .code yX12_has cX12_has 6 (some .int) :: wsL_law
def wsX12_drop : List Cond := .code yX12_drop cX12_drop 6 (some .int) :: wsL_law
def wsX12_letter : List Cond := .code yX12_letter cX12_letter 2 (some .int) :: wsL_law
def wsX12_row : List Cond := .code yX12_row cX12_row 5 (some .int) :: wsL_law
def wsX12_findPartners : List Cond := .code yX12_findPartners cX12_findPartners 4 (some .int) :: wsL_law
def wsX12_partner : List Cond := .code yX12_partner cX12_partner 2 (some .int) :: wsL_law
def wsX12_depth : List Cond := .code yX12_depth cX12_depth 2 (some .int) :: wsL_law
def wsX12_isOf : List Cond := .code yX12_isOf cX12_isOf 2 (some .boolean) :: wsL_law
def wsX12_itself : List Cond := .code yX12_itself cX12_itself 5 (some .int) :: wsL_law
def wsX12_follow : List Cond := .code yX12_follow cX12_follow 8 (some .int) :: wsL_law
def wsX12_image : List Cond := .code yX12_image cX12_image 5 (some .int) :: wsL_law
def wsX12_plain : List Cond := .code yX12_plain cX12_plain 6 (some .int) :: wsL_law
def wsX12_block : List Cond := .code yX12_block cX12_block 12 (some .int) :: wsL_law
def wsX12_opened : List Cond := .code yX12_opened cX12_opened 8 (some .int) :: wsL_law
def wsX12_closedOff : List Cond := .code yX12_closedOff cX12_closedOff 7 (some .int) :: wsL_law
def wsX12_begun : List Cond := .code yX12_begun cX12_begun 1 (some .int) :: wsL_law
def wsX12_beginRow : List Cond := .code yX12_beginRow cX12_beginRow 2 none :: wsL_law
def wsX12_goOn : List Cond := .code yX12_goOn cX12_goOn 4 none :: wsL_law
def wsX12_goRow : List Cond := .code yX12_goRow cX12_goRow 4 none :: wsL_law
def wsX12_doesTake : List Cond := .code yX12_doesTake cX12_doesTake 3 (some .boolean) :: wsL_law
def wsX12_toItself : List Cond := .code yX12_toItself cX12_toItself 2 none :: wsL_law
def wsX12_stepRuns : List Cond := .code yX12_stepRuns cX12_stepRuns 7 none :: wsL_law
def wsX12_stepWays : List Cond := .code yX12_stepWays cX12_stepWays 9 none :: wsL_law
def wsX12_letterOpen : List Cond := .code yX12_letterOpen cX12_letterOpen 2 (some .int) :: wsL_law
def wsX12_waysOver : List Cond := .code yX12_waysOver cX12_waysOver 11 (some .long) :: wsL_law
def wsX12_countRuns : List Cond := .code yX12_countRuns cX12_countRuns 8 none :: wsL_law
def wsX12_run : List Cond := .code yX12_run cX12_run 4 (some .int) :: wsL_law
def wsX12_between : List Cond := .code yX12_between cX12_between 4 (some .int) :: wsL_law
def wsX12_meetWhole : List Cond := .code yX12_meetWhole cX12_meetWhole 5 (some .boolean) :: wsL_law
def wsX12_findWholes : List Cond := .code yX12_findWholes cX12_findWholes 7 none :: wsL_law
def wsX12_nodeOf : List Cond := .code yX12_nodeOf cX12_nodeOf 5 (some .int) :: wsL_law
def wsX12_meetNode : List Cond := .code yX12_meetNode cX12_meetNode 7 (some .boolean) :: wsL_law
def wsX12_meetBehind : List Cond := .code yX12_meetBehind cX12_meetBehind 9 (some .boolean) :: wsL_law
def wsX12_findPlaces : List Cond := .code yX12_findPlaces cX12_findPlaces 4 none :: wsL_law
def wsX12_places : List Cond := .code yX12_places cX12_places 2 (some .int) :: wsL_law
def wsX12_alike : List Cond := .code yX12_alike cX12_alike 6 (some .int) :: wsL_law
def wsX12_isSought : List Cond := .code yX12_isSought cX12_isSought 5 (some .boolean) :: wsL_law
def wsX12_shortestOf : List Cond := .code yX12_shortestOf cX12_shortestOf 4 (some .int) :: wsL_law
def wsX12_shortest : List Cond := .code yX12_shortest cX12_shortest 2 (some .int) :: wsL_law
def wsX12_isTaken : List Cond := .code yX12_isTaken cX12_isTaken 6 (some .boolean) :: wsL_law
def wsX12_letterOf : List Cond := .code yX12_letterOf cX12_letterOf 8 (some .int) :: wsL_law
def wsX12_first : List Cond := .code yX12_first cX12_first 4 (some .int) :: wsL_law
def wsX12_wholeOf : List Cond := .code yX12_wholeOf cX12_wholeOf 4 (some .int) :: wsL_law
def wsX12_countBlocks : List Cond := .code yX12_countBlocks cX12_countBlocks 11 none :: wsL_law
def wsX12_countWholes : List Cond := .code yX12_countWholes cX12_countWholes 9 none :: wsL_law
def wsX12_addNode : List Cond := .code yX12_addNode cX12_addNode 9 none :: wsL_law
def wsX12_findBlocks : List Cond := .code yX12_findBlocks cX12_findBlocks 5 none :: wsL_law
def wsX12_countBehind : List Cond := .code yX12_countBehind cX12_countBehind 15 none :: wsL_law
def wsX12_countNodes : List Cond := .code yX12_countNodes cX12_countNodes 7 none :: wsL_law
def wsX12_many : List Cond := .code yX12_many cX12_many 6 (some .int) :: wsL_law
def wsX12_of : List Cond := .code yX12_of cX12_of 5 (some .int) :: wsL_law
def wsX12_list : List Cond := .code yX12_list cX12_list 5 none :: wsL_law
def wsX12_widen : List Cond := .code yX12_widen cX12_widen 8 none :: wsL_law
def wsX12_judge : List Cond := .code yX12_judge cX12_judge 4 (some .int) :: wsL_law
def wsX12_putAside : List Cond := .code yX12_putAside cX12_putAside 2 none :: wsL_law
def wsX12_judgeDeeper : List Cond := .code yX12_judgeDeeper cX12_judgeDeeper 6 (some .int) :: wsL_law
def wsX12_watch : List Cond := .code yX12_watch cX12_watch 8 (some .int) :: wsL_law
def wsX12_compare : List Cond := .code yX12_compare cX12_compare 6 (some .int) :: wsL_law
def wsX12_parted : List Cond := .code yX12_parted cX12_parted 1 (some .int) :: wsL_law
def wsX12_both : List Cond := .code yX12_both cX12_both 1 (some .int) :: wsL_law
def wsX12_count : List Cond := .code yX12_count cX12_count 2 (some .int) :: wsL_law
def wsJ9_max_7cf53 : List Cond := .code yJ9_max_7cf53 cJ9_max_7cf53 2 (some .int) :: wsL_law
def wsJ9_min_7cf53 : List Cond := .code yJ9_min_7cf53 cJ9_min_7cf53 2 (some .int) :: wsL_law
abbrev vwCl : List vw_C := [(RX0, TX0, 8), (RX1, TX1, 3), (RX2, TX2, 7), (RX3, TX3, 6), (RX4, TX4, 9), (RX5, TX5, 5), (RX6, TX6, 3), (RX7, TX7, 4), (RX8, TX8, 8), (RX9, TX9, 3), (RX10, TX10, 11), (RX11, TX11, 16), (RX12, TX12, 51)]
