/-! ===== BEGIN words of one list among another's, by their places ===== -/
theorem goodIn_r {big : List Cond} (ws : List Cond) (ps : List Nat) (hp : ws = ps.filterMap (fun i => big[i]?)) (h : ws.all goodWord = true) : GoodIn big ws := by
  intro w hw
  have h1 := List.all_eq_true.mp h w hw
  rw [hp] at hw
  obtain ⟨i, -, hi⟩ := List.mem_filterMap.mp hw
  have hm : w ∈ big := by first | exact List.mem_of_getElem? hi | exact List.getElem?_mem hi
  exact ⟨hm, good_of_word h1⟩
theorem goodIn_app {big a b : List Cond} (ha : GoodIn big a) (hb : GoodIn big b) : GoodIn big (a ++ b) := fun w h => (List.mem_append.mp h).elim (ha w) (hb w)
theorem goodIn_ca {big a b : List Cond} {c : Cond} (ha : GoodIn big (c :: a)) (hb : GoodIn big b) : GoodIn big (c :: (a ++ b)) := fun w h => (List.mem_cons.mp h).elim (fun e => ha w (List.mem_cons.mpr (Or.inl e))) (fun h => (List.mem_append.mp h).elim (fun h => ha w (List.mem_cons.mpr (Or.inr h))) (hb w))
theorem goodIn_sub {big ws : List Cond} (hm : ∀ w ∈ ws, w ∈ big) (h : ws.all goodWord = true) : GoodIn big ws := fun w hw => ⟨hm w hw, good_of_word (List.all_eq_true.mp h w hw)⟩
/-! ===== END ===== -/

/-! ===== BEGIN printed: names, fields, word lists, decode rows ===== -/
def RX0 : String := "PulseTurns$Fraction"
def TX0 : u_T := fun k => match k with
  | _ => ("", "", "", false)
def tyX0 : Nat → FieldType := fun k => match k with
  | _ => .int
abbrev wsX00 : List Cond := u_ws RX0 TX0 0
theorem nmX0 : ∀ a, a < 0 → ∀ b, b < 0 → a ≠ b → (TX0 a).2.1 ≠ (TX0 b).2.1 := by decide +kernel
theorem tyX0_ok : ∀ k, k < 0 → parseFieldDescriptor (TX0 k).2.2.1 = some (tyX0 k) := by decide +kernel
abbrev cX0_part : ByteArray := prog_2_method_2_code
def yX0_part : MethodName := ⟨RX0, "part", "(III)I"⟩
abbrev cX0_commonDivisor : ByteArray := prog_2_method_3_code
def yX0_commonDivisor : MethodName := ⟨RX0, "commonDivisor", "(II)I"⟩
def RX1 : String := "PulseTurns$Hearing"
def TX1 : u_T := fun k => match k with
  | 0 => ("PulseTurns$Hearing", "times", "[I", true)
  | 1 => ("PulseTurns$Hearing", "size", "I", false)
  | 2 => ("PulseTurns$Hearing", "low", "I", false)
  | 3 => ("PulseTurns$Hearing", "high", "I", false)
  | _ => ("PulseTurns$Hearing", "slack", "I", false)
def tyX1 : Nat → FieldType := fun k => match k with
  | 0 => .array .int
  | 1 => .int
  | 2 => .int
  | 3 => .int
  | _ => .int
abbrev wsX10 : List Cond := u_ws RX1 TX1 5
theorem nmX1 : ∀ a, a < 5 → ∀ b, b < 5 → a ≠ b → (TX1 a).2.1 ≠ (TX1 b).2.1 := by decide +kernel
theorem tyX1_ok : ∀ k, k < 5 → parseFieldDescriptor (TX1 k).2.2.1 = some (tyX1 k) := by decide +kernel
abbrev cX1_init : ByteArray := prog_3_method_1_code
def yX1_init : MethodName := ⟨RX1, "<init>", "()V"⟩
abbrev cX1_reset : ByteArray := prog_3_method_2_code
def yX1_reset : MethodName := ⟨RX1, "reset", "()V"⟩
abbrev cX1_take : ByteArray := prog_3_method_3_code
def yX1_take : MethodName := ⟨RX1, "take", "(LPulseTurns$Hearing;)V"⟩
abbrev cX1_hasArrival : ByteArray := prog_3_method_4_code
def yX1_hasArrival : MethodName := ⟨RX1, "hasArrival", "(I)Z"⟩
abbrev cX1_hears : ByteArray := prog_3_method_5_code
def yX1_hears : MethodName := ⟨RX1, "hears", "(I)Z"⟩
abbrev cX1_place : ByteArray := prog_3_method_6_code
def yX1_place : MethodName := ⟨RX1, "place", "(I)I"⟩
abbrev cX1_drop : ByteArray := prog_3_method_7_code
def yX1_drop : MethodName := ⟨RX1, "drop", "(I)I"⟩
def RX2 : String := "PulseTurns$Numberings"
def TX2 : u_T := fun k => match k with
  | 0 => ("PulseTurns$Numberings", "times", "[I", true)
  | 1 => ("PulseTurns$Numberings", "numbers", "[I", true)
  | 2 => ("PulseTurns$Numberings", "greatest", "[I", true)
  | 3 => ("PulseTurns$Numberings", "leaves", "[LPulseTurns$Periods;", true)
  | 4 => ("PulseTurns$Numberings", "size", "I", false)
  | 5 => ("PulseTurns$Numberings", "room", "I", false)
  | 6 => ("PulseTurns$Numberings", "begun", "Z", false)
  | _ => ("PulseTurns$Numberings", "ended", "Z", false)
def tyX2 : Nat → FieldType := fun k => match k with
  | 0 => .array .int
  | 1 => .array .int
  | 2 => .array .int
  | 3 => .array (.object "PulseTurns$Periods")
  | 4 => .int
  | 5 => .int
  | 6 => .boolean
  | _ => .boolean
abbrev wsX20 : List Cond := u_ws RX2 TX2 8
theorem nmX2 : ∀ a, a < 8 → ∀ b, b < 8 → a ≠ b → (TX2 a).2.1 ≠ (TX2 b).2.1 := by decide +kernel
theorem tyX2_ok : ∀ k, k < 8 → parseFieldDescriptor (TX2 k).2.2.1 = some (tyX2 k) := by decide +kernel
abbrev cX2_init : ByteArray := prog_4_method_1_code
def yX2_init : MethodName := ⟨RX2, "<init>", "()V"⟩
abbrev cX2_begin : ByteArray := prog_4_method_2_code
def yX2_begin : MethodName := ⟨RX2, "begin", "(LPulseTurns$Hearing;)V"⟩
abbrev cX2_next : ByteArray := prog_4_method_3_code
def yX2_next : MethodName := ⟨RX2, "next", "()Z"⟩
abbrev cX2_search : ByteArray := prog_4_method_4_code
def yX2_search : MethodName := ⟨RX2, "search", "(I)Z"⟩
abbrev cX2_tally : ByteArray := prog_4_method_5_code
def yX2_tally : MethodName := ⟨RX2, "tally", "(I)I"⟩
abbrev cX2_further : ByteArray := prog_4_method_6_code
def yX2_further : MethodName := ⟨RX2, "further", "(I)I"⟩
abbrev cX2_boxPart : ByteArray := prog_4_method_7_code
def yX2_boxPart : MethodName := ⟨RX2, "boxPart", "(I)I"⟩
abbrev cX2_open : ByteArray := prog_4_method_8_code
def yX2_open : MethodName := ⟨RX2, "open", "(I)V"⟩
abbrev cX2_fits : ByteArray := prog_4_method_9_code
def yX2_fits : MethodName := ⟨RX2, "fits", "(I)Z"⟩
def RX3 : String := "PulseTurns$Past"
def TX3 : u_T := fun k => match k with
  | 0 => ("PulseTurns$Past", "ring", "[LPulseTurns$Hearing;", true)
  | 1 => ("PulseTurns$Past", "next", "I", false)
  | _ => ("PulseTurns$Past", "size", "I", false)
def tyX3 : Nat → FieldType := fun k => match k with
  | 0 => .array (.object "PulseTurns$Hearing")
  | 1 => .int
  | _ => .int
abbrev wsX30 : List Cond := u_ws RX3 TX3 3
theorem nmX3 : ∀ a, a < 3 → ∀ b, b < 3 → a ≠ b → (TX3 a).2.1 ≠ (TX3 b).2.1 := by decide +kernel
theorem tyX3_ok : ∀ k, k < 3 → parseFieldDescriptor (TX3 k).2.2.1 = some (tyX3 k) := by decide +kernel
abbrev cX3_init : ByteArray := prog_5_method_1_code
def yX3_init : MethodName := ⟨RX3, "<init>", "()V"⟩
abbrev cX3_push : ByteArray := prog_5_method_2_code
def yX3_push : MethodName := ⟨RX3, "push", "(LPulseTurns$Hearing;)V"⟩
abbrev cX3_pull : ByteArray := prog_5_method_3_code
def yX3_pull : MethodName := ⟨RX3, "pull", "(LPulseTurns$Hearing;)Z"⟩
abbrev cX3_forget : ByteArray := prog_5_method_4_code
def yX3_forget : MethodName := ⟨RX3, "forget", "()V"⟩
def RX4 : String := "PulseTurns$Periods"
def TX4 : u_T := fun k => match k with
  | 0 => ("PulseTurns$Periods", "lowUpper", "I", false)
  | 1 => ("PulseTurns$Periods", "lowLower", "I", false)
  | 2 => ("PulseTurns$Periods", "highUpper", "I", false)
  | _ => ("PulseTurns$Periods", "highLower", "I", false)
def tyX4 : Nat → FieldType := fun k => match k with
  | 0 => .int
  | 1 => .int
  | 2 => .int
  | _ => .int
abbrev wsX40 : List Cond := u_ws RX4 TX4 4
theorem nmX4 : ∀ a, a < 4 → ∀ b, b < 4 → a ≠ b → (TX4 a).2.1 ≠ (TX4 b).2.1 := by decide +kernel
theorem tyX4_ok : ∀ k, k < 4 → parseFieldDescriptor (TX4 k).2.2.1 = some (tyX4 k) := by decide +kernel
abbrev cX4_init : ByteArray := prog_6_method_1_code
def yX4_init : MethodName := ⟨RX4, "<init>", "()V"⟩
abbrev cX4_spread : ByteArray := prog_6_method_2_code
def yX4_spread : MethodName := ⟨RX4, "spread", "(II)V"⟩
abbrev cX4_take : ByteArray := prog_6_method_3_code
def yX4_take : MethodName := ⟨RX4, "take", "(LPulseTurns$Periods;)V"⟩
abbrev cX4_isEmpty : ByteArray := prog_6_method_4_code
def yX4_isEmpty : MethodName := ⟨RX4, "isEmpty", "()Z"⟩
abbrev cX4_cut : ByteArray := prog_6_method_5_code
def yX4_cut : MethodName := ⟨RX4, "cut", "(III)Z"⟩
abbrev cX4_leastTurns : ByteArray := prog_6_method_6_code
def yX4_leastTurns : MethodName := ⟨RX4, "leastTurns", "(II)I"⟩
abbrev cX4_greatestTurns : ByteArray := prog_6_method_7_code
def yX4_greatestTurns : MethodName := ⟨RX4, "greatestTurns", "(II)I"⟩
abbrev cX4_leastCount : ByteArray := prog_6_method_8_code
def yX4_leastCount : MethodName := ⟨RX4, "leastCount", "(LPulseTurns$Hearing;II)I"⟩
abbrev cX4_greatestCount : ByteArray := prog_6_method_9_code
def yX4_greatestCount : MethodName := ⟨RX4, "greatestCount", "(LPulseTurns$Hearing;II)I"⟩
abbrev cX4_narrow : ByteArray := prog_6_method_10_code
def yX4_narrow : MethodName := ⟨RX4, "narrow", "(LPulseTurns$Hearing;)Z"⟩
abbrev cX4_cutByTwo : ByteArray := prog_6_method_11_code
def yX4_cutByTwo : MethodName := ⟨RX4, "cutByTwo", "(LPulseTurns$Hearing;II)Z"⟩
abbrev cX4_part : ByteArray := prog_6_method_12_code
def yX4_part : MethodName := ⟨RX4, "part", "(I)I"⟩
def RX5 : String := "PulseTurns$Reader"
def TX5 : u_T := fun k => match k with
  | 0 => ("PulseTurns$Reader", "letters", "[C", true)
  | 1 => ("PulseTurns$Reader", "length", "I", false)
  | 2 => ("PulseTurns$Reader", "awaited", "I", false)
  | 3 => ("PulseTurns$Reader", "boxTold", "Z", false)
  | _ => ("PulseTurns$Reader", "items", "I", false)
def tyX5 : Nat → FieldType := fun k => match k with
  | 0 => .array .char
  | 1 => .int
  | 2 => .int
  | 3 => .boolean
  | _ => .int
abbrev wsX50 : List Cond := u_ws RX5 TX5 5
theorem nmX5 : ∀ a, a < 5 → ∀ b, b < 5 → a ≠ b → (TX5 a).2.1 ≠ (TX5 b).2.1 := by decide +kernel
theorem tyX5_ok : ∀ k, k < 5 → parseFieldDescriptor (TX5 k).2.2.1 = some (tyX5 k) := by decide +kernel
abbrev cX5_init : ByteArray := prog_7_method_1_code
def yX5_init : MethodName := ⟨RX5, "<init>", "()V"⟩
abbrev cX5_put : ByteArray := prog_7_method_2_code
def yX5_put : MethodName := ⟨RX5, "put", "(I)I"⟩
abbrev cX5_wipe : ByteArray := prog_7_method_3_code
def yX5_wipe : MethodName := ⟨RX5, "wipe", "()I"⟩
abbrev cX5_read : ByteArray := prog_7_method_4_code
def yX5_read : MethodName := ⟨RX5, "read", "(LPulseTurns$Hearing;)I"⟩
abbrev cX5_isDigit : ByteArray := prog_7_method_5_code
def yX5_isDigit : MethodName := ⟨RX5, "isDigit", "(I)Z"⟩
abbrev cX5_lastOfToken : ByteArray := prog_7_method_6_code
def yX5_lastOfToken : MethodName := ⟨RX5, "lastOfToken", "(I)I"⟩
abbrev cX5_valueOfToken : ByteArray := prog_7_method_7_code
def yX5_valueOfToken : MethodName := ⟨RX5, "valueOfToken", "(II)I"⟩
abbrev cX5_takes : ByteArray := prog_7_method_8_code
def yX5_takes : MethodName := ⟨RX5, "takes", "(CILPulseTurns$Hearing;)Z"⟩
abbrev cX5_takesItem : ByteArray := prog_7_method_9_code
def yX5_takesItem : MethodName := ⟨RX5, "takesItem", "(CLPulseTurns$Hearing;)Z"⟩
abbrev cX5_takesTime : ByteArray := prog_7_method_10_code
def yX5_takesTime : MethodName := ⟨RX5, "takesTime", "(ILPulseTurns$Hearing;)Z"⟩
def RX6 : String := "PulseTurns"
def TX6 : u_T := fun k => match k with
  | 0 => ("PulseTurns", "now", "LPulseTurns$Hearing;", true)
  | 1 => ("PulseTurns", "trial", "LPulseTurns$Hearing;", true)
  | 2 => ("PulseTurns", "past", "LPulseTurns$Past;", true)
  | 3 => ("PulseTurns", "images", "[LPulseTurns$Hearing;", true)
  | 4 => ("PulseTurns", "kept", "[Z", true)
  | 5 => ("PulseTurns", "text", "LPulseTurns$Reader;", true)
  | 6 => ("PulseTurns", "numberings", "LPulseTurns$Numberings;", true)
  | 7 => ("PulseTurns", "cutting", "LPulseTurns$Periods;", true)
  | 8 => ("PulseTurns", "firstNumbers", "[I", true)
  | _ => ("PulseTurns", "leftBy", "[I", true)
def tyX6 : Nat → FieldType := fun k => match k with
  | 0 => .object "PulseTurns$Hearing"
  | 1 => .object "PulseTurns$Hearing"
  | 2 => .object "PulseTurns$Past"
  | 3 => .array (.object "PulseTurns$Hearing")
  | 4 => .array .boolean
  | 5 => .object "PulseTurns$Reader"
  | 6 => .object "PulseTurns$Numberings"
  | 7 => .object "PulseTurns$Periods"
  | 8 => .array .int
  | _ => .array .int
abbrev wsX60 : List Cond := u_ws RX6 TX6 10
theorem nmX6 : ∀ a, a < 10 → ∀ b, b < 10 → a ≠ b → (TX6 a).2.1 ≠ (TX6 b).2.1 := by decide +kernel
theorem tyX6_ok : ∀ k, k < 10 → parseFieldDescriptor (TX6 k).2.2.1 = some (tyX6 k) := by decide +kernel
abbrev cX6_init : ByteArray := prog_1_method_1_code
def yX6_init : MethodName := ⟨RX6, "<init>", "()V"⟩
abbrev cX6_type : ByteArray := prog_1_method_2_code
def yX6_type : MethodName := ⟨RX6, "type", "(I)I"⟩
abbrev cX6_clear : ByteArray := prog_1_method_3_code
def yX6_clear : MethodName := ⟨RX6, "clear", "()I"⟩
abbrev cX6_heard : ByteArray := prog_1_method_4_code
def yX6_heard : MethodName := ⟨RX6, "heard", "()I"⟩
abbrev cX6_time : ByteArray := prog_1_method_5_code
def yX6_time : MethodName := ⟨RX6, "time", "(I)I"⟩
abbrev cX6_adds : ByteArray := prog_1_method_6_code
def yX6_adds : MethodName := ⟨RX6, "adds", "(I)I"⟩
abbrev cX6_strikes : ByteArray := prog_1_method_7_code
def yX6_strikes : MethodName := ⟨RX6, "strikes", "(I)I"⟩
abbrev cX6_boxes : ByteArray := prog_1_method_8_code
def yX6_boxes : MethodName := ⟨RX6, "boxes", "(III)I"⟩
abbrev cX6_undo : ByteArray := prog_1_method_9_code
def yX6_undo : MethodName := ⟨RX6, "undo", "()I"⟩
abbrev cX6_counts : ByteArray := prog_1_method_10_code
def yX6_counts : MethodName := ⟨RX6, "counts", "(IIII)I"⟩
abbrev cX6_narrowed : ByteArray := prog_1_method_11_code
def yX6_narrowed : MethodName := ⟨RX6, "narrowed", "(I)I"⟩
abbrev cX6_number : ByteArray := prog_1_method_12_code
def yX6_number : MethodName := ⟨RX6, "number", "(II)I"⟩
abbrev cX6_box : ByteArray := prog_1_method_13_code
def yX6_box : MethodName := ⟨RX6, "box", "(II)I"⟩
abbrev cX6_held : ByteArray := prog_1_method_14_code
def yX6_held : MethodName := ⟨RX6, "held", "(II)I"⟩
abbrev cX6_bend : ByteArray := prog_1_method_15_code
def yX6_bend : MethodName := ⟨RX6, "bend", "(IIII)I"⟩
abbrev cX6_left : ByteArray := prog_1_method_16_code
def yX6_left : MethodName := ⟨RX6, "left", "(I)I"⟩
abbrev cX6_listen : ByteArray := prog_1_method_17_code
def yX6_listen : MethodName := ⟨RX6, "listen", "()I"⟩
abbrev cX6_odds : ByteArray := prog_1_method_18_code
def yX6_odds : MethodName := ⟨RX6, "odds", "(II)I"⟩
abbrev cX6_keep : ByteArray := prog_1_method_19_code
def yX6_keep : MethodName := ⟨RX6, "keep", "(I)I"⟩
abbrev cX6_back : ByteArray := prog_1_method_20_code
def yX6_back : MethodName := ⟨RX6, "back", "(I)I"⟩
abbrev cX6_count : ByteArray := prog_1_method_21_code
def yX6_count : MethodName := ⟨RX6, "count", "(I)I"⟩
abbrev cX6_isImage : ByteArray := prog_1_method_22_code
def yX6_isImage : MethodName := ⟨RX6, "isImage", "(I)Z"⟩
abbrev cX6_isTime : ByteArray := prog_1_method_23_code
def yX6_isTime : MethodName := ⟨RX6, "isTime", "(I)Z"⟩
abbrev cX6_isLow : ByteArray := prog_1_method_24_code
def yX6_isLow : MethodName := ⟨RX6, "isLow", "(I)Z"⟩
abbrev cX6_isHigh : ByteArray := prog_1_method_25_code
def yX6_isHigh : MethodName := ⟨RX6, "isHigh", "(II)Z"⟩
abbrev cX6_isSlack : ByteArray := prog_1_method_26_code
def yX6_isSlack : MethodName := ⟨RX6, "isSlack", "(II)Z"⟩
abbrev cX6_refusesNew : ByteArray := prog_1_method_27_code
def yX6_refusesNew : MethodName := ⟨RX6, "refusesNew", "(I)I"⟩
abbrev cX6_ofRange : ByteArray := prog_1_method_28_code
def yX6_ofRange : MethodName := ⟨RX6, "ofRange", "(IIII)I"⟩
abbrev cX6_power : ByteArray := prog_1_method_29_code
def yX6_power : MethodName := ⟨RX6, "power", "(II)I"⟩
abbrev cX6_standing : ByteArray := prog_1_method_30_code
def yX6_standing : MethodName := ⟨RX6, "standing", "(LPulseTurns$Hearing;)I"⟩
abbrev cX6_goesTo : ByteArray := prog_1_method_31_code
def yX6_goesTo : MethodName := ⟨RX6, "goesTo", "(I)Z"⟩
abbrev cX6_certain : ByteArray := prog_1_method_32_code
def yX6_certain : MethodName := ⟨RX6, "certain", "()I"⟩
abbrev cX6_tellLeftBy : ByteArray := prog_1_method_33_code
def yX6_tellLeftBy : MethodName := ⟨RX6, "tellLeftBy", "(II)V"⟩
abbrev cX6_leavesOne : ByteArray := prog_1_method_34_code
def yX6_leavesOne : MethodName := ⟨RX6, "leavesOne", "(I)Z"⟩
def RX7 : String := "PulseTurnsModel"
def TX7 : u_T := fun k => match k with
  | 0 => ("PulseTurnsModel", "thrown", "I", false)
  | 1 => ("PulseTurnsModel", "text", "[I", true)
  | 2 => ("PulseTurnsModel", "many", "I", false)
  | 3 => ("PulseTurnsModel", "cursor", "I", false)
  | 4 => ("PulseTurnsModel", "start", "I", false)
  | 5 => ("PulseTurnsModel", "token", "I", false)
  | 6 => ("PulseTurnsModel", "value", "I", false)
  | 7 => ("PulseTurnsModel", "now", "[I", true)
  | 8 => ("PulseTurnsModel", "fresh", "[I", true)
  | 9 => ("PulseTurnsModel", "was", "[I", true)
  | 10 => ("PulseTurnsModel", "acts", "I", false)
  | 11 => ("PulseTurnsModel", "isKept", "[Z", true)
  | 12 => ("PulseTurnsModel", "kept", "[I", true)
  | 13 => ("PulseTurnsModel", "heard", "[I", true)
  | 14 => ("PulseTurnsModel", "number", "[I", true)
  | 15 => ("PulseTurnsModel", "lowUp", "[I", true)
  | 16 => ("PulseTurnsModel", "lowDown", "[I", true)
  | 17 => ("PulseTurnsModel", "highUp", "[I", true)
  | 18 => ("PulseTurnsModel", "highDown", "[I", true)
  | 19 => ("PulseTurnsModel", "level", "I", false)
  | 20 => ("PulseTurnsModel", "seen", "[Z", true)
  | 21 => ("PulseTurnsModel", "empty", "Z", false)
  | _ => ("PulseTurnsModel", "first", "[I", true)
def tyX7 : Nat → FieldType := fun k => match k with
  | 0 => .int
  | 1 => .array .int
  | 2 => .int
  | 3 => .int
  | 4 => .int
  | 5 => .int
  | 6 => .int
  | 7 => .array .int
  | 8 => .array .int
  | 9 => .array .int
  | 10 => .int
  | 11 => .array .boolean
  | 12 => .array .int
  | 13 => .array .int
  | 14 => .array .int
  | 15 => .array .int
  | 16 => .array .int
  | 17 => .array .int
  | 18 => .array .int
  | 19 => .int
  | 20 => .array .boolean
  | 21 => .boolean
  | _ => .array .int
abbrev wsX70 : List Cond := u_ws RX7 TX7 23
theorem nmX7 : ∀ a, a < 23 → ∀ b, b < 23 → a ≠ b → (TX7 a).2.1 ≠ (TX7 b).2.1 := by decide +kernel
theorem tyX7_ok : ∀ k, k < 23 → parseFieldDescriptor (TX7 k).2.2.1 = some (tyX7 k) := by decide +kernel
abbrev cX7_in : ByteArray := prog_9_method_1_code
def yX7_in : MethodName := ⟨RX7, "in", "(JJJ)Z"⟩
abbrev cX7_type : ByteArray := prog_9_method_2_code
def yX7_type : MethodName := ⟨RX7, "type", "(I)I"⟩
abbrev cX7_clear : ByteArray := prog_9_method_3_code
def yX7_clear : MethodName := ⟨RX7, "clear", "()I"⟩
abbrev cX7_letterAt : ByteArray := prog_9_method_4_code
def yX7_letterAt : MethodName := ⟨RX7, "letterAt", "(I)I"⟩
abbrev cX7_next : ByteArray := prog_9_method_5_code
def yX7_next : MethodName := ⟨RX7, "next", "()V"⟩
abbrev cX7_isNumber : ByteArray := prog_9_method_6_code
def yX7_isNumber : MethodName := ⟨RX7, "isNumber", "(II)Z"⟩
abbrev cX7_init : ByteArray := prog_9_method_7_code
def yX7_init : MethodName := ⟨RX7, "<init>", "()V"⟩
abbrev cX7_placeOf : ByteArray := prog_9_method_8_code
def yX7_placeOf : MethodName := ⟨RX7, "placeOf", "([II)I"⟩
abbrev cX7_put : ByteArray := prog_9_method_9_code
def yX7_put : MethodName := ⟨RX7, "put", "([II)V"⟩
abbrev cX7_drop : ByteArray := prog_9_method_10_code
def yX7_drop : MethodName := ⟨RX7, "drop", "([II)V"⟩
abbrev cX7_readBox : ByteArray := prog_9_method_11_code
def yX7_readBox : MethodName := ⟨RX7, "readBox", "()Z"⟩
abbrev cX7_readTime : ByteArray := prog_9_method_12_code
def yX7_readTime : MethodName := ⟨RX7, "readTime", "()Z"⟩
abbrev cX7_readOne : ByteArray := prog_9_method_13_code
def yX7_readOne : MethodName := ⟨RX7, "readOne", "(Z)Z"⟩
abbrev cX7_heard : ByteArray := prog_9_method_14_code
def yX7_heard : MethodName := ⟨RX7, "heard", "()I"⟩
abbrev cX7_copyAll : ByteArray := prog_9_method_15_code
def yX7_copyAll : MethodName := ⟨RX7, "copyAll", "([I[I)V"⟩
abbrev cX7_isArrival : ByteArray := prog_9_method_16_code
def yX7_isArrival : MethodName := ⟨RX7, "isArrival", "(I)Z"⟩
abbrev cX7_time : ByteArray := prog_9_method_17_code
def yX7_time : MethodName := ⟨RX7, "time", "(I)I"⟩
abbrev cX7_keepAct : ByteArray := prog_9_method_18_code
def yX7_keepAct : MethodName := ⟨RX7, "keepAct", "()V"⟩
abbrev cX7_adds : ByteArray := prog_9_method_19_code
def yX7_adds : MethodName := ⟨RX7, "adds", "(I)I"⟩
abbrev cX7_strikes : ByteArray := prog_9_method_20_code
def yX7_strikes : MethodName := ⟨RX7, "strikes", "(I)I"⟩
abbrev cX7_boxes : ByteArray := prog_9_method_21_code
def yX7_boxes : MethodName := ⟨RX7, "boxes", "(III)I"⟩
abbrev cX7_undo : ByteArray := prog_9_method_22_code
def yX7_undo : MethodName := ⟨RX7, "undo", "()I"⟩
abbrev cX7_apart : ByteArray := prog_9_method_23_code
def yX7_apart : MethodName := ⟨RX7, "apart", "([III)I"⟩
abbrev cX7_begin : ByteArray := prog_9_method_24_code
def yX7_begin : MethodName := ⟨RX7, "begin", "([I)V"⟩
abbrev cX7_doesCut : ByteArray := prog_9_method_25_code
def yX7_doesCut : MethodName := ⟨RX7, "doesCut", "(I)Z"⟩
abbrev cX7_isBeyond : ByteArray := prog_9_method_26_code
def yX7_isBeyond : MethodName := ⟨RX7, "isBeyond", "(I)Z"⟩
abbrev cX7_goesOn : ByteArray := prog_9_method_27_code
def yX7_goesOn : MethodName := ⟨RX7, "goesOn", "()Z"⟩
abbrev cX7_standing : ByteArray := prog_9_method_28_code
def yX7_standing : MethodName := ⟨RX7, "standing", "([I)I"⟩
abbrev cX7_isNumbered : ByteArray := prog_9_method_29_code
def yX7_isNumbered : MethodName := ⟨RX7, "isNumbered", "(I)Z"⟩
abbrev cX7_number : ByteArray := prog_9_method_30_code
def yX7_number : MethodName := ⟨RX7, "number", "(II)I"⟩
abbrev cX7_common : ByteArray := prog_9_method_31_code
def yX7_common : MethodName := ⟨RX7, "common", "(II)I"⟩
abbrev cX7_least : ByteArray := prog_9_method_32_code
def yX7_least : MethodName := ⟨RX7, "least", "(IIZ)I"⟩
abbrev cX7_ends : ByteArray := prog_9_method_33_code
def yX7_ends : MethodName := ⟨RX7, "ends", "(IIIII)I"⟩
abbrev cX7_box : ByteArray := prog_9_method_34_code
def yX7_box : MethodName := ⟨RX7, "box", "(II)I"⟩
abbrev cX7_held : ByteArray := prog_9_method_35_code
def yX7_held : MethodName := ⟨RX7, "held", "(II)I"⟩
abbrev cX7_bend : ByteArray := prog_9_method_36_code
def yX7_bend : MethodName := ⟨RX7, "bend", "(IIII)I"⟩
abbrev cX7_left : ByteArray := prog_9_method_37_code
def yX7_left : MethodName := ⟨RX7, "left", "(I)I"⟩
abbrev cX7_leftBy : ByteArray := prog_9_method_38_code
def yX7_leftBy : MethodName := ⟨RX7, "leftBy", "(I)I"⟩
abbrev cX7_listen : ByteArray := prog_9_method_39_code
def yX7_listen : MethodName := ⟨RX7, "listen", "()I"⟩
abbrev cX7_odds : ByteArray := prog_9_method_40_code
def yX7_odds : MethodName := ⟨RX7, "odds", "(II)I"⟩
abbrev cX7_countsOf : ByteArray := prog_9_method_41_code
def yX7_countsOf : MethodName := ⟨RX7, "countsOf", "(II)I"⟩
abbrev cX7_leastOf : ByteArray := prog_9_method_42_code
def yX7_leastOf : MethodName := ⟨RX7, "leastOf", "(II)I"⟩
abbrev cX7_greatestOf : ByteArray := prog_9_method_43_code
def yX7_greatestOf : MethodName := ⟨RX7, "greatestOf", "(II)I"⟩
abbrev cX7_isNarrower : ByteArray := prog_9_method_44_code
def yX7_isNarrower : MethodName := ⟨RX7, "isNarrower", "(II)Z"⟩
abbrev cX7_narrow : ByteArray := prog_9_method_45_code
def yX7_narrow : MethodName := ⟨RX7, "narrow", "()V"⟩
abbrev cX7_counts : ByteArray := prog_9_method_46_code
def yX7_counts : MethodName := ⟨RX7, "counts", "(IIII)I"⟩
abbrev cX7_narrowed : ByteArray := prog_9_method_47_code
def yX7_narrowed : MethodName := ⟨RX7, "narrowed", "(I)I"⟩
abbrev cX7_keep : ByteArray := prog_9_method_48_code
def yX7_keep : MethodName := ⟨RX7, "keep", "(I)I"⟩
abbrev cX7_back : ByteArray := prog_9_method_49_code
def yX7_back : MethodName := ⟨RX7, "back", "(I)I"⟩
abbrev cX7_certain : ByteArray := prog_9_method_50_code
def yX7_certain : MethodName := ⟨RX7, "certain", "()I"⟩
abbrev cX7_count : ByteArray := prog_9_method_51_code
def yX7_count : MethodName := ⟨RX7, "count", "(I)I"⟩
def RJ6 : String := "java/lang/Integer"
def TJ6 : u_T := fun k => match k with
  | _ => ("", "", "", false)
def tyJ6 : Nat → FieldType := fun k => match k with
  | _ => .int
abbrev wsJ60 : List Cond := u_ws RJ6 TJ6 0
theorem nmJ6 : ∀ a, a < 0 → ∀ b, b < 0 → a ≠ b → (TJ6 a).2.1 ≠ (TJ6 b).2.1 := by decide +kernel
theorem tyJ6_ok : ∀ k, k < 0 → parseFieldDescriptor (TJ6 k).2.2.1 = some (tyJ6 k) := by decide +kernel
abbrev cJ6_bitCount_0f7a4 : ByteArray := prog_10_method_49_code
def yJ6_bitCount_0f7a4 : MethodName := ⟨RJ6, "bitCount", "(I)I"⟩
def RJ9 : String := "java/lang/Math"
def TJ9 : u_T := fun k => match k with
  | _ => ("", "", "", false)
def tyJ9 : Nat → FieldType := fun k => match k with
  | _ => .int
abbrev wsJ90 : List Cond := u_ws RJ9 TJ9 0
theorem nmJ9 : ∀ a, a < 0 → ∀ b, b < 0 → a ≠ b → (TJ9 a).2.1 ≠ (TJ9 b).2.1 := by decide +kernel
theorem tyJ9_ok : ∀ k, k < 0 → parseFieldDescriptor (TJ9 k).2.2.1 = some (tyJ9 k) := by decide +kernel
abbrev cJ9_abs_0f7a4 : ByteArray := prog_11_method_59_code
def yJ9_abs_0f7a4 : MethodName := ⟨RJ9, "abs", "(I)I"⟩
abbrev cJ9_max_7cf53 : ByteArray := prog_11_method_65_code
def yJ9_max_7cf53 : MethodName := ⟨RJ9, "max", "(II)I"⟩
abbrev cJ9_min_7cf53 : ByteArray := prog_11_method_69_code
def yJ9_min_7cf53 : MethodName := ⟨RJ9, "min", "(II)I"⟩
def RL : String := "PulseTurnsLaw"
abbrev cL_law : ByteArray := code
def yL_law : MethodName := ⟨RL, "law", "([I)Z"⟩
def wsX0_commonDivisor : List Cond := .code yX0_commonDivisor cX0_commonDivisor 6 (some .int) :: ([.constant RX0 21 (1000000)])
def wsX0_part : List Cond := .code yX0_part cX0_part 4 (some .int) :: ([.methodLink RX0 9 Lib.Math.abs.name, .static Lib.Math.abs.name, .initialized "java/lang/Math", .code Lib.Math.abs.name Lib.Math.abs.code 1 (some .int), .methodLink RX0 15 yX0_commonDivisor, .static yX0_commonDivisor, .initialized RX0, .code yX0_commonDivisor cX0_commonDivisor 6 (some .int), .constant RX0 21 (1000000)])
def wsX1_reset : List Cond := .code yX1_reset cX1_reset 1 none :: ([.fieldLink RX1 18 "PulseTurns$Hearing" "size" "I", .fieldLink RX1 22 "PulseTurns$Hearing" "low" "I", .fieldLink RX1 25 "PulseTurns$Hearing" "high" "I", .fieldLink RX1 28 "PulseTurns$Hearing" "slack" "I"] ++ wsX10)
def wsX1_init : List Cond := .code yX1_init cX1_init 1 none :: ([.methodLink RX1 3 objectInit, .instanceMethod objectInit, .code objectInit ⟨#[0xb1]⟩ 1 none, .arrayClass .int, .fieldLink RX1 9 "PulseTurns$Hearing" "times" "[I", .methodLink RX1 15 yX1_reset, .instanceMethod yX1_reset, .selects RX1 yX1_reset yX1_reset, .initialized RX1, .code yX1_reset cX1_reset 1 none, .fieldLink RX1 18 "PulseTurns$Hearing" "size" "I", .fieldLink RX1 22 "PulseTurns$Hearing" "low" "I", .fieldLink RX1 25 "PulseTurns$Hearing" "high" "I", .fieldLink RX1 28 "PulseTurns$Hearing" "slack" "I"] ++ wsX10)
def wsX1_take : List Cond := .code yX1_take cX1_take 3 none :: ([.fieldLink RX1 9 "PulseTurns$Hearing" "times" "[I", .fieldLink RX1 18 "PulseTurns$Hearing" "size" "I", .fieldLink RX1 22 "PulseTurns$Hearing" "low" "I", .fieldLink RX1 25 "PulseTurns$Hearing" "high" "I", .fieldLink RX1 28 "PulseTurns$Hearing" "slack" "I"] ++ wsX10)
def wsX1_hasArrival : List Cond := .code yX1_hasArrival cX1_hasArrival 2 (some .boolean) :: ([.fieldLink RX1 18 "PulseTurns$Hearing" "size" "I"] ++ wsX10)
def wsX1_hears : List Cond := .code yX1_hears cX1_hears 3 (some .boolean) :: ([.fieldLink RX1 18 "PulseTurns$Hearing" "size" "I", .fieldLink RX1 9 "PulseTurns$Hearing" "times" "[I"] ++ wsX10)
def wsX1_place : List Cond := .code yX1_place cX1_place 4 (some .int) :: ([.fieldLink RX1 18 "PulseTurns$Hearing" "size" "I", .fieldLink RX1 9 "PulseTurns$Hearing" "times" "[I"] ++ wsX10)
def wsX1_drop : List Cond := .code yX1_drop cX1_drop 4 (some .int) :: ([.fieldLink RX1 9 "PulseTurns$Hearing" "times" "[I", .fieldLink RX1 18 "PulseTurns$Hearing" "size" "I", .methodLink RX1 31 yX1_hasArrival, .instanceMethod yX1_hasArrival, .selects RX1 yX1_hasArrival yX1_hasArrival, .initialized RX1, .code yX1_hasArrival cX1_hasArrival 2 (some .boolean)] ++ wsX10)
def wsX4_init : List Cond := .code yX4_init cX4_init 1 none :: ([.methodLink RX4 3 objectInit, .instanceMethod objectInit, .code objectInit ⟨#[0xb1]⟩ 1 none, .fieldLink RX4 9 "PulseTurns$Periods" "lowUpper" "I", .fieldLink RX4 15 "PulseTurns$Periods" "lowLower" "I", .fieldLink RX4 18 "PulseTurns$Periods" "highUpper" "I", .fieldLink RX4 21 "PulseTurns$Periods" "highLower" "I"] ++ wsX40)
def wsX2_init : List Cond := .code yX2_init cX2_init 2 none :: ([.methodLink RX2 3 objectInit, .instanceMethod objectInit, .code objectInit ⟨#[0xb1]⟩ 1 none, .arrayClass .int, .fieldLink RX2 9 "PulseTurns$Numberings" "times" "[I", .fieldLink RX2 15 "PulseTurns$Numberings" "numbers" "[I", .fieldLink RX2 18 "PulseTurns$Numberings" "greatest" "[I", .classLink RX2 21 RX4, .fieldLink RX2 23 "PulseTurns$Numberings" "leaves" "[LPulseTurns$Periods;", .instantiable RX4 4, .initialized RX4, .instanceMethod yX4_init, .code yX4_init cX4_init 1 none, .methodLink RX4 3 objectInit, .fieldLink RX4 9 "PulseTurns$Periods" "lowUpper" "I", .fieldLink RX4 15 "PulseTurns$Periods" "lowLower" "I", .fieldLink RX4 18 "PulseTurns$Periods" "highUpper" "I", .fieldLink RX4 21 "PulseTurns$Periods" "highLower" "I"] ++ wsX20 ++ wsX40)
def wsX4_spread : List Cond := .code yX4_spread cX4_spread 3 none :: ([.fieldLink RX4 9 "PulseTurns$Periods" "lowUpper" "I", .fieldLink RX4 15 "PulseTurns$Periods" "lowLower" "I", .fieldLink RX4 18 "PulseTurns$Periods" "highUpper" "I", .fieldLink RX4 21 "PulseTurns$Periods" "highLower" "I"] ++ wsX40)
def wsX2_begin : List Cond := .code yX2_begin cX2_begin 3 none :: ([.fieldLink RX2 9 "PulseTurns$Numberings" "times" "[I", .fieldLink RX2 28 "PulseTurns$Hearing" "times" "[I", .fieldLink RX2 31 "PulseTurns$Hearing" "size" "I", .fieldLink RX2 35 "PulseTurns$Numberings" "size" "I", .fieldLink RX2 36 "PulseTurns$Hearing" "slack" "I", .fieldLink RX2 39 "PulseTurns$Numberings" "room" "I", .fieldLink RX2 42 "PulseTurns$Numberings" "begun" "Z", .fieldLink RX2 46 "PulseTurns$Numberings" "ended" "Z", .fieldLink RX2 15 "PulseTurns$Numberings" "numbers" "[I", .fieldLink RX2 23 "PulseTurns$Numberings" "leaves" "[LPulseTurns$Periods;", .fieldLink RX2 49 "PulseTurns$Hearing" "low" "I", .fieldLink RX2 52 "PulseTurns$Hearing" "high" "I", .methodLink RX2 55 yX4_spread, .instanceMethod yX4_spread, .selects RX4 yX4_spread yX4_spread, .initialized RX4, .code yX4_spread cX4_spread 3 none, .fieldLink RX4 9 "PulseTurns$Periods" "lowUpper" "I", .fieldLink RX4 15 "PulseTurns$Periods" "lowLower" "I", .fieldLink RX4 18 "PulseTurns$Periods" "highUpper" "I", .fieldLink RX4 21 "PulseTurns$Periods" "highLower" "I"] ++ wsX20 ++ wsX10 ++ wsX40)
def wsX4_leastTurns : List Cond := .code yX4_leastTurns cX4_leastTurns 3 (some .int) :: ([.fieldLink RX4 18 "PulseTurns$Periods" "highUpper" "I", .fieldLink RX4 21 "PulseTurns$Periods" "highLower" "I"] ++ wsX40)
def wsX4_greatestTurns : List Cond := .code yX4_greatestTurns cX4_greatestTurns 3 (some .int) :: ([.fieldLink RX4 9 "PulseTurns$Periods" "lowUpper" "I", .fieldLink RX4 15 "PulseTurns$Periods" "lowLower" "I"] ++ wsX40)
def wsX2_open : List Cond := .code yX2_open cX2_open 4 none :: ([.fieldLink RX2 9 "PulseTurns$Numberings" "times" "[I", .fieldLink RX2 23 "PulseTurns$Numberings" "leaves" "[LPulseTurns$Periods;", .fieldLink RX2 39 "PulseTurns$Numberings" "room" "I", .fieldLink RX2 15 "PulseTurns$Numberings" "numbers" "[I", .methodLink RX2 83 Lib.Math.max.name, .static Lib.Math.max.name, .initialized "java/lang/Math", .code Lib.Math.max.name Lib.Math.max.code 2 (some .int), .fieldLink RX2 18 "PulseTurns$Numberings" "greatest" "[I", .methodLink RX2 79 yX4_leastTurns, .instanceMethod yX4_leastTurns, .selects RX4 yX4_leastTurns yX4_leastTurns, .initialized RX4, .code yX4_leastTurns cX4_leastTurns 3 (some .int), .fieldLink RX4 18 "PulseTurns$Periods" "highUpper" "I", .fieldLink RX4 21 "PulseTurns$Periods" "highLower" "I", .methodLink RX2 88 yX4_greatestTurns, .instanceMethod yX4_greatestTurns, .selects RX4 yX4_greatestTurns yX4_greatestTurns, .code yX4_greatestTurns cX4_greatestTurns 3 (some .int), .fieldLink RX4 9 "PulseTurns$Periods" "lowUpper" "I", .fieldLink RX4 15 "PulseTurns$Periods" "lowLower" "I"] ++ wsX20 ++ wsX40)
def wsX4_take : List Cond := .code yX4_take cX4_take 2 none :: ([.fieldLink RX4 9 "PulseTurns$Periods" "lowUpper" "I", .fieldLink RX4 15 "PulseTurns$Periods" "lowLower" "I", .fieldLink RX4 18 "PulseTurns$Periods" "highUpper" "I", .fieldLink RX4 21 "PulseTurns$Periods" "highLower" "I"] ++ wsX40)
def wsX4_cut : List Cond := .code yX4_cut cX4_cut 5 (some .boolean) :: ([.fieldLink RX4 15 "PulseTurns$Periods" "lowLower" "I", .fieldLink RX4 9 "PulseTurns$Periods" "lowUpper" "I", .fieldLink RX4 21 "PulseTurns$Periods" "highLower" "I", .fieldLink RX4 18 "PulseTurns$Periods" "highUpper" "I"] ++ wsX40)
def wsX4_isEmpty : List Cond := .code yX4_isEmpty cX4_isEmpty 1 (some .boolean) :: ([.fieldLink RX4 9 "PulseTurns$Periods" "lowUpper" "I", .fieldLink RX4 21 "PulseTurns$Periods" "highLower" "I", .fieldLink RX4 18 "PulseTurns$Periods" "highUpper" "I", .fieldLink RX4 15 "PulseTurns$Periods" "lowLower" "I"] ++ wsX40)
def wsX2_fits : List Cond := .code yX2_fits cX2_fits 4 (some .boolean) :: ([.fieldLink RX2 23 "PulseTurns$Numberings" "leaves" "[LPulseTurns$Periods;", .fieldLink RX2 9 "PulseTurns$Numberings" "times" "[I", .fieldLink RX2 39 "PulseTurns$Numberings" "room" "I", .fieldLink RX2 15 "PulseTurns$Numberings" "numbers" "[I", .methodLink RX2 91 yX4_take, .instanceMethod yX4_take, .selects RX4 yX4_take yX4_take, .initialized RX4, .code yX4_take cX4_take 2 none, .fieldLink RX4 9 "PulseTurns$Periods" "lowUpper" "I", .fieldLink RX4 15 "PulseTurns$Periods" "lowLower" "I", .fieldLink RX4 18 "PulseTurns$Periods" "highUpper" "I", .fieldLink RX4 21 "PulseTurns$Periods" "highLower" "I", .methodLink RX2 95 yX4_cut, .instanceMethod yX4_cut, .selects RX4 yX4_cut yX4_cut, .code yX4_cut cX4_cut 5 (some .boolean), .methodLink RX2 99 yX4_isEmpty, .instanceMethod yX4_isEmpty, .selects RX4 yX4_isEmpty yX4_isEmpty, .code yX4_isEmpty cX4_isEmpty 1 (some .boolean)] ++ wsX20 ++ wsX40)
def wsX2_search_r1 : List Cond := [Cond.constant RX2 67 (1000000), Cond.fieldLink RX2 15 "PulseTurns$Numberings" "numbers" "[I", Cond.fieldLink RX2 18 "PulseTurns$Numberings" "greatest" "[I", Cond.fieldLink RX2 35 "PulseTurns$Numberings" "size" "I", Cond.methodLink RX2 68 yX2_fits, Cond.instanceMethod yX2_fits, Cond.selects RX2 yX2_fits yX2_fits, Cond.initialized RX2, Cond.code yX2_fits cX2_fits 4 (some .boolean), Cond.fieldLink RX2 23 "PulseTurns$Numberings" "leaves" "[LPulseTurns$Periods;", Cond.fieldLink RX2 9 "PulseTurns$Numberings" "times" "[I", Cond.fieldLink RX2 39 "PulseTurns$Numberings" "room" "I", Cond.methodLink RX2 91 yX4_take, Cond.instanceMethod yX4_take, Cond.selects RX4 yX4_take yX4_take, Cond.initialized RX4, Cond.code yX4_take cX4_take 2 none, Cond.fieldLink RX4 9 "PulseTurns$Periods" "lowUpper" "I", Cond.fieldLink RX4 15 "PulseTurns$Periods" "lowLower" "I", Cond.fieldLink RX4 18 "PulseTurns$Periods" "highUpper" "I", Cond.fieldLink RX4 21 "PulseTurns$Periods" "highLower" "I", Cond.methodLink RX2 95 yX4_cut, Cond.instanceMethod yX4_cut, Cond.selects RX4 yX4_cut yX4_cut]
def wsX2_search_r2 : List Cond := [Cond.code yX4_cut cX4_cut 5 (some .boolean), Cond.methodLink RX2 99 yX4_isEmpty, Cond.instanceMethod yX4_isEmpty, Cond.selects RX4 yX4_isEmpty yX4_isEmpty, Cond.code yX4_isEmpty cX4_isEmpty 1 (some .boolean), Cond.methodLink RX2 59 yX2_open, Cond.instanceMethod yX2_open, Cond.selects RX2 yX2_open yX2_open, Cond.code yX2_open cX2_open 4 none, Cond.methodLink RX2 83 Lib.Math.max.name, Cond.static Lib.Math.max.name, Cond.initialized "java/lang/Math", Cond.code Lib.Math.max.name Lib.Math.max.code 2 (some .int), Cond.methodLink RX2 79 yX4_leastTurns, Cond.instanceMethod yX4_leastTurns, Cond.selects RX4 yX4_leastTurns yX4_leastTurns, Cond.code yX4_leastTurns cX4_leastTurns 3 (some .int), Cond.methodLink RX2 88 yX4_greatestTurns, Cond.instanceMethod yX4_greatestTurns, Cond.selects RX4 yX4_greatestTurns yX4_greatestTurns, Cond.code yX4_greatestTurns cX4_greatestTurns 3 (some .int)]
def wsX2_search : List Cond := .code yX2_search cX2_search 4 (some .boolean) :: ((wsX2_search_r1 ++ wsX2_search_r2) ++ wsX20 ++ wsX40)
def wsX2_next_r1 : List Cond := [Cond.fieldLink RX2 46 "PulseTurns$Numberings" "ended" "Z", Cond.fieldLink RX2 35 "PulseTurns$Numberings" "size" "I", Cond.fieldLink RX2 42 "PulseTurns$Numberings" "begun" "Z", Cond.methodLink RX2 59 yX2_open, Cond.instanceMethod yX2_open, Cond.selects RX2 yX2_open yX2_open, Cond.initialized RX2, Cond.code yX2_open cX2_open 4 none, Cond.fieldLink RX2 9 "PulseTurns$Numberings" "times" "[I", Cond.fieldLink RX2 23 "PulseTurns$Numberings" "leaves" "[LPulseTurns$Periods;", Cond.fieldLink RX2 39 "PulseTurns$Numberings" "room" "I", Cond.fieldLink RX2 15 "PulseTurns$Numberings" "numbers" "[I", Cond.methodLink RX2 83 Lib.Math.max.name, Cond.static Lib.Math.max.name, Cond.initialized "java/lang/Math", Cond.code Lib.Math.max.name Lib.Math.max.code 2 (some .int), Cond.fieldLink RX2 18 "PulseTurns$Numberings" "greatest" "[I", Cond.methodLink RX2 79 yX4_leastTurns, Cond.instanceMethod yX4_leastTurns, Cond.selects RX4 yX4_leastTurns yX4_leastTurns, Cond.initialized RX4, Cond.code yX4_leastTurns cX4_leastTurns 3 (some .int), Cond.fieldLink RX4 18 "PulseTurns$Periods" "highUpper" "I", Cond.fieldLink RX4 21 "PulseTurns$Periods" "highLower" "I"]
def wsX2_next_r2 : List Cond := [Cond.methodLink RX2 88 yX4_greatestTurns, Cond.instanceMethod yX4_greatestTurns, Cond.selects RX4 yX4_greatestTurns yX4_greatestTurns, Cond.code yX4_greatestTurns cX4_greatestTurns 3 (some .int), Cond.fieldLink RX4 9 "PulseTurns$Periods" "lowUpper" "I", Cond.fieldLink RX4 15 "PulseTurns$Periods" "lowLower" "I", Cond.methodLink RX2 63 yX2_search, Cond.instanceMethod yX2_search, Cond.selects RX2 yX2_search yX2_search, Cond.code yX2_search cX2_search 4 (some .boolean), Cond.constant RX2 67 (1000000), Cond.methodLink RX2 68 yX2_fits, Cond.instanceMethod yX2_fits, Cond.selects RX2 yX2_fits yX2_fits, Cond.code yX2_fits cX2_fits 4 (some .boolean), Cond.methodLink RX2 91 yX4_take, Cond.instanceMethod yX4_take, Cond.selects RX4 yX4_take yX4_take, Cond.code yX4_take cX4_take 2 none, Cond.methodLink RX2 95 yX4_cut, Cond.instanceMethod yX4_cut, Cond.selects RX4 yX4_cut yX4_cut, Cond.code yX4_cut cX4_cut 5 (some .boolean), Cond.methodLink RX2 99 yX4_isEmpty]
def wsX2_next_r3 : List Cond := [Cond.instanceMethod yX4_isEmpty, Cond.selects RX4 yX4_isEmpty yX4_isEmpty, Cond.code yX4_isEmpty cX4_isEmpty 1 (some .boolean)]
def wsX2_next : List Cond := .code yX2_next cX2_next 2 (some .boolean) :: ((wsX2_next_r1 ++ (wsX2_next_r2 ++ wsX2_next_r3)) ++ wsX20 ++ wsX40)
def wsX2_tally_r1 : List Cond := [Cond.methodLink RX2 71 yX2_next, Cond.instanceMethod yX2_next, Cond.selects RX2 yX2_next yX2_next, Cond.initialized RX2, Cond.code yX2_next cX2_next 2 (some .boolean), Cond.fieldLink RX2 46 "PulseTurns$Numberings" "ended" "Z", Cond.fieldLink RX2 35 "PulseTurns$Numberings" "size" "I", Cond.fieldLink RX2 42 "PulseTurns$Numberings" "begun" "Z", Cond.methodLink RX2 59 yX2_open, Cond.instanceMethod yX2_open, Cond.selects RX2 yX2_open yX2_open, Cond.code yX2_open cX2_open 4 none, Cond.fieldLink RX2 9 "PulseTurns$Numberings" "times" "[I", Cond.fieldLink RX2 23 "PulseTurns$Numberings" "leaves" "[LPulseTurns$Periods;", Cond.fieldLink RX2 39 "PulseTurns$Numberings" "room" "I", Cond.fieldLink RX2 15 "PulseTurns$Numberings" "numbers" "[I", Cond.methodLink RX2 83 Lib.Math.max.name, Cond.static Lib.Math.max.name, Cond.initialized "java/lang/Math", Cond.code Lib.Math.max.name Lib.Math.max.code 2 (some .int), Cond.fieldLink RX2 18 "PulseTurns$Numberings" "greatest" "[I", Cond.methodLink RX2 79 yX4_leastTurns, Cond.instanceMethod yX4_leastTurns, Cond.selects RX4 yX4_leastTurns yX4_leastTurns]
def wsX2_tally_r2 : List Cond := [Cond.initialized RX4, Cond.code yX4_leastTurns cX4_leastTurns 3 (some .int), Cond.fieldLink RX4 18 "PulseTurns$Periods" "highUpper" "I", Cond.fieldLink RX4 21 "PulseTurns$Periods" "highLower" "I", Cond.methodLink RX2 88 yX4_greatestTurns, Cond.instanceMethod yX4_greatestTurns, Cond.selects RX4 yX4_greatestTurns yX4_greatestTurns, Cond.code yX4_greatestTurns cX4_greatestTurns 3 (some .int), Cond.fieldLink RX4 9 "PulseTurns$Periods" "lowUpper" "I", Cond.fieldLink RX4 15 "PulseTurns$Periods" "lowLower" "I", Cond.methodLink RX2 63 yX2_search, Cond.instanceMethod yX2_search, Cond.selects RX2 yX2_search yX2_search, Cond.code yX2_search cX2_search 4 (some .boolean), Cond.constant RX2 67 (1000000), Cond.methodLink RX2 68 yX2_fits, Cond.instanceMethod yX2_fits, Cond.selects RX2 yX2_fits yX2_fits, Cond.code yX2_fits cX2_fits 4 (some .boolean), Cond.methodLink RX2 91 yX4_take, Cond.instanceMethod yX4_take, Cond.selects RX4 yX4_take yX4_take, Cond.code yX4_take cX4_take 2 none, Cond.methodLink RX2 95 yX4_cut]
def wsX2_tally_r3 : List Cond := [Cond.instanceMethod yX4_cut, Cond.selects RX4 yX4_cut yX4_cut, Cond.code yX4_cut cX4_cut 5 (some .boolean), Cond.methodLink RX2 99 yX4_isEmpty, Cond.instanceMethod yX4_isEmpty, Cond.selects RX4 yX4_isEmpty yX4_isEmpty, Cond.code yX4_isEmpty cX4_isEmpty 1 (some .boolean)]
def wsX2_tally : List Cond := .code yX2_tally cX2_tally 3 (some .int) :: ((wsX2_tally_r1 ++ (wsX2_tally_r2 ++ wsX2_tally_r3)) ++ wsX20 ++ wsX40)
def wsX2_further_r1 : List Cond := [Cond.fieldLink RX2 35 "PulseTurns$Numberings" "size" "I", Cond.fieldLink RX2 9 "PulseTurns$Numberings" "times" "[I", Cond.fieldLink RX2 15 "PulseTurns$Numberings" "numbers" "[I", Cond.fieldLink RX2 18 "PulseTurns$Numberings" "greatest" "[I", Cond.methodLink RX2 59 yX2_open, Cond.instanceMethod yX2_open, Cond.selects RX2 yX2_open yX2_open, Cond.initialized RX2, Cond.code yX2_open cX2_open 4 none, Cond.fieldLink RX2 23 "PulseTurns$Numberings" "leaves" "[LPulseTurns$Periods;", Cond.fieldLink RX2 39 "PulseTurns$Numberings" "room" "I", Cond.methodLink RX2 83 Lib.Math.max.name, Cond.static Lib.Math.max.name, Cond.initialized "java/lang/Math", Cond.code Lib.Math.max.name Lib.Math.max.code 2 (some .int), Cond.methodLink RX2 79 yX4_leastTurns, Cond.instanceMethod yX4_leastTurns, Cond.selects RX4 yX4_leastTurns yX4_leastTurns, Cond.initialized RX4, Cond.code yX4_leastTurns cX4_leastTurns 3 (some .int), Cond.fieldLink RX4 18 "PulseTurns$Periods" "highUpper" "I", Cond.fieldLink RX4 21 "PulseTurns$Periods" "highLower" "I", Cond.methodLink RX2 88 yX4_greatestTurns, Cond.instanceMethod yX4_greatestTurns]
def wsX2_further_r2 : List Cond := [Cond.selects RX4 yX4_greatestTurns yX4_greatestTurns, Cond.code yX4_greatestTurns cX4_greatestTurns 3 (some .int), Cond.fieldLink RX4 9 "PulseTurns$Periods" "lowUpper" "I", Cond.fieldLink RX4 15 "PulseTurns$Periods" "lowLower" "I", Cond.methodLink RX2 68 yX2_fits, Cond.instanceMethod yX2_fits, Cond.selects RX2 yX2_fits yX2_fits, Cond.code yX2_fits cX2_fits 4 (some .boolean), Cond.methodLink RX2 91 yX4_take, Cond.instanceMethod yX4_take, Cond.selects RX4 yX4_take yX4_take, Cond.code yX4_take cX4_take 2 none, Cond.methodLink RX2 95 yX4_cut, Cond.instanceMethod yX4_cut, Cond.selects RX4 yX4_cut yX4_cut, Cond.code yX4_cut cX4_cut 5 (some .boolean), Cond.methodLink RX2 99 yX4_isEmpty, Cond.instanceMethod yX4_isEmpty, Cond.selects RX4 yX4_isEmpty yX4_isEmpty, Cond.code yX4_isEmpty cX4_isEmpty 1 (some .boolean)]
def wsX2_further : List Cond := .code yX2_further cX2_further 4 (some .int) :: ((wsX2_further_r1 ++ wsX2_further_r2) ++ wsX20 ++ wsX40)
def wsX4_part : List Cond := .code yX4_part cX4_part 2 (some .int) :: ([.fieldLink RX4 9 "PulseTurns$Periods" "lowUpper" "I", .fieldLink RX4 15 "PulseTurns$Periods" "lowLower" "I", .fieldLink RX4 18 "PulseTurns$Periods" "highUpper" "I", .fieldLink RX4 21 "PulseTurns$Periods" "highLower" "I", .methodLink RX4 77 yX0_part, .static yX0_part, .initialized RX0, .code yX0_part cX0_part 4 (some .int), .methodLink RX0 9 Lib.Math.abs.name, .static Lib.Math.abs.name, .initialized "java/lang/Math", .code Lib.Math.abs.name Lib.Math.abs.code 1 (some .int), .methodLink RX0 15 yX0_commonDivisor, .static yX0_commonDivisor, .code yX0_commonDivisor cX0_commonDivisor 6 (some .int), .constant RX0 21 (1000000)] ++ wsX40)
def wsX2_boxPart : List Cond := .code yX2_boxPart cX2_boxPart 2 (some .int) :: ([.fieldLink RX2 35 "PulseTurns$Numberings" "size" "I", .fieldLink RX2 23 "PulseTurns$Numberings" "leaves" "[LPulseTurns$Periods;", .methodLink RX2 75 yX4_part, .instanceMethod yX4_part, .selects RX4 yX4_part yX4_part, .initialized RX4, .code yX4_part cX4_part 2 (some .int), .fieldLink RX4 9 "PulseTurns$Periods" "lowUpper" "I", .fieldLink RX4 15 "PulseTurns$Periods" "lowLower" "I", .fieldLink RX4 18 "PulseTurns$Periods" "highUpper" "I", .fieldLink RX4 21 "PulseTurns$Periods" "highLower" "I", .methodLink RX4 77 yX0_part, .static yX0_part, .initialized RX0, .code yX0_part cX0_part 4 (some .int), .methodLink RX0 9 Lib.Math.abs.name, .static Lib.Math.abs.name, .initialized "java/lang/Math", .code Lib.Math.abs.name Lib.Math.abs.code 1 (some .int), .methodLink RX0 15 yX0_commonDivisor, .static yX0_commonDivisor, .code yX0_commonDivisor cX0_commonDivisor 6 (some .int), .constant RX0 21 (1000000)] ++ wsX20 ++ wsX40)
def wsX3_init : List Cond := .code yX3_init cX3_init 2 none :: ([.methodLink RX3 3 objectInit, .instanceMethod objectInit, .code objectInit ⟨#[0xb1]⟩ 1 none, .classLink RX3 9 RX1, .fieldLink RX3 11 "PulseTurns$Past" "ring" "[LPulseTurns$Hearing;", .instantiable RX1 5, .initialized RX1, .methodLink RX3 17 yX1_init, .instanceMethod yX1_init, .code yX1_init cX1_init 1 none, .methodLink RX1 3 objectInit, .arrayClass .int, .fieldLink RX1 9 "PulseTurns$Hearing" "times" "[I", .methodLink RX1 15 yX1_reset, .instanceMethod yX1_reset, .selects RX1 yX1_reset yX1_reset, .code yX1_reset cX1_reset 1 none, .fieldLink RX1 18 "PulseTurns$Hearing" "size" "I", .fieldLink RX1 22 "PulseTurns$Hearing" "low" "I", .fieldLink RX1 25 "PulseTurns$Hearing" "high" "I", .fieldLink RX1 28 "PulseTurns$Hearing" "slack" "I"] ++ wsX30 ++ wsX10)
def wsX3_push : List Cond := .code yX3_push cX3_push 2 none :: ([.fieldLink RX3 11 "PulseTurns$Past" "ring" "[LPulseTurns$Hearing;", .fieldLink RX3 18 "PulseTurns$Past" "next" "I", .fieldLink RX3 26 "PulseTurns$Past" "size" "I", .methodLink RX3 29 Lib.Math.min.name, .static Lib.Math.min.name, .initialized "java/lang/Math", .code Lib.Math.min.name Lib.Math.min.code 2 (some .int), .methodLink RX3 22 yX1_take, .instanceMethod yX1_take, .selects RX1 yX1_take yX1_take, .initialized RX1, .code yX1_take cX1_take 3 none, .fieldLink RX1 9 "PulseTurns$Hearing" "times" "[I", .fieldLink RX1 18 "PulseTurns$Hearing" "size" "I", .fieldLink RX1 22 "PulseTurns$Hearing" "low" "I", .fieldLink RX1 25 "PulseTurns$Hearing" "high" "I", .fieldLink RX1 28 "PulseTurns$Hearing" "slack" "I"] ++ wsX30 ++ wsX10)
def wsX3_pull : List Cond := .code yX3_pull cX3_pull 2 (some .boolean) :: ([.fieldLink RX3 26 "PulseTurns$Past" "size" "I", .fieldLink RX3 18 "PulseTurns$Past" "next" "I", .fieldLink RX3 11 "PulseTurns$Past" "ring" "[LPulseTurns$Hearing;", .methodLink RX3 22 yX1_take, .instanceMethod yX1_take, .selects RX1 yX1_take yX1_take, .initialized RX1, .code yX1_take cX1_take 3 none, .fieldLink RX1 9 "PulseTurns$Hearing" "times" "[I", .fieldLink RX1 18 "PulseTurns$Hearing" "size" "I", .fieldLink RX1 22 "PulseTurns$Hearing" "low" "I", .fieldLink RX1 25 "PulseTurns$Hearing" "high" "I", .fieldLink RX1 28 "PulseTurns$Hearing" "slack" "I"] ++ wsX30 ++ wsX10)
def wsX3_forget : List Cond := .code yX3_forget cX3_forget 1 none :: ([.fieldLink RX3 26 "PulseTurns$Past" "size" "I"] ++ wsX30)
def wsX4_leastCount : List Cond := .code yX4_leastCount cX4_leastCount 5 (some .int) :: ([.fieldLink RX4 24 "PulseTurns$Hearing" "times" "[I", .fieldLink RX4 30 "PulseTurns$Hearing" "slack" "I", .methodLink RX4 37 Lib.Math.max.name, .static Lib.Math.max.name, .initialized "java/lang/Math", .code Lib.Math.max.name Lib.Math.max.code 2 (some .int), .methodLink RX4 33 yX4_leastTurns, .instanceMethod yX4_leastTurns, .selects RX4 yX4_leastTurns yX4_leastTurns, .initialized RX4, .code yX4_leastTurns cX4_leastTurns 3 (some .int), .fieldLink RX4 18 "PulseTurns$Periods" "highUpper" "I", .fieldLink RX4 21 "PulseTurns$Periods" "highLower" "I"] ++ wsX10 ++ wsX40)
def wsX4_greatestCount : List Cond := .code yX4_greatestCount cX4_greatestCount 4 (some .int) :: ([.fieldLink RX4 24 "PulseTurns$Hearing" "times" "[I", .fieldLink RX4 30 "PulseTurns$Hearing" "slack" "I", .methodLink RX4 42 yX4_greatestTurns, .instanceMethod yX4_greatestTurns, .selects RX4 yX4_greatestTurns yX4_greatestTurns, .initialized RX4, .code yX4_greatestTurns cX4_greatestTurns 3 (some .int), .fieldLink RX4 9 "PulseTurns$Periods" "lowUpper" "I", .fieldLink RX4 15 "PulseTurns$Periods" "lowLower" "I"] ++ wsX10 ++ wsX40)
def wsX4_cutByTwo_r1 : List Cond := [Cond.fieldLink RX4 24 "PulseTurns$Hearing" "times" "[I", Cond.fieldLink RX4 30 "PulseTurns$Hearing" "slack" "I", Cond.methodLink RX4 58 yX4_leastCount, Cond.instanceMethod yX4_leastCount, Cond.selects RX4 yX4_leastCount yX4_leastCount, Cond.initialized RX4, Cond.code yX4_leastCount cX4_leastCount 5 (some .int), Cond.methodLink RX4 37 Lib.Math.max.name, Cond.static Lib.Math.max.name, Cond.initialized "java/lang/Math", Cond.code Lib.Math.max.name Lib.Math.max.code 2 (some .int), Cond.methodLink RX4 33 yX4_leastTurns, Cond.instanceMethod yX4_leastTurns, Cond.selects RX4 yX4_leastTurns yX4_leastTurns, Cond.code yX4_leastTurns cX4_leastTurns 3 (some .int), Cond.fieldLink RX4 18 "PulseTurns$Periods" "highUpper" "I", Cond.fieldLink RX4 21 "PulseTurns$Periods" "highLower" "I", Cond.methodLink RX4 62 yX4_greatestCount, Cond.instanceMethod yX4_greatestCount, Cond.selects RX4 yX4_greatestCount yX4_greatestCount, Cond.code yX4_greatestCount cX4_greatestCount 4 (some .int), Cond.methodLink RX4 42 yX4_greatestTurns, Cond.instanceMethod yX4_greatestTurns, Cond.selects RX4 yX4_greatestTurns yX4_greatestTurns]
def wsX4_cutByTwo_r2 : List Cond := [Cond.code yX4_greatestTurns cX4_greatestTurns 3 (some .int), Cond.fieldLink RX4 9 "PulseTurns$Periods" "lowUpper" "I", Cond.fieldLink RX4 15 "PulseTurns$Periods" "lowLower" "I", Cond.methodLink RX4 73 yX4_cut, Cond.instanceMethod yX4_cut, Cond.selects RX4 yX4_cut yX4_cut, Cond.code yX4_cut cX4_cut 5 (some .boolean)]
def wsX4_cutByTwo : List Cond := .code yX4_cutByTwo cX4_cutByTwo 5 (some .boolean) :: ((wsX4_cutByTwo_r1 ++ wsX4_cutByTwo_r2) ++ wsX10 ++ wsX40)
def wsX4_narrow_r1 : List Cond := [Cond.fieldLink RX4 45 "PulseTurns$Hearing" "low" "I", Cond.fieldLink RX4 48 "PulseTurns$Hearing" "high" "I", Cond.fieldLink RX4 55 "PulseTurns$Hearing" "size" "I", Cond.methodLink RX4 51 yX4_spread, Cond.instanceMethod yX4_spread, Cond.selects RX4 yX4_spread yX4_spread, Cond.initialized RX4, Cond.code yX4_spread cX4_spread 3 none, Cond.fieldLink RX4 9 "PulseTurns$Periods" "lowUpper" "I", Cond.fieldLink RX4 15 "PulseTurns$Periods" "lowLower" "I", Cond.fieldLink RX4 18 "PulseTurns$Periods" "highUpper" "I", Cond.fieldLink RX4 21 "PulseTurns$Periods" "highLower" "I", Cond.methodLink RX4 58 yX4_leastCount, Cond.instanceMethod yX4_leastCount, Cond.selects RX4 yX4_leastCount yX4_leastCount, Cond.code yX4_leastCount cX4_leastCount 5 (some .int), Cond.fieldLink RX4 24 "PulseTurns$Hearing" "times" "[I", Cond.fieldLink RX4 30 "PulseTurns$Hearing" "slack" "I", Cond.methodLink RX4 37 Lib.Math.max.name, Cond.static Lib.Math.max.name, Cond.initialized "java/lang/Math", Cond.code Lib.Math.max.name Lib.Math.max.code 2 (some .int), Cond.methodLink RX4 33 yX4_leastTurns, Cond.instanceMethod yX4_leastTurns]
def wsX4_narrow_r2 : List Cond := [Cond.selects RX4 yX4_leastTurns yX4_leastTurns, Cond.code yX4_leastTurns cX4_leastTurns 3 (some .int), Cond.methodLink RX4 62 yX4_greatestCount, Cond.instanceMethod yX4_greatestCount, Cond.selects RX4 yX4_greatestCount yX4_greatestCount, Cond.code yX4_greatestCount cX4_greatestCount 4 (some .int), Cond.methodLink RX4 42 yX4_greatestTurns, Cond.instanceMethod yX4_greatestTurns, Cond.selects RX4 yX4_greatestTurns yX4_greatestTurns, Cond.code yX4_greatestTurns cX4_greatestTurns 3 (some .int), Cond.methodLink RX4 65 yX4_cutByTwo, Cond.instanceMethod yX4_cutByTwo, Cond.selects RX4 yX4_cutByTwo yX4_cutByTwo, Cond.code yX4_cutByTwo cX4_cutByTwo 5 (some .boolean), Cond.methodLink RX4 73 yX4_cut, Cond.instanceMethod yX4_cut, Cond.selects RX4 yX4_cut yX4_cut, Cond.code yX4_cut cX4_cut 5 (some .boolean), Cond.methodLink RX4 69 yX4_isEmpty, Cond.instanceMethod yX4_isEmpty, Cond.selects RX4 yX4_isEmpty yX4_isEmpty, Cond.code yX4_isEmpty cX4_isEmpty 1 (some .boolean)]
def wsX4_narrow : List Cond := .code yX4_narrow cX4_narrow 6 (some .boolean) :: ((wsX4_narrow_r1 ++ wsX4_narrow_r2) ++ wsX10 ++ wsX40)
def wsX5_init : List Cond := .code yX5_init cX5_init 1 none :: ([.methodLink RX5 3 objectInit, .instanceMethod objectInit, .code objectInit ⟨#[0xb1]⟩ 1 none, .arrayClass .char, .fieldLink RX5 9 "PulseTurns$Reader" "letters" "[C"] ++ wsX50)
def wsX5_put : List Cond := .code yX5_put cX5_put 2 (some .int) :: ([.fieldLink RX5 15 "PulseTurns$Reader" "length" "I", .fieldLink RX5 9 "PulseTurns$Reader" "letters" "[C"] ++ wsX50)
def wsX5_wipe : List Cond := .code yX5_wipe cX5_wipe 2 (some .int) :: ([.fieldLink RX5 15 "PulseTurns$Reader" "length" "I"] ++ wsX50)
def wsX5_isDigit : List Cond := .code yX5_isDigit cX5_isDigit 2 (some .boolean) :: ([.fieldLink RX5 9 "PulseTurns$Reader" "letters" "[C"] ++ wsX50)
def wsX5_lastOfToken : List Cond := .code yX5_lastOfToken cX5_lastOfToken 4 (some .int) :: ([.fieldLink RX5 15 "PulseTurns$Reader" "length" "I", .methodLink RX5 46 yX5_isDigit, .instanceMethod yX5_isDigit, .selects RX5 yX5_isDigit yX5_isDigit, .initialized RX5, .code yX5_isDigit cX5_isDigit 2 (some .boolean), .fieldLink RX5 9 "PulseTurns$Reader" "letters" "[C"] ++ wsX50)
def wsX5_valueOfToken : List Cond := .code yX5_valueOfToken cX5_valueOfToken 5 (some .int) :: ([.fieldLink RX5 9 "PulseTurns$Reader" "letters" "[C", .methodLink RX5 46 yX5_isDigit, .instanceMethod yX5_isDigit, .selects RX5 yX5_isDigit yX5_isDigit, .initialized RX5, .code yX5_isDigit cX5_isDigit 2 (some .boolean)] ++ wsX50)
def wsX5_takesItem : List Cond := .code yX5_takesItem cX5_takesItem 3 (some .boolean) :: ([.fieldLink RX5 27 "PulseTurns$Reader" "boxTold" "Z", .fieldLink RX5 24 "PulseTurns$Reader" "awaited" "I", .fieldLink RX5 77 "PulseTurns$Hearing" "size" "I"] ++ wsX50 ++ wsX10)
def wsX6_isLow : List Cond := .code yX6_isLow cX6_isLow 1 (some .boolean) :: ([])
def wsX6_isHigh : List Cond := .code yX6_isHigh cX6_isHigh 2 (some .boolean) :: ([])
def wsX6_isSlack : List Cond := .code yX6_isSlack cX6_isSlack 2 (some .boolean) :: ([])
def wsX6_isTime : List Cond := .code yX6_isTime cX6_isTime 1 (some .boolean) :: ([])
def wsX5_takesTime : List Cond := .code yX5_takesTime cX5_takesTime 3 (some .boolean) :: ([.fieldLink RX5 24 "PulseTurns$Reader" "awaited" "I", .static yX6_isTime, .initialized RX6, .code yX6_isTime cX6_isTime 1 (some .boolean), .methodLink RX5 83 yX1_hears, .instanceMethod yX1_hears, .selects RX1 yX1_hears yX1_hears, .initialized RX1, .code yX1_hears cX1_hears 3 (some .boolean), .fieldLink RX1 18 "PulseTurns$Hearing" "size" "I", .fieldLink RX1 9 "PulseTurns$Hearing" "times" "[I", .methodLink RX5 86 yX1_place, .instanceMethod yX1_place, .selects RX1 yX1_place yX1_place, .code yX1_place cX1_place 4 (some .int)] ++ wsX50 ++ wsX10)
def wsX5_takes_r1 : List Cond := [Cond.fieldLink RX5 24 "PulseTurns$Reader" "awaited" "I", Cond.fieldLink RX5 54 "PulseTurns$Hearing" "low" "I", Cond.fieldLink RX5 60 "PulseTurns$Hearing" "high" "I", Cond.fieldLink RX5 67 "PulseTurns$Hearing" "slack" "I", Cond.fieldLink RX5 31 "PulseTurns$Reader" "items" "I", Cond.methodLink RX5 50 yX5_takesItem, Cond.instanceMethod yX5_takesItem, Cond.selects RX5 yX5_takesItem yX5_takesItem, Cond.initialized RX5, Cond.code yX5_takesItem cX5_takesItem 3 (some .boolean), Cond.fieldLink RX5 27 "PulseTurns$Reader" "boxTold" "Z", Cond.fieldLink RX5 77 "PulseTurns$Hearing" "size" "I", Cond.static yX6_isLow, Cond.initialized RX6, Cond.code yX6_isLow cX6_isLow 1 (some .boolean), Cond.static yX6_isHigh, Cond.code yX6_isHigh cX6_isHigh 2 (some .boolean), Cond.static yX6_isSlack, Cond.code yX6_isSlack cX6_isSlack 2 (some .boolean), Cond.methodLink RX5 73 yX5_takesTime, Cond.instanceMethod yX5_takesTime, Cond.selects RX5 yX5_takesTime yX5_takesTime, Cond.code yX5_takesTime cX5_takesTime 3 (some .boolean), Cond.static yX6_isTime]
def wsX5_takes_r2 : List Cond := [Cond.code yX6_isTime cX6_isTime 1 (some .boolean), Cond.methodLink RX5 83 yX1_hears, Cond.instanceMethod yX1_hears, Cond.selects RX1 yX1_hears yX1_hears, Cond.initialized RX1, Cond.code yX1_hears cX1_hears 3 (some .boolean), Cond.fieldLink RX1 18 "PulseTurns$Hearing" "size" "I", Cond.fieldLink RX1 9 "PulseTurns$Hearing" "times" "[I", Cond.methodLink RX5 86 yX1_place, Cond.instanceMethod yX1_place, Cond.selects RX1 yX1_place yX1_place, Cond.code yX1_place cX1_place 4 (some .int)]
def wsX5_takes : List Cond := .code yX5_takes cX5_takes 4 (some .boolean) :: ((wsX5_takes_r1 ++ wsX5_takes_r2) ++ wsX50 ++ wsX10)
def wsX5_read_r1 : List Cond := [Cond.fieldLink RX5 24 "PulseTurns$Reader" "awaited" "I", Cond.fieldLink RX5 27 "PulseTurns$Reader" "boxTold" "Z", Cond.fieldLink RX5 31 "PulseTurns$Reader" "items" "I", Cond.fieldLink RX5 15 "PulseTurns$Reader" "length" "I", Cond.fieldLink RX5 9 "PulseTurns$Reader" "letters" "[C", Cond.methodLink RX5 19 yX1_reset, Cond.instanceMethod yX1_reset, Cond.selects RX1 yX1_reset yX1_reset, Cond.initialized RX1, Cond.code yX1_reset cX1_reset 1 none, Cond.fieldLink RX1 18 "PulseTurns$Hearing" "size" "I", Cond.fieldLink RX1 22 "PulseTurns$Hearing" "low" "I", Cond.fieldLink RX1 25 "PulseTurns$Hearing" "high" "I", Cond.fieldLink RX1 28 "PulseTurns$Hearing" "slack" "I", Cond.methodLink RX5 34 yX5_lastOfToken, Cond.instanceMethod yX5_lastOfToken, Cond.selects RX5 yX5_lastOfToken yX5_lastOfToken, Cond.initialized RX5, Cond.code yX5_lastOfToken cX5_lastOfToken 4 (some .int), Cond.methodLink RX5 46 yX5_isDigit, Cond.instanceMethod yX5_isDigit, Cond.selects RX5 yX5_isDigit yX5_isDigit, Cond.code yX5_isDigit cX5_isDigit 2 (some .boolean), Cond.methodLink RX5 38 yX5_valueOfToken]
def wsX5_read_r2 : List Cond := [Cond.instanceMethod yX5_valueOfToken, Cond.selects RX5 yX5_valueOfToken yX5_valueOfToken, Cond.code yX5_valueOfToken cX5_valueOfToken 5 (some .int), Cond.methodLink RX5 42 yX5_takes, Cond.instanceMethod yX5_takes, Cond.selects RX5 yX5_takes yX5_takes, Cond.code yX5_takes cX5_takes 4 (some .boolean), Cond.fieldLink RX5 54 "PulseTurns$Hearing" "low" "I", Cond.fieldLink RX5 60 "PulseTurns$Hearing" "high" "I", Cond.fieldLink RX5 67 "PulseTurns$Hearing" "slack" "I", Cond.methodLink RX5 50 yX5_takesItem, Cond.instanceMethod yX5_takesItem, Cond.selects RX5 yX5_takesItem yX5_takesItem, Cond.code yX5_takesItem cX5_takesItem 3 (some .boolean), Cond.fieldLink RX5 77 "PulseTurns$Hearing" "size" "I", Cond.static yX6_isLow, Cond.initialized RX6, Cond.code yX6_isLow cX6_isLow 1 (some .boolean), Cond.static yX6_isHigh, Cond.code yX6_isHigh cX6_isHigh 2 (some .boolean), Cond.static yX6_isSlack, Cond.code yX6_isSlack cX6_isSlack 2 (some .boolean), Cond.methodLink RX5 73 yX5_takesTime, Cond.instanceMethod yX5_takesTime]
def wsX5_read_r3 : List Cond := [Cond.selects RX5 yX5_takesTime yX5_takesTime, Cond.code yX5_takesTime cX5_takesTime 3 (some .boolean), Cond.static yX6_isTime, Cond.code yX6_isTime cX6_isTime 1 (some .boolean), Cond.methodLink RX5 83 yX1_hears, Cond.instanceMethod yX1_hears, Cond.selects RX1 yX1_hears yX1_hears, Cond.code yX1_hears cX1_hears 3 (some .boolean), Cond.fieldLink RX1 9 "PulseTurns$Hearing" "times" "[I", Cond.methodLink RX5 86 yX1_place, Cond.instanceMethod yX1_place, Cond.selects RX1 yX1_place yX1_place, Cond.code yX1_place cX1_place 4 (some .int)]
def wsX5_read : List Cond := .code yX5_read cX5_read 4 (some .int) :: ((wsX5_read_r1 ++ (wsX5_read_r2 ++ wsX5_read_r3)) ++ wsX50 ++ wsX10)
def wsX6_init_r1 : List Cond := [Cond.methodLink RX6 1 objectInit, Cond.instanceMethod objectInit, Cond.code objectInit ⟨#[0xb1]⟩ 1 none, Cond.classLink RX6 7 RX1, Cond.instantiable RX1 5, Cond.initialized RX1, Cond.fieldLink RX6 10 "PulseTurns" "now" "LPulseTurns$Hearing;", Cond.fieldLink RX6 16 "PulseTurns" "trial" "LPulseTurns$Hearing;", Cond.classLink RX6 19 RX3, Cond.instantiable RX3 3, Cond.initialized RX3, Cond.fieldLink RX6 22 "PulseTurns" "past" "LPulseTurns$Past;", Cond.fieldLink RX6 26 "PulseTurns" "images" "[LPulseTurns$Hearing;", Cond.arrayClass .boolean, Cond.fieldLink RX6 30 "PulseTurns" "kept" "[Z", Cond.classLink RX6 34 RX5, Cond.instantiable RX5 5, Cond.initialized RX5, Cond.fieldLink RX6 37 "PulseTurns" "text" "LPulseTurns$Reader;", Cond.classLink RX6 41 RX2, Cond.instantiable RX2 8, Cond.initialized RX2, Cond.fieldLink RX6 44 "PulseTurns" "numberings" "LPulseTurns$Numberings;", Cond.classLink RX6 48 RX4]
def wsX6_init_r2 : List Cond := [Cond.instantiable RX4 4, Cond.initialized RX4, Cond.fieldLink RX6 51 "PulseTurns" "cutting" "LPulseTurns$Periods;", Cond.arrayClass .int, Cond.fieldLink RX6 55 "PulseTurns" "firstNumbers" "[I", Cond.fieldLink RX6 59 "PulseTurns" "leftBy" "[I", Cond.methodLink RX6 9 yX1_init, Cond.instanceMethod yX1_init, Cond.code yX1_init cX1_init 1 none, Cond.methodLink RX1 3 objectInit, Cond.fieldLink RX1 9 "PulseTurns$Hearing" "times" "[I", Cond.methodLink RX1 15 yX1_reset, Cond.instanceMethod yX1_reset, Cond.selects RX1 yX1_reset yX1_reset, Cond.code yX1_reset cX1_reset 1 none, Cond.fieldLink RX1 18 "PulseTurns$Hearing" "size" "I", Cond.fieldLink RX1 22 "PulseTurns$Hearing" "low" "I", Cond.fieldLink RX1 25 "PulseTurns$Hearing" "high" "I", Cond.fieldLink RX1 28 "PulseTurns$Hearing" "slack" "I", Cond.methodLink RX6 21 yX3_init, Cond.instanceMethod yX3_init, Cond.code yX3_init cX3_init 2 none, Cond.methodLink RX3 3 objectInit, Cond.classLink RX3 9 RX1]
def wsX6_init_r3 : List Cond := [Cond.fieldLink RX3 11 "PulseTurns$Past" "ring" "[LPulseTurns$Hearing;", Cond.methodLink RX3 17 yX1_init, Cond.instanceMethod yX5_init, Cond.code yX5_init cX5_init 1 none, Cond.methodLink RX5 3 objectInit, Cond.arrayClass .char, Cond.fieldLink RX5 9 "PulseTurns$Reader" "letters" "[C", Cond.methodLink RX6 43 yX2_init, Cond.instanceMethod yX2_init, Cond.code yX2_init cX2_init 2 none, Cond.methodLink RX2 3 objectInit, Cond.fieldLink RX2 9 "PulseTurns$Numberings" "times" "[I", Cond.fieldLink RX2 15 "PulseTurns$Numberings" "numbers" "[I", Cond.fieldLink RX2 18 "PulseTurns$Numberings" "greatest" "[I", Cond.classLink RX2 21 RX4, Cond.fieldLink RX2 23 "PulseTurns$Numberings" "leaves" "[LPulseTurns$Periods;", Cond.instanceMethod yX4_init, Cond.code yX4_init cX4_init 1 none, Cond.methodLink RX4 3 objectInit, Cond.fieldLink RX4 9 "PulseTurns$Periods" "lowUpper" "I", Cond.fieldLink RX4 15 "PulseTurns$Periods" "lowLower" "I", Cond.fieldLink RX4 18 "PulseTurns$Periods" "highUpper" "I", Cond.fieldLink RX4 21 "PulseTurns$Periods" "highLower" "I"]
def wsX6_init : List Cond := .code yX6_init cX6_init 2 none :: ((wsX6_init_r1 ++ (wsX6_init_r2 ++ wsX6_init_r3)) ++ wsX10 ++ wsX60 ++ wsX30 ++ wsX50 ++ wsX20 ++ wsX40)
def wsX6_type : List Cond := .code yX6_type cX6_type 2 (some .int) :: ([.fieldLink RX6 37 "PulseTurns" "text" "LPulseTurns$Reader;", .methodLink RX6 62 yX5_put, .instanceMethod yX5_put, .selects RX5 yX5_put yX5_put, .initialized RX5, .code yX5_put cX5_put 2 (some .int), .fieldLink RX5 15 "PulseTurns$Reader" "length" "I", .fieldLink RX5 9 "PulseTurns$Reader" "letters" "[C"] ++ wsX60 ++ wsX50)
def wsX6_clear : List Cond := .code yX6_clear cX6_clear 1 (some .int) :: ([.fieldLink RX6 37 "PulseTurns" "text" "LPulseTurns$Reader;", .methodLink RX6 66 yX5_wipe, .instanceMethod yX5_wipe, .selects RX5 yX5_wipe yX5_wipe, .initialized RX5, .code yX5_wipe cX5_wipe 2 (some .int), .fieldLink RX5 15 "PulseTurns$Reader" "length" "I"] ++ wsX60 ++ wsX50)
def wsX6_heard_r1 : List Cond := [Cond.fieldLink RX6 37 "PulseTurns" "text" "LPulseTurns$Reader;", Cond.fieldLink RX6 16 "PulseTurns" "trial" "LPulseTurns$Hearing;", Cond.fieldLink RX6 10 "PulseTurns" "now" "LPulseTurns$Hearing;", Cond.fieldLink RX6 22 "PulseTurns" "past" "LPulseTurns$Past;", Cond.fieldLink RX6 30 "PulseTurns" "kept" "[Z", Cond.methodLink RX6 70 yX5_read, Cond.instanceMethod yX5_read, Cond.selects RX5 yX5_read yX5_read, Cond.initialized RX5, Cond.code yX5_read cX5_read 4 (some .int), Cond.fieldLink RX5 24 "PulseTurns$Reader" "awaited" "I", Cond.fieldLink RX5 27 "PulseTurns$Reader" "boxTold" "Z", Cond.fieldLink RX5 31 "PulseTurns$Reader" "items" "I", Cond.fieldLink RX5 15 "PulseTurns$Reader" "length" "I", Cond.fieldLink RX5 9 "PulseTurns$Reader" "letters" "[C", Cond.methodLink RX5 19 yX1_reset, Cond.instanceMethod yX1_reset, Cond.selects RX1 yX1_reset yX1_reset, Cond.initialized RX1, Cond.code yX1_reset cX1_reset 1 none, Cond.fieldLink RX1 18 "PulseTurns$Hearing" "size" "I", Cond.fieldLink RX1 22 "PulseTurns$Hearing" "low" "I", Cond.fieldLink RX1 25 "PulseTurns$Hearing" "high" "I", Cond.fieldLink RX1 28 "PulseTurns$Hearing" "slack" "I"]
def wsX6_heard_r2 : List Cond := [Cond.methodLink RX5 34 yX5_lastOfToken, Cond.instanceMethod yX5_lastOfToken, Cond.selects RX5 yX5_lastOfToken yX5_lastOfToken, Cond.code yX5_lastOfToken cX5_lastOfToken 4 (some .int), Cond.methodLink RX5 46 yX5_isDigit, Cond.instanceMethod yX5_isDigit, Cond.selects RX5 yX5_isDigit yX5_isDigit, Cond.code yX5_isDigit cX5_isDigit 2 (some .boolean), Cond.methodLink RX5 38 yX5_valueOfToken, Cond.instanceMethod yX5_valueOfToken, Cond.selects RX5 yX5_valueOfToken yX5_valueOfToken, Cond.code yX5_valueOfToken cX5_valueOfToken 5 (some .int), Cond.methodLink RX5 42 yX5_takes, Cond.instanceMethod yX5_takes, Cond.selects RX5 yX5_takes yX5_takes, Cond.code yX5_takes cX5_takes 4 (some .boolean), Cond.fieldLink RX5 54 "PulseTurns$Hearing" "low" "I", Cond.fieldLink RX5 60 "PulseTurns$Hearing" "high" "I", Cond.fieldLink RX5 67 "PulseTurns$Hearing" "slack" "I", Cond.methodLink RX5 50 yX5_takesItem, Cond.instanceMethod yX5_takesItem, Cond.selects RX5 yX5_takesItem yX5_takesItem, Cond.code yX5_takesItem cX5_takesItem 3 (some .boolean), Cond.fieldLink RX5 77 "PulseTurns$Hearing" "size" "I"]
def wsX6_heard_r3 : List Cond := [Cond.static yX6_isLow, Cond.initialized RX6, Cond.code yX6_isLow cX6_isLow 1 (some .boolean), Cond.static yX6_isHigh, Cond.code yX6_isHigh cX6_isHigh 2 (some .boolean), Cond.static yX6_isSlack, Cond.code yX6_isSlack cX6_isSlack 2 (some .boolean), Cond.methodLink RX5 73 yX5_takesTime, Cond.instanceMethod yX5_takesTime, Cond.selects RX5 yX5_takesTime yX5_takesTime, Cond.code yX5_takesTime cX5_takesTime 3 (some .boolean), Cond.static yX6_isTime, Cond.code yX6_isTime cX6_isTime 1 (some .boolean), Cond.methodLink RX5 83 yX1_hears, Cond.instanceMethod yX1_hears, Cond.selects RX1 yX1_hears yX1_hears, Cond.code yX1_hears cX1_hears 3 (some .boolean), Cond.fieldLink RX1 9 "PulseTurns$Hearing" "times" "[I", Cond.methodLink RX5 86 yX1_place, Cond.instanceMethod yX1_place, Cond.selects RX1 yX1_place yX1_place, Cond.code yX1_place cX1_place 4 (some .int), Cond.methodLink RX6 74 yX1_take, Cond.instanceMethod yX1_take]
def wsX6_heard_r4 : List Cond := [Cond.selects RX1 yX1_take yX1_take, Cond.code yX1_take cX1_take 3 none, Cond.methodLink RX6 78 yX3_forget, Cond.instanceMethod yX3_forget, Cond.selects RX3 yX3_forget yX3_forget, Cond.initialized RX3, Cond.code yX3_forget cX3_forget 1 none, Cond.fieldLink RX3 26 "PulseTurns$Past" "size" "I", Cond.methodLink RX6 66 yX5_wipe, Cond.instanceMethod yX5_wipe, Cond.selects RX5 yX5_wipe yX5_wipe, Cond.code yX5_wipe cX5_wipe 2 (some .int)]
def wsX6_heard : List Cond := .code yX6_heard cX6_heard 3 (some .int) :: ((wsX6_heard_r1 ++ (wsX6_heard_r2 ++ (wsX6_heard_r3 ++ wsX6_heard_r4))) ++ wsX60 ++ wsX50 ++ wsX10 ++ wsX30)
def wsX6_time : List Cond := .code yX6_time cX6_time 2 (some .int) :: ([.fieldLink RX6 10 "PulseTurns" "now" "LPulseTurns$Hearing;", .fieldLink RX6 85 "PulseTurns$Hearing" "times" "[I", .methodLink RX6 81 yX1_hasArrival, .instanceMethod yX1_hasArrival, .selects RX1 yX1_hasArrival yX1_hasArrival, .initialized RX1, .code yX1_hasArrival cX1_hasArrival 2 (some .boolean), .fieldLink RX1 18 "PulseTurns$Hearing" "size" "I"] ++ wsX60 ++ wsX10)
def wsX6_refusesNew : List Cond := .code yX6_refusesNew cX6_refusesNew 2 (some .int) :: ([.fieldLink RX6 10 "PulseTurns" "now" "LPulseTurns$Hearing;", .fieldLink RX6 166 "PulseTurns$Hearing" "size" "I", .methodLink RX6 207 yX6_isTime, .static yX6_isTime, .initialized RX6, .code yX6_isTime cX6_isTime 1 (some .boolean), .methodLink RX6 210 yX1_hears, .instanceMethod yX1_hears, .selects RX1 yX1_hears yX1_hears, .initialized RX1, .code yX1_hears cX1_hears 3 (some .boolean), .fieldLink RX1 18 "PulseTurns$Hearing" "size" "I", .fieldLink RX1 9 "PulseTurns$Hearing" "times" "[I"] ++ wsX60 ++ wsX10)
def wsX6_adds_r1 : List Cond := [Cond.fieldLink RX6 22 "PulseTurns" "past" "LPulseTurns$Past;", Cond.fieldLink RX6 10 "PulseTurns" "now" "LPulseTurns$Hearing;", Cond.methodLink RX6 88 yX6_refusesNew, Cond.instanceMethod yX6_refusesNew, Cond.selects RX6 yX6_refusesNew yX6_refusesNew, Cond.initialized RX6, Cond.code yX6_refusesNew cX6_refusesNew 2 (some .int), Cond.fieldLink RX6 166 "PulseTurns$Hearing" "size" "I", Cond.methodLink RX6 207 yX6_isTime, Cond.static yX6_isTime, Cond.code yX6_isTime cX6_isTime 1 (some .boolean), Cond.methodLink RX6 210 yX1_hears, Cond.instanceMethod yX1_hears, Cond.selects RX1 yX1_hears yX1_hears, Cond.initialized RX1, Cond.code yX1_hears cX1_hears 3 (some .boolean), Cond.fieldLink RX1 18 "PulseTurns$Hearing" "size" "I", Cond.fieldLink RX1 9 "PulseTurns$Hearing" "times" "[I", Cond.methodLink RX6 91 yX3_push, Cond.instanceMethod yX3_push, Cond.selects RX3 yX3_push yX3_push, Cond.initialized RX3, Cond.code yX3_push cX3_push 2 none, Cond.fieldLink RX3 11 "PulseTurns$Past" "ring" "[LPulseTurns$Hearing;"]
def wsX6_adds_r2 : List Cond := [Cond.fieldLink RX3 18 "PulseTurns$Past" "next" "I", Cond.fieldLink RX3 26 "PulseTurns$Past" "size" "I", Cond.methodLink RX3 29 Lib.Math.min.name, Cond.static Lib.Math.min.name, Cond.initialized "java/lang/Math", Cond.code Lib.Math.min.name Lib.Math.min.code 2 (some .int), Cond.methodLink RX3 22 yX1_take, Cond.instanceMethod yX1_take, Cond.selects RX1 yX1_take yX1_take, Cond.code yX1_take cX1_take 3 none, Cond.fieldLink RX1 22 "PulseTurns$Hearing" "low" "I", Cond.fieldLink RX1 25 "PulseTurns$Hearing" "high" "I", Cond.fieldLink RX1 28 "PulseTurns$Hearing" "slack" "I", Cond.methodLink RX6 94 yX1_place, Cond.instanceMethod yX1_place, Cond.selects RX1 yX1_place yX1_place, Cond.code yX1_place cX1_place 4 (some .int)]
def wsX6_adds : List Cond := .code yX6_adds cX6_adds 3 (some .int) :: ((wsX6_adds_r1 ++ wsX6_adds_r2) ++ wsX60 ++ wsX10 ++ wsX30)
def wsX6_strikes_r1 : List Cond := [Cond.fieldLink RX6 10 "PulseTurns" "now" "LPulseTurns$Hearing;", Cond.fieldLink RX6 22 "PulseTurns" "past" "LPulseTurns$Past;", Cond.methodLink RX6 81 yX1_hasArrival, Cond.instanceMethod yX1_hasArrival, Cond.selects RX1 yX1_hasArrival yX1_hasArrival, Cond.initialized RX1, Cond.code yX1_hasArrival cX1_hasArrival 2 (some .boolean), Cond.fieldLink RX1 18 "PulseTurns$Hearing" "size" "I", Cond.methodLink RX6 91 yX3_push, Cond.instanceMethod yX3_push, Cond.selects RX3 yX3_push yX3_push, Cond.initialized RX3, Cond.code yX3_push cX3_push 2 none, Cond.fieldLink RX3 11 "PulseTurns$Past" "ring" "[LPulseTurns$Hearing;", Cond.fieldLink RX3 18 "PulseTurns$Past" "next" "I", Cond.fieldLink RX3 26 "PulseTurns$Past" "size" "I", Cond.methodLink RX3 29 Lib.Math.min.name, Cond.static Lib.Math.min.name, Cond.initialized "java/lang/Math", Cond.code Lib.Math.min.name Lib.Math.min.code 2 (some .int), Cond.methodLink RX3 22 yX1_take, Cond.instanceMethod yX1_take, Cond.selects RX1 yX1_take yX1_take, Cond.code yX1_take cX1_take 3 none]
def wsX6_strikes_r2 : List Cond := [Cond.fieldLink RX1 9 "PulseTurns$Hearing" "times" "[I", Cond.fieldLink RX1 22 "PulseTurns$Hearing" "low" "I", Cond.fieldLink RX1 25 "PulseTurns$Hearing" "high" "I", Cond.fieldLink RX1 28 "PulseTurns$Hearing" "slack" "I", Cond.methodLink RX6 97 yX1_drop, Cond.instanceMethod yX1_drop, Cond.selects RX1 yX1_drop yX1_drop, Cond.code yX1_drop cX1_drop 4 (some .int), Cond.methodLink RX1 31 yX1_hasArrival]
def wsX6_strikes : List Cond := .code yX6_strikes cX6_strikes 2 (some .int) :: ((wsX6_strikes_r1 ++ wsX6_strikes_r2) ++ wsX60 ++ wsX10 ++ wsX30)
def wsX6_standing_r1 : List Cond := [Cond.fieldLink RX6 44 "PulseTurns" "numberings" "LPulseTurns$Numberings;", Cond.constant RX6 170 (1000000), Cond.methodLink RX6 167 yX2_begin, Cond.instanceMethod yX2_begin, Cond.selects RX2 yX2_begin yX2_begin, Cond.initialized RX2, Cond.code yX2_begin cX2_begin 3 none, Cond.fieldLink RX2 9 "PulseTurns$Numberings" "times" "[I", Cond.fieldLink RX2 28 "PulseTurns$Hearing" "times" "[I", Cond.fieldLink RX2 31 "PulseTurns$Hearing" "size" "I", Cond.fieldLink RX2 35 "PulseTurns$Numberings" "size" "I", Cond.fieldLink RX2 36 "PulseTurns$Hearing" "slack" "I", Cond.fieldLink RX2 39 "PulseTurns$Numberings" "room" "I", Cond.fieldLink RX2 42 "PulseTurns$Numberings" "begun" "Z", Cond.fieldLink RX2 46 "PulseTurns$Numberings" "ended" "Z", Cond.fieldLink RX2 15 "PulseTurns$Numberings" "numbers" "[I", Cond.fieldLink RX2 23 "PulseTurns$Numberings" "leaves" "[LPulseTurns$Periods;", Cond.fieldLink RX2 49 "PulseTurns$Hearing" "low" "I", Cond.fieldLink RX2 52 "PulseTurns$Hearing" "high" "I", Cond.methodLink RX2 55 yX4_spread, Cond.instanceMethod yX4_spread, Cond.selects RX4 yX4_spread yX4_spread, Cond.initialized RX4, Cond.code yX4_spread cX4_spread 3 none]
def wsX6_standing_r2 : List Cond := [Cond.fieldLink RX4 9 "PulseTurns$Periods" "lowUpper" "I", Cond.fieldLink RX4 15 "PulseTurns$Periods" "lowLower" "I", Cond.fieldLink RX4 18 "PulseTurns$Periods" "highUpper" "I", Cond.fieldLink RX4 21 "PulseTurns$Periods" "highLower" "I", Cond.methodLink RX6 213 yX2_tally, Cond.instanceMethod yX2_tally, Cond.selects RX2 yX2_tally yX2_tally, Cond.code yX2_tally cX2_tally 3 (some .int), Cond.methodLink RX2 71 yX2_next, Cond.instanceMethod yX2_next, Cond.selects RX2 yX2_next yX2_next, Cond.code yX2_next cX2_next 2 (some .boolean), Cond.methodLink RX2 59 yX2_open, Cond.instanceMethod yX2_open, Cond.selects RX2 yX2_open yX2_open, Cond.code yX2_open cX2_open 4 none, Cond.methodLink RX2 83 Lib.Math.max.name, Cond.static Lib.Math.max.name, Cond.initialized "java/lang/Math", Cond.code Lib.Math.max.name Lib.Math.max.code 2 (some .int), Cond.fieldLink RX2 18 "PulseTurns$Numberings" "greatest" "[I", Cond.methodLink RX2 79 yX4_leastTurns, Cond.instanceMethod yX4_leastTurns, Cond.selects RX4 yX4_leastTurns yX4_leastTurns]
def wsX6_standing_r3 : List Cond := [Cond.code yX4_leastTurns cX4_leastTurns 3 (some .int), Cond.methodLink RX2 88 yX4_greatestTurns, Cond.instanceMethod yX4_greatestTurns, Cond.selects RX4 yX4_greatestTurns yX4_greatestTurns, Cond.code yX4_greatestTurns cX4_greatestTurns 3 (some .int), Cond.methodLink RX2 63 yX2_search, Cond.instanceMethod yX2_search, Cond.selects RX2 yX2_search yX2_search, Cond.code yX2_search cX2_search 4 (some .boolean), Cond.constant RX2 67 (1000000), Cond.methodLink RX2 68 yX2_fits, Cond.instanceMethod yX2_fits, Cond.selects RX2 yX2_fits yX2_fits, Cond.code yX2_fits cX2_fits 4 (some .boolean), Cond.methodLink RX2 91 yX4_take, Cond.instanceMethod yX4_take, Cond.selects RX4 yX4_take yX4_take, Cond.code yX4_take cX4_take 2 none, Cond.methodLink RX2 95 yX4_cut, Cond.instanceMethod yX4_cut, Cond.selects RX4 yX4_cut yX4_cut, Cond.code yX4_cut cX4_cut 5 (some .boolean), Cond.methodLink RX2 99 yX4_isEmpty, Cond.instanceMethod yX4_isEmpty]
def wsX6_standing_r4 : List Cond := [Cond.selects RX4 yX4_isEmpty yX4_isEmpty, Cond.code yX4_isEmpty cX4_isEmpty 1 (some .boolean)]
def wsX6_standing : List Cond := .code yX6_standing cX6_standing 2 (some .int) :: ((wsX6_standing_r1 ++ (wsX6_standing_r2 ++ (wsX6_standing_r3 ++ wsX6_standing_r4))) ++ wsX60 ++ wsX20 ++ wsX10 ++ wsX40)
def wsX6_boxes_r1 : List Cond := [Cond.fieldLink RX6 22 "PulseTurns" "past" "LPulseTurns$Past;", Cond.fieldLink RX6 10 "PulseTurns" "now" "LPulseTurns$Hearing;", Cond.fieldLink RX6 110 "PulseTurns$Hearing" "low" "I", Cond.fieldLink RX6 114 "PulseTurns$Hearing" "high" "I", Cond.fieldLink RX6 117 "PulseTurns$Hearing" "slack" "I", Cond.methodLink RX6 100 yX6_isLow, Cond.static yX6_isLow, Cond.initialized RX6, Cond.code yX6_isLow cX6_isLow 1 (some .boolean), Cond.methodLink RX6 103 yX6_isHigh, Cond.static yX6_isHigh, Cond.code yX6_isHigh cX6_isHigh 2 (some .boolean), Cond.methodLink RX6 107 yX6_isSlack, Cond.static yX6_isSlack, Cond.code yX6_isSlack cX6_isSlack 2 (some .boolean), Cond.methodLink RX6 91 yX3_push, Cond.instanceMethod yX3_push, Cond.selects RX3 yX3_push yX3_push, Cond.initialized RX3, Cond.code yX3_push cX3_push 2 none, Cond.fieldLink RX3 11 "PulseTurns$Past" "ring" "[LPulseTurns$Hearing;", Cond.fieldLink RX3 18 "PulseTurns$Past" "next" "I", Cond.fieldLink RX3 26 "PulseTurns$Past" "size" "I", Cond.methodLink RX3 29 Lib.Math.min.name]
def wsX6_boxes_r2 : List Cond := [Cond.static Lib.Math.min.name, Cond.initialized "java/lang/Math", Cond.code Lib.Math.min.name Lib.Math.min.code 2 (some .int), Cond.methodLink RX3 22 yX1_take, Cond.instanceMethod yX1_take, Cond.selects RX1 yX1_take yX1_take, Cond.initialized RX1, Cond.code yX1_take cX1_take 3 none, Cond.fieldLink RX1 9 "PulseTurns$Hearing" "times" "[I", Cond.fieldLink RX1 18 "PulseTurns$Hearing" "size" "I", Cond.fieldLink RX1 22 "PulseTurns$Hearing" "low" "I", Cond.fieldLink RX1 25 "PulseTurns$Hearing" "high" "I", Cond.fieldLink RX1 28 "PulseTurns$Hearing" "slack" "I", Cond.methodLink RX6 120 yX6_standing, Cond.instanceMethod yX6_standing, Cond.selects RX6 yX6_standing yX6_standing, Cond.code yX6_standing cX6_standing 2 (some .int), Cond.fieldLink RX6 44 "PulseTurns" "numberings" "LPulseTurns$Numberings;", Cond.constant RX6 170 (1000000), Cond.methodLink RX6 167 yX2_begin, Cond.instanceMethod yX2_begin, Cond.selects RX2 yX2_begin yX2_begin, Cond.initialized RX2, Cond.code yX2_begin cX2_begin 3 none]
def wsX6_boxes_r3 : List Cond := [Cond.fieldLink RX2 9 "PulseTurns$Numberings" "times" "[I", Cond.fieldLink RX2 28 "PulseTurns$Hearing" "times" "[I", Cond.fieldLink RX2 31 "PulseTurns$Hearing" "size" "I", Cond.fieldLink RX2 35 "PulseTurns$Numberings" "size" "I", Cond.fieldLink RX2 36 "PulseTurns$Hearing" "slack" "I", Cond.fieldLink RX2 39 "PulseTurns$Numberings" "room" "I", Cond.fieldLink RX2 42 "PulseTurns$Numberings" "begun" "Z", Cond.fieldLink RX2 46 "PulseTurns$Numberings" "ended" "Z", Cond.fieldLink RX2 15 "PulseTurns$Numberings" "numbers" "[I", Cond.fieldLink RX2 23 "PulseTurns$Numberings" "leaves" "[LPulseTurns$Periods;", Cond.fieldLink RX2 49 "PulseTurns$Hearing" "low" "I", Cond.fieldLink RX2 52 "PulseTurns$Hearing" "high" "I", Cond.methodLink RX2 55 yX4_spread, Cond.instanceMethod yX4_spread, Cond.selects RX4 yX4_spread yX4_spread, Cond.initialized RX4, Cond.code yX4_spread cX4_spread 3 none, Cond.fieldLink RX4 9 "PulseTurns$Periods" "lowUpper" "I", Cond.fieldLink RX4 15 "PulseTurns$Periods" "lowLower" "I", Cond.fieldLink RX4 18 "PulseTurns$Periods" "highUpper" "I", Cond.fieldLink RX4 21 "PulseTurns$Periods" "highLower" "I", Cond.methodLink RX6 213 yX2_tally, Cond.instanceMethod yX2_tally, Cond.selects RX2 yX2_tally yX2_tally]
def wsX6_boxes_r4 : List Cond := [Cond.code yX2_tally cX2_tally 3 (some .int), Cond.methodLink RX2 71 yX2_next, Cond.instanceMethod yX2_next, Cond.selects RX2 yX2_next yX2_next, Cond.code yX2_next cX2_next 2 (some .boolean), Cond.methodLink RX2 59 yX2_open, Cond.instanceMethod yX2_open, Cond.selects RX2 yX2_open yX2_open, Cond.code yX2_open cX2_open 4 none, Cond.methodLink RX2 83 Lib.Math.max.name, Cond.static Lib.Math.max.name, Cond.code Lib.Math.max.name Lib.Math.max.code 2 (some .int), Cond.fieldLink RX2 18 "PulseTurns$Numberings" "greatest" "[I", Cond.methodLink RX2 79 yX4_leastTurns, Cond.instanceMethod yX4_leastTurns, Cond.selects RX4 yX4_leastTurns yX4_leastTurns, Cond.code yX4_leastTurns cX4_leastTurns 3 (some .int), Cond.methodLink RX2 88 yX4_greatestTurns, Cond.instanceMethod yX4_greatestTurns, Cond.selects RX4 yX4_greatestTurns yX4_greatestTurns, Cond.code yX4_greatestTurns cX4_greatestTurns 3 (some .int), Cond.methodLink RX2 63 yX2_search, Cond.instanceMethod yX2_search, Cond.selects RX2 yX2_search yX2_search]
def wsX6_boxes_r5 : List Cond := [Cond.code yX2_search cX2_search 4 (some .boolean), Cond.constant RX2 67 (1000000), Cond.methodLink RX2 68 yX2_fits, Cond.instanceMethod yX2_fits, Cond.selects RX2 yX2_fits yX2_fits, Cond.code yX2_fits cX2_fits 4 (some .boolean), Cond.methodLink RX2 91 yX4_take, Cond.instanceMethod yX4_take, Cond.selects RX4 yX4_take yX4_take, Cond.code yX4_take cX4_take 2 none, Cond.methodLink RX2 95 yX4_cut, Cond.instanceMethod yX4_cut, Cond.selects RX4 yX4_cut yX4_cut, Cond.code yX4_cut cX4_cut 5 (some .boolean), Cond.methodLink RX2 99 yX4_isEmpty, Cond.instanceMethod yX4_isEmpty, Cond.selects RX4 yX4_isEmpty yX4_isEmpty, Cond.code yX4_isEmpty cX4_isEmpty 1 (some .boolean)]
def wsX6_boxes : List Cond := .code yX6_boxes cX6_boxes 4 (some .int) :: ((wsX6_boxes_r1 ++ (wsX6_boxes_r2 ++ (wsX6_boxes_r3 ++ (wsX6_boxes_r4 ++ wsX6_boxes_r5)))) ++ wsX60 ++ wsX10 ++ wsX30 ++ wsX20 ++ wsX40)
def wsX6_undo : List Cond := .code yX6_undo cX6_undo 1 (some .int) :: ([.fieldLink RX6 22 "PulseTurns" "past" "LPulseTurns$Past;", .fieldLink RX6 10 "PulseTurns" "now" "LPulseTurns$Hearing;", .fieldLink RX6 127 "PulseTurns$Past" "size" "I", .methodLink RX6 123 yX3_pull, .instanceMethod yX3_pull, .selects RX3 yX3_pull yX3_pull, .initialized RX3, .code yX3_pull cX3_pull 2 (some .boolean), .fieldLink RX3 26 "PulseTurns$Past" "size" "I", .fieldLink RX3 18 "PulseTurns$Past" "next" "I", .fieldLink RX3 11 "PulseTurns$Past" "ring" "[LPulseTurns$Hearing;", .methodLink RX3 22 yX1_take, .instanceMethod yX1_take, .selects RX1 yX1_take yX1_take, .initialized RX1, .code yX1_take cX1_take 3 none, .fieldLink RX1 9 "PulseTurns$Hearing" "times" "[I", .fieldLink RX1 18 "PulseTurns$Hearing" "size" "I", .fieldLink RX1 22 "PulseTurns$Hearing" "low" "I", .fieldLink RX1 25 "PulseTurns$Hearing" "high" "I", .fieldLink RX1 28 "PulseTurns$Hearing" "slack" "I"] ++ wsX60 ++ wsX30 ++ wsX10)
def wsX6_ofRange : List Cond := .code yX6_ofRange cX6_ofRange 4 (some .int) :: ([])
def wsX6_counts_r1 : List Cond := [Cond.fieldLink RX6 10 "PulseTurns" "now" "LPulseTurns$Hearing;", Cond.fieldLink RX6 51 "PulseTurns" "cutting" "LPulseTurns$Periods;", Cond.fieldLink RX6 110 "PulseTurns$Hearing" "low" "I", Cond.fieldLink RX6 114 "PulseTurns$Hearing" "high" "I", Cond.methodLink RX6 144 Lib.Math.max.name, Cond.static Lib.Math.max.name, Cond.initialized "java/lang/Math", Cond.code Lib.Math.max.name Lib.Math.max.code 2 (some .int), Cond.methodLink RX6 81 yX1_hasArrival, Cond.instanceMethod yX1_hasArrival, Cond.selects RX1 yX1_hasArrival yX1_hasArrival, Cond.initialized RX1, Cond.code yX1_hasArrival cX1_hasArrival 2 (some .boolean), Cond.fieldLink RX1 18 "PulseTurns$Hearing" "size" "I", Cond.methodLink RX6 130 yX4_spread, Cond.instanceMethod yX4_spread, Cond.selects RX4 yX4_spread yX4_spread, Cond.initialized RX4, Cond.code yX4_spread cX4_spread 3 none, Cond.fieldLink RX4 9 "PulseTurns$Periods" "lowUpper" "I", Cond.fieldLink RX4 15 "PulseTurns$Periods" "lowLower" "I", Cond.fieldLink RX4 18 "PulseTurns$Periods" "highUpper" "I", Cond.fieldLink RX4 21 "PulseTurns$Periods" "highLower" "I", Cond.methodLink RX6 134 yX4_narrow]
def wsX6_counts_r2 : List Cond := [Cond.instanceMethod yX4_narrow, Cond.selects RX4 yX4_narrow yX4_narrow, Cond.code yX4_narrow cX4_narrow 6 (some .boolean), Cond.fieldLink RX4 45 "PulseTurns$Hearing" "low" "I", Cond.fieldLink RX4 48 "PulseTurns$Hearing" "high" "I", Cond.fieldLink RX4 55 "PulseTurns$Hearing" "size" "I", Cond.methodLink RX4 51 yX4_spread, Cond.methodLink RX4 58 yX4_leastCount, Cond.instanceMethod yX4_leastCount, Cond.selects RX4 yX4_leastCount yX4_leastCount, Cond.code yX4_leastCount cX4_leastCount 5 (some .int), Cond.fieldLink RX4 24 "PulseTurns$Hearing" "times" "[I", Cond.fieldLink RX4 30 "PulseTurns$Hearing" "slack" "I", Cond.methodLink RX4 37 Lib.Math.max.name, Cond.methodLink RX4 33 yX4_leastTurns, Cond.instanceMethod yX4_leastTurns, Cond.selects RX4 yX4_leastTurns yX4_leastTurns, Cond.code yX4_leastTurns cX4_leastTurns 3 (some .int), Cond.methodLink RX4 62 yX4_greatestCount, Cond.instanceMethod yX4_greatestCount, Cond.selects RX4 yX4_greatestCount yX4_greatestCount, Cond.code yX4_greatestCount cX4_greatestCount 4 (some .int), Cond.methodLink RX4 42 yX4_greatestTurns, Cond.instanceMethod yX4_greatestTurns]
def wsX6_counts_r3 : List Cond := [Cond.selects RX4 yX4_greatestTurns yX4_greatestTurns, Cond.code yX4_greatestTurns cX4_greatestTurns 3 (some .int), Cond.methodLink RX4 65 yX4_cutByTwo, Cond.instanceMethod yX4_cutByTwo, Cond.selects RX4 yX4_cutByTwo yX4_cutByTwo, Cond.code yX4_cutByTwo cX4_cutByTwo 5 (some .boolean), Cond.methodLink RX4 73 yX4_cut, Cond.instanceMethod yX4_cut, Cond.selects RX4 yX4_cut yX4_cut, Cond.code yX4_cut cX4_cut 5 (some .boolean), Cond.methodLink RX4 69 yX4_isEmpty, Cond.instanceMethod yX4_isEmpty, Cond.selects RX4 yX4_isEmpty yX4_isEmpty, Cond.code yX4_isEmpty cX4_isEmpty 1 (some .boolean), Cond.methodLink RX6 137 yX4_leastCount, Cond.methodLink RX6 141 yX4_greatestCount, Cond.methodLink RX6 150 yX6_ofRange, Cond.static yX6_ofRange, Cond.initialized RX6, Cond.code yX6_ofRange cX6_ofRange 4 (some .int)]
def wsX6_counts : List Cond := .code yX6_counts cX6_counts 7 (some .int) :: ((wsX6_counts_r1 ++ (wsX6_counts_r2 ++ wsX6_counts_r3)) ++ wsX60 ++ wsX10 ++ wsX40)
def wsX6_narrowed_r1 : List Cond := [Cond.fieldLink RX6 51 "PulseTurns" "cutting" "LPulseTurns$Periods;", Cond.fieldLink RX6 10 "PulseTurns" "now" "LPulseTurns$Hearing;", Cond.methodLink RX6 134 yX4_narrow, Cond.instanceMethod yX4_narrow, Cond.selects RX4 yX4_narrow yX4_narrow, Cond.initialized RX4, Cond.code yX4_narrow cX4_narrow 6 (some .boolean), Cond.fieldLink RX4 45 "PulseTurns$Hearing" "low" "I", Cond.fieldLink RX4 48 "PulseTurns$Hearing" "high" "I", Cond.fieldLink RX4 55 "PulseTurns$Hearing" "size" "I", Cond.methodLink RX4 51 yX4_spread, Cond.instanceMethod yX4_spread, Cond.selects RX4 yX4_spread yX4_spread, Cond.code yX4_spread cX4_spread 3 none, Cond.fieldLink RX4 9 "PulseTurns$Periods" "lowUpper" "I", Cond.fieldLink RX4 15 "PulseTurns$Periods" "lowLower" "I", Cond.fieldLink RX4 18 "PulseTurns$Periods" "highUpper" "I", Cond.fieldLink RX4 21 "PulseTurns$Periods" "highLower" "I", Cond.methodLink RX4 58 yX4_leastCount, Cond.instanceMethod yX4_leastCount, Cond.selects RX4 yX4_leastCount yX4_leastCount, Cond.code yX4_leastCount cX4_leastCount 5 (some .int), Cond.fieldLink RX4 24 "PulseTurns$Hearing" "times" "[I", Cond.fieldLink RX4 30 "PulseTurns$Hearing" "slack" "I"]
def wsX6_narrowed_r2 : List Cond := [Cond.methodLink RX4 37 Lib.Math.max.name, Cond.static Lib.Math.max.name, Cond.initialized "java/lang/Math", Cond.code Lib.Math.max.name Lib.Math.max.code 2 (some .int), Cond.methodLink RX4 33 yX4_leastTurns, Cond.instanceMethod yX4_leastTurns, Cond.selects RX4 yX4_leastTurns yX4_leastTurns, Cond.code yX4_leastTurns cX4_leastTurns 3 (some .int), Cond.methodLink RX4 62 yX4_greatestCount, Cond.instanceMethod yX4_greatestCount, Cond.selects RX4 yX4_greatestCount yX4_greatestCount, Cond.code yX4_greatestCount cX4_greatestCount 4 (some .int), Cond.methodLink RX4 42 yX4_greatestTurns, Cond.instanceMethod yX4_greatestTurns, Cond.selects RX4 yX4_greatestTurns yX4_greatestTurns, Cond.code yX4_greatestTurns cX4_greatestTurns 3 (some .int), Cond.methodLink RX4 65 yX4_cutByTwo, Cond.instanceMethod yX4_cutByTwo, Cond.selects RX4 yX4_cutByTwo yX4_cutByTwo, Cond.code yX4_cutByTwo cX4_cutByTwo 5 (some .boolean), Cond.methodLink RX4 73 yX4_cut, Cond.instanceMethod yX4_cut, Cond.selects RX4 yX4_cut yX4_cut, Cond.code yX4_cut cX4_cut 5 (some .boolean)]
def wsX6_narrowed_r3 : List Cond := [Cond.methodLink RX4 69 yX4_isEmpty, Cond.instanceMethod yX4_isEmpty, Cond.selects RX4 yX4_isEmpty yX4_isEmpty, Cond.code yX4_isEmpty cX4_isEmpty 1 (some .boolean), Cond.methodLink RX6 154 yX4_part, Cond.instanceMethod yX4_part, Cond.selects RX4 yX4_part yX4_part, Cond.code yX4_part cX4_part 2 (some .int), Cond.methodLink RX4 77 yX0_part, Cond.static yX0_part, Cond.initialized RX0, Cond.code yX0_part cX0_part 4 (some .int), Cond.methodLink RX0 9 Lib.Math.abs.name, Cond.static Lib.Math.abs.name, Cond.code Lib.Math.abs.name Lib.Math.abs.code 1 (some .int), Cond.methodLink RX0 15 yX0_commonDivisor, Cond.static yX0_commonDivisor, Cond.code yX0_commonDivisor cX0_commonDivisor 6 (some .int), Cond.constant RX0 21 (1000000)]
def wsX6_narrowed : List Cond := .code yX6_narrowed cX6_narrowed 2 (some .int) :: ((wsX6_narrowed_r1 ++ (wsX6_narrowed_r2 ++ wsX6_narrowed_r3)) ++ wsX60 ++ wsX10 ++ wsX40)
def wsX6_goesTo_r1 : List Cond := [Cond.constant RX6 170 (1000000), Cond.fieldLink RX6 44 "PulseTurns" "numberings" "LPulseTurns$Numberings;", Cond.fieldLink RX6 10 "PulseTurns" "now" "LPulseTurns$Hearing;", Cond.methodLink RX6 167 yX2_begin, Cond.instanceMethod yX2_begin, Cond.selects RX2 yX2_begin yX2_begin, Cond.initialized RX2, Cond.code yX2_begin cX2_begin 3 none, Cond.fieldLink RX2 9 "PulseTurns$Numberings" "times" "[I", Cond.fieldLink RX2 28 "PulseTurns$Hearing" "times" "[I", Cond.fieldLink RX2 31 "PulseTurns$Hearing" "size" "I", Cond.fieldLink RX2 35 "PulseTurns$Numberings" "size" "I", Cond.fieldLink RX2 36 "PulseTurns$Hearing" "slack" "I", Cond.fieldLink RX2 39 "PulseTurns$Numberings" "room" "I", Cond.fieldLink RX2 42 "PulseTurns$Numberings" "begun" "Z", Cond.fieldLink RX2 46 "PulseTurns$Numberings" "ended" "Z", Cond.fieldLink RX2 15 "PulseTurns$Numberings" "numbers" "[I", Cond.fieldLink RX2 23 "PulseTurns$Numberings" "leaves" "[LPulseTurns$Periods;", Cond.fieldLink RX2 49 "PulseTurns$Hearing" "low" "I", Cond.fieldLink RX2 52 "PulseTurns$Hearing" "high" "I", Cond.methodLink RX2 55 yX4_spread, Cond.instanceMethod yX4_spread, Cond.selects RX4 yX4_spread yX4_spread, Cond.initialized RX4]
def wsX6_goesTo_r2 : List Cond := [Cond.code yX4_spread cX4_spread 3 none, Cond.fieldLink RX4 9 "PulseTurns$Periods" "lowUpper" "I", Cond.fieldLink RX4 15 "PulseTurns$Periods" "lowLower" "I", Cond.fieldLink RX4 18 "PulseTurns$Periods" "highUpper" "I", Cond.fieldLink RX4 21 "PulseTurns$Periods" "highLower" "I", Cond.methodLink RX6 213 yX2_tally, Cond.instanceMethod yX2_tally, Cond.selects RX2 yX2_tally yX2_tally, Cond.code yX2_tally cX2_tally 3 (some .int), Cond.methodLink RX2 71 yX2_next, Cond.instanceMethod yX2_next, Cond.selects RX2 yX2_next yX2_next, Cond.code yX2_next cX2_next 2 (some .boolean), Cond.methodLink RX2 59 yX2_open, Cond.instanceMethod yX2_open, Cond.selects RX2 yX2_open yX2_open, Cond.code yX2_open cX2_open 4 none, Cond.methodLink RX2 83 Lib.Math.max.name, Cond.static Lib.Math.max.name, Cond.initialized "java/lang/Math", Cond.code Lib.Math.max.name Lib.Math.max.code 2 (some .int), Cond.fieldLink RX2 18 "PulseTurns$Numberings" "greatest" "[I", Cond.methodLink RX2 79 yX4_leastTurns, Cond.instanceMethod yX4_leastTurns]
def wsX6_goesTo_r3 : List Cond := [Cond.selects RX4 yX4_leastTurns yX4_leastTurns, Cond.code yX4_leastTurns cX4_leastTurns 3 (some .int), Cond.methodLink RX2 88 yX4_greatestTurns, Cond.instanceMethod yX4_greatestTurns, Cond.selects RX4 yX4_greatestTurns yX4_greatestTurns, Cond.code yX4_greatestTurns cX4_greatestTurns 3 (some .int), Cond.methodLink RX2 63 yX2_search, Cond.instanceMethod yX2_search, Cond.selects RX2 yX2_search yX2_search, Cond.code yX2_search cX2_search 4 (some .boolean), Cond.constant RX2 67 (1000000), Cond.methodLink RX2 68 yX2_fits, Cond.instanceMethod yX2_fits, Cond.selects RX2 yX2_fits yX2_fits, Cond.code yX2_fits cX2_fits 4 (some .boolean), Cond.methodLink RX2 91 yX4_take, Cond.instanceMethod yX4_take, Cond.selects RX4 yX4_take yX4_take, Cond.code yX4_take cX4_take 2 none, Cond.methodLink RX2 95 yX4_cut, Cond.instanceMethod yX4_cut, Cond.selects RX4 yX4_cut yX4_cut, Cond.code yX4_cut cX4_cut 5 (some .boolean), Cond.methodLink RX2 99 yX4_isEmpty]
def wsX6_goesTo_r4 : List Cond := [Cond.instanceMethod yX4_isEmpty, Cond.selects RX4 yX4_isEmpty yX4_isEmpty, Cond.code yX4_isEmpty cX4_isEmpty 1 (some .boolean)]
def wsX6_goesTo : List Cond := .code yX6_goesTo cX6_goesTo 2 (some .boolean) :: ((wsX6_goesTo_r1 ++ (wsX6_goesTo_r2 ++ (wsX6_goesTo_r3 ++ wsX6_goesTo_r4))) ++ wsX60 ++ wsX20 ++ wsX10 ++ wsX40)
def wsX6_number_r1 : List Cond := [Cond.fieldLink RX6 10 "PulseTurns" "now" "LPulseTurns$Hearing;", Cond.fieldLink RX6 44 "PulseTurns" "numberings" "LPulseTurns$Numberings;", Cond.fieldLink RX6 160 "PulseTurns$Numberings" "numbers" "[I", Cond.methodLink RX6 81 yX1_hasArrival, Cond.instanceMethod yX1_hasArrival, Cond.selects RX1 yX1_hasArrival yX1_hasArrival, Cond.initialized RX1, Cond.code yX1_hasArrival cX1_hasArrival 2 (some .boolean), Cond.fieldLink RX1 18 "PulseTurns$Hearing" "size" "I", Cond.methodLink RX6 157 yX6_goesTo, Cond.instanceMethod yX6_goesTo, Cond.selects RX6 yX6_goesTo yX6_goesTo, Cond.initialized RX6, Cond.code yX6_goesTo cX6_goesTo 2 (some .boolean), Cond.constant RX6 170 (1000000), Cond.methodLink RX6 167 yX2_begin, Cond.instanceMethod yX2_begin, Cond.selects RX2 yX2_begin yX2_begin, Cond.initialized RX2, Cond.code yX2_begin cX2_begin 3 none, Cond.fieldLink RX2 9 "PulseTurns$Numberings" "times" "[I", Cond.fieldLink RX2 28 "PulseTurns$Hearing" "times" "[I", Cond.fieldLink RX2 31 "PulseTurns$Hearing" "size" "I", Cond.fieldLink RX2 35 "PulseTurns$Numberings" "size" "I"]
def wsX6_number_r2 : List Cond := [Cond.fieldLink RX2 36 "PulseTurns$Hearing" "slack" "I", Cond.fieldLink RX2 39 "PulseTurns$Numberings" "room" "I", Cond.fieldLink RX2 42 "PulseTurns$Numberings" "begun" "Z", Cond.fieldLink RX2 46 "PulseTurns$Numberings" "ended" "Z", Cond.fieldLink RX2 15 "PulseTurns$Numberings" "numbers" "[I", Cond.fieldLink RX2 23 "PulseTurns$Numberings" "leaves" "[LPulseTurns$Periods;", Cond.fieldLink RX2 49 "PulseTurns$Hearing" "low" "I", Cond.fieldLink RX2 52 "PulseTurns$Hearing" "high" "I", Cond.methodLink RX2 55 yX4_spread, Cond.instanceMethod yX4_spread, Cond.selects RX4 yX4_spread yX4_spread, Cond.initialized RX4, Cond.code yX4_spread cX4_spread 3 none, Cond.fieldLink RX4 9 "PulseTurns$Periods" "lowUpper" "I", Cond.fieldLink RX4 15 "PulseTurns$Periods" "lowLower" "I", Cond.fieldLink RX4 18 "PulseTurns$Periods" "highUpper" "I", Cond.fieldLink RX4 21 "PulseTurns$Periods" "highLower" "I", Cond.methodLink RX6 213 yX2_tally, Cond.instanceMethod yX2_tally, Cond.selects RX2 yX2_tally yX2_tally, Cond.code yX2_tally cX2_tally 3 (some .int), Cond.methodLink RX2 71 yX2_next, Cond.instanceMethod yX2_next, Cond.selects RX2 yX2_next yX2_next]
def wsX6_number_r3 : List Cond := [Cond.code yX2_next cX2_next 2 (some .boolean), Cond.methodLink RX2 59 yX2_open, Cond.instanceMethod yX2_open, Cond.selects RX2 yX2_open yX2_open, Cond.code yX2_open cX2_open 4 none, Cond.methodLink RX2 83 Lib.Math.max.name, Cond.static Lib.Math.max.name, Cond.initialized "java/lang/Math", Cond.code Lib.Math.max.name Lib.Math.max.code 2 (some .int), Cond.fieldLink RX2 18 "PulseTurns$Numberings" "greatest" "[I", Cond.methodLink RX2 79 yX4_leastTurns, Cond.instanceMethod yX4_leastTurns, Cond.selects RX4 yX4_leastTurns yX4_leastTurns, Cond.code yX4_leastTurns cX4_leastTurns 3 (some .int), Cond.methodLink RX2 88 yX4_greatestTurns, Cond.instanceMethod yX4_greatestTurns, Cond.selects RX4 yX4_greatestTurns yX4_greatestTurns, Cond.code yX4_greatestTurns cX4_greatestTurns 3 (some .int), Cond.methodLink RX2 63 yX2_search, Cond.instanceMethod yX2_search, Cond.selects RX2 yX2_search yX2_search, Cond.code yX2_search cX2_search 4 (some .boolean), Cond.constant RX2 67 (1000000), Cond.methodLink RX2 68 yX2_fits]
def wsX6_number_r4 : List Cond := [Cond.instanceMethod yX2_fits, Cond.selects RX2 yX2_fits yX2_fits, Cond.code yX2_fits cX2_fits 4 (some .boolean), Cond.methodLink RX2 91 yX4_take, Cond.instanceMethod yX4_take, Cond.selects RX4 yX4_take yX4_take, Cond.code yX4_take cX4_take 2 none, Cond.methodLink RX2 95 yX4_cut, Cond.instanceMethod yX4_cut, Cond.selects RX4 yX4_cut yX4_cut, Cond.code yX4_cut cX4_cut 5 (some .boolean), Cond.methodLink RX2 99 yX4_isEmpty, Cond.instanceMethod yX4_isEmpty, Cond.selects RX4 yX4_isEmpty yX4_isEmpty, Cond.code yX4_isEmpty cX4_isEmpty 1 (some .boolean)]
def wsX6_number : List Cond := .code yX6_number cX6_number 3 (some .int) :: ((wsX6_number_r1 ++ (wsX6_number_r2 ++ (wsX6_number_r3 ++ wsX6_number_r4))) ++ wsX60 ++ wsX20 ++ wsX10 ++ wsX40)
def wsX6_box_r1 : List Cond := [Cond.fieldLink RX6 44 "PulseTurns" "numberings" "LPulseTurns$Numberings;", Cond.methodLink RX6 157 yX6_goesTo, Cond.instanceMethod yX6_goesTo, Cond.selects RX6 yX6_goesTo yX6_goesTo, Cond.initialized RX6, Cond.code yX6_goesTo cX6_goesTo 2 (some .boolean), Cond.constant RX6 170 (1000000), Cond.fieldLink RX6 10 "PulseTurns" "now" "LPulseTurns$Hearing;", Cond.methodLink RX6 167 yX2_begin, Cond.instanceMethod yX2_begin, Cond.selects RX2 yX2_begin yX2_begin, Cond.initialized RX2, Cond.code yX2_begin cX2_begin 3 none, Cond.fieldLink RX2 9 "PulseTurns$Numberings" "times" "[I", Cond.fieldLink RX2 28 "PulseTurns$Hearing" "times" "[I", Cond.fieldLink RX2 31 "PulseTurns$Hearing" "size" "I", Cond.fieldLink RX2 35 "PulseTurns$Numberings" "size" "I", Cond.fieldLink RX2 36 "PulseTurns$Hearing" "slack" "I", Cond.fieldLink RX2 39 "PulseTurns$Numberings" "room" "I", Cond.fieldLink RX2 42 "PulseTurns$Numberings" "begun" "Z", Cond.fieldLink RX2 46 "PulseTurns$Numberings" "ended" "Z", Cond.fieldLink RX2 15 "PulseTurns$Numberings" "numbers" "[I", Cond.fieldLink RX2 23 "PulseTurns$Numberings" "leaves" "[LPulseTurns$Periods;", Cond.fieldLink RX2 49 "PulseTurns$Hearing" "low" "I"]
def wsX6_box_r2 : List Cond := [Cond.fieldLink RX2 52 "PulseTurns$Hearing" "high" "I", Cond.methodLink RX2 55 yX4_spread, Cond.instanceMethod yX4_spread, Cond.selects RX4 yX4_spread yX4_spread, Cond.initialized RX4, Cond.code yX4_spread cX4_spread 3 none, Cond.fieldLink RX4 9 "PulseTurns$Periods" "lowUpper" "I", Cond.fieldLink RX4 15 "PulseTurns$Periods" "lowLower" "I", Cond.fieldLink RX4 18 "PulseTurns$Periods" "highUpper" "I", Cond.fieldLink RX4 21 "PulseTurns$Periods" "highLower" "I", Cond.methodLink RX6 213 yX2_tally, Cond.instanceMethod yX2_tally, Cond.selects RX2 yX2_tally yX2_tally, Cond.code yX2_tally cX2_tally 3 (some .int), Cond.methodLink RX2 71 yX2_next, Cond.instanceMethod yX2_next, Cond.selects RX2 yX2_next yX2_next, Cond.code yX2_next cX2_next 2 (some .boolean), Cond.methodLink RX2 59 yX2_open, Cond.instanceMethod yX2_open, Cond.selects RX2 yX2_open yX2_open, Cond.code yX2_open cX2_open 4 none, Cond.methodLink RX2 83 Lib.Math.max.name, Cond.static Lib.Math.max.name]
def wsX6_box_r3 : List Cond := [Cond.initialized "java/lang/Math", Cond.code Lib.Math.max.name Lib.Math.max.code 2 (some .int), Cond.fieldLink RX2 18 "PulseTurns$Numberings" "greatest" "[I", Cond.methodLink RX2 79 yX4_leastTurns, Cond.instanceMethod yX4_leastTurns, Cond.selects RX4 yX4_leastTurns yX4_leastTurns, Cond.code yX4_leastTurns cX4_leastTurns 3 (some .int), Cond.methodLink RX2 88 yX4_greatestTurns, Cond.instanceMethod yX4_greatestTurns, Cond.selects RX4 yX4_greatestTurns yX4_greatestTurns, Cond.code yX4_greatestTurns cX4_greatestTurns 3 (some .int), Cond.methodLink RX2 63 yX2_search, Cond.instanceMethod yX2_search, Cond.selects RX2 yX2_search yX2_search, Cond.code yX2_search cX2_search 4 (some .boolean), Cond.constant RX2 67 (1000000), Cond.methodLink RX2 68 yX2_fits, Cond.instanceMethod yX2_fits, Cond.selects RX2 yX2_fits yX2_fits, Cond.code yX2_fits cX2_fits 4 (some .boolean), Cond.methodLink RX2 91 yX4_take, Cond.instanceMethod yX4_take, Cond.selects RX4 yX4_take yX4_take, Cond.code yX4_take cX4_take 2 none]
def wsX6_box_r4 : List Cond := [Cond.methodLink RX2 95 yX4_cut, Cond.instanceMethod yX4_cut, Cond.selects RX4 yX4_cut yX4_cut, Cond.code yX4_cut cX4_cut 5 (some .boolean), Cond.methodLink RX2 99 yX4_isEmpty, Cond.instanceMethod yX4_isEmpty, Cond.selects RX4 yX4_isEmpty yX4_isEmpty, Cond.code yX4_isEmpty cX4_isEmpty 1 (some .boolean), Cond.methodLink RX6 163 yX2_boxPart, Cond.instanceMethod yX2_boxPart, Cond.selects RX2 yX2_boxPart yX2_boxPart, Cond.code yX2_boxPart cX2_boxPart 2 (some .int), Cond.methodLink RX2 75 yX4_part, Cond.instanceMethod yX4_part, Cond.selects RX4 yX4_part yX4_part, Cond.code yX4_part cX4_part 2 (some .int), Cond.methodLink RX4 77 yX0_part, Cond.static yX0_part, Cond.initialized RX0, Cond.code yX0_part cX0_part 4 (some .int), Cond.methodLink RX0 9 Lib.Math.abs.name, Cond.static Lib.Math.abs.name, Cond.code Lib.Math.abs.name Lib.Math.abs.code 1 (some .int), Cond.methodLink RX0 15 yX0_commonDivisor]
def wsX6_box_r5 : List Cond := [Cond.static yX0_commonDivisor, Cond.code yX0_commonDivisor cX0_commonDivisor 6 (some .int), Cond.constant RX0 21 (1000000)]
def wsX6_box : List Cond := .code yX6_box cX6_box 3 (some .int) :: ((wsX6_box_r1 ++ (wsX6_box_r2 ++ (wsX6_box_r3 ++ (wsX6_box_r4 ++ wsX6_box_r5)))) ++ wsX60 ++ wsX20 ++ wsX10 ++ wsX40)
def wsX6_held_r1 : List Cond := [Cond.fieldLink RX6 10 "PulseTurns" "now" "LPulseTurns$Hearing;", Cond.fieldLink RX6 166 "PulseTurns$Hearing" "size" "I", Cond.fieldLink RX6 44 "PulseTurns" "numberings" "LPulseTurns$Numberings;", Cond.constant RX6 170 (1000000), Cond.fieldLink RX6 160 "PulseTurns$Numberings" "numbers" "[I", Cond.methodLink RX6 167 yX2_begin, Cond.instanceMethod yX2_begin, Cond.selects RX2 yX2_begin yX2_begin, Cond.initialized RX2, Cond.code yX2_begin cX2_begin 3 none, Cond.fieldLink RX2 9 "PulseTurns$Numberings" "times" "[I", Cond.fieldLink RX2 28 "PulseTurns$Hearing" "times" "[I", Cond.fieldLink RX2 31 "PulseTurns$Hearing" "size" "I", Cond.fieldLink RX2 35 "PulseTurns$Numberings" "size" "I", Cond.fieldLink RX2 36 "PulseTurns$Hearing" "slack" "I", Cond.fieldLink RX2 39 "PulseTurns$Numberings" "room" "I", Cond.fieldLink RX2 42 "PulseTurns$Numberings" "begun" "Z", Cond.fieldLink RX2 46 "PulseTurns$Numberings" "ended" "Z", Cond.fieldLink RX2 15 "PulseTurns$Numberings" "numbers" "[I", Cond.fieldLink RX2 23 "PulseTurns$Numberings" "leaves" "[LPulseTurns$Periods;", Cond.fieldLink RX2 49 "PulseTurns$Hearing" "low" "I", Cond.fieldLink RX2 52 "PulseTurns$Hearing" "high" "I", Cond.methodLink RX2 55 yX4_spread, Cond.instanceMethod yX4_spread]
def wsX6_held_r2 : List Cond := [Cond.selects RX4 yX4_spread yX4_spread, Cond.initialized RX4, Cond.code yX4_spread cX4_spread 3 none, Cond.fieldLink RX4 9 "PulseTurns$Periods" "lowUpper" "I", Cond.fieldLink RX4 15 "PulseTurns$Periods" "lowLower" "I", Cond.fieldLink RX4 18 "PulseTurns$Periods" "highUpper" "I", Cond.fieldLink RX4 21 "PulseTurns$Periods" "highLower" "I", Cond.methodLink RX6 171 yX2_next, Cond.instanceMethod yX2_next, Cond.selects RX2 yX2_next yX2_next, Cond.code yX2_next cX2_next 2 (some .boolean), Cond.methodLink RX2 59 yX2_open, Cond.instanceMethod yX2_open, Cond.selects RX2 yX2_open yX2_open, Cond.code yX2_open cX2_open 4 none, Cond.methodLink RX2 83 Lib.Math.max.name, Cond.static Lib.Math.max.name, Cond.initialized "java/lang/Math", Cond.code Lib.Math.max.name Lib.Math.max.code 2 (some .int), Cond.fieldLink RX2 18 "PulseTurns$Numberings" "greatest" "[I", Cond.methodLink RX2 79 yX4_leastTurns, Cond.instanceMethod yX4_leastTurns, Cond.selects RX4 yX4_leastTurns yX4_leastTurns, Cond.code yX4_leastTurns cX4_leastTurns 3 (some .int)]
def wsX6_held_r3 : List Cond := [Cond.methodLink RX2 88 yX4_greatestTurns, Cond.instanceMethod yX4_greatestTurns, Cond.selects RX4 yX4_greatestTurns yX4_greatestTurns, Cond.code yX4_greatestTurns cX4_greatestTurns 3 (some .int), Cond.methodLink RX2 63 yX2_search, Cond.instanceMethod yX2_search, Cond.selects RX2 yX2_search yX2_search, Cond.code yX2_search cX2_search 4 (some .boolean), Cond.constant RX2 67 (1000000), Cond.methodLink RX2 68 yX2_fits, Cond.instanceMethod yX2_fits, Cond.selects RX2 yX2_fits yX2_fits, Cond.code yX2_fits cX2_fits 4 (some .boolean), Cond.methodLink RX2 91 yX4_take, Cond.instanceMethod yX4_take, Cond.selects RX4 yX4_take yX4_take, Cond.code yX4_take cX4_take 2 none, Cond.methodLink RX2 95 yX4_cut, Cond.instanceMethod yX4_cut, Cond.selects RX4 yX4_cut yX4_cut, Cond.code yX4_cut cX4_cut 5 (some .boolean), Cond.methodLink RX2 99 yX4_isEmpty, Cond.instanceMethod yX4_isEmpty, Cond.selects RX4 yX4_isEmpty yX4_isEmpty]
def wsX6_held_r4 : List Cond := [Cond.code yX4_isEmpty cX4_isEmpty 1 (some .boolean), Cond.methodLink RX6 150 yX6_ofRange, Cond.static yX6_ofRange, Cond.initialized RX6, Cond.code yX6_ofRange cX6_ofRange 4 (some .int)]
def wsX6_held : List Cond := .code yX6_held cX6_held 8 (some .int) :: ((wsX6_held_r1 ++ (wsX6_held_r2 ++ (wsX6_held_r3 ++ wsX6_held_r4))) ++ wsX60 ++ wsX10 ++ wsX20 ++ wsX40)
def wsX6_bend_r1 : List Cond := [Cond.fieldLink RX6 10 "PulseTurns" "now" "LPulseTurns$Hearing;", Cond.constant RX6 175 (-1000000), Cond.fieldLink RX6 85 "PulseTurns$Hearing" "times" "[I", Cond.fieldLink RX6 44 "PulseTurns" "numberings" "LPulseTurns$Numberings;", Cond.fieldLink RX6 160 "PulseTurns$Numberings" "numbers" "[I", Cond.methodLink RX6 81 yX1_hasArrival, Cond.instanceMethod yX1_hasArrival, Cond.selects RX1 yX1_hasArrival yX1_hasArrival, Cond.initialized RX1, Cond.code yX1_hasArrival cX1_hasArrival 2 (some .boolean), Cond.fieldLink RX1 18 "PulseTurns$Hearing" "size" "I", Cond.methodLink RX6 157 yX6_goesTo, Cond.instanceMethod yX6_goesTo, Cond.selects RX6 yX6_goesTo yX6_goesTo, Cond.initialized RX6, Cond.code yX6_goesTo cX6_goesTo 2 (some .boolean), Cond.constant RX6 170 (1000000), Cond.methodLink RX6 167 yX2_begin, Cond.instanceMethod yX2_begin, Cond.selects RX2 yX2_begin yX2_begin, Cond.initialized RX2, Cond.code yX2_begin cX2_begin 3 none, Cond.fieldLink RX2 9 "PulseTurns$Numberings" "times" "[I", Cond.fieldLink RX2 28 "PulseTurns$Hearing" "times" "[I"]
def wsX6_bend_r2 : List Cond := [Cond.fieldLink RX2 31 "PulseTurns$Hearing" "size" "I", Cond.fieldLink RX2 35 "PulseTurns$Numberings" "size" "I", Cond.fieldLink RX2 36 "PulseTurns$Hearing" "slack" "I", Cond.fieldLink RX2 39 "PulseTurns$Numberings" "room" "I", Cond.fieldLink RX2 42 "PulseTurns$Numberings" "begun" "Z", Cond.fieldLink RX2 46 "PulseTurns$Numberings" "ended" "Z", Cond.fieldLink RX2 15 "PulseTurns$Numberings" "numbers" "[I", Cond.fieldLink RX2 23 "PulseTurns$Numberings" "leaves" "[LPulseTurns$Periods;", Cond.fieldLink RX2 49 "PulseTurns$Hearing" "low" "I", Cond.fieldLink RX2 52 "PulseTurns$Hearing" "high" "I", Cond.methodLink RX2 55 yX4_spread, Cond.instanceMethod yX4_spread, Cond.selects RX4 yX4_spread yX4_spread, Cond.initialized RX4, Cond.code yX4_spread cX4_spread 3 none, Cond.fieldLink RX4 9 "PulseTurns$Periods" "lowUpper" "I", Cond.fieldLink RX4 15 "PulseTurns$Periods" "lowLower" "I", Cond.fieldLink RX4 18 "PulseTurns$Periods" "highUpper" "I", Cond.fieldLink RX4 21 "PulseTurns$Periods" "highLower" "I", Cond.methodLink RX6 213 yX2_tally, Cond.instanceMethod yX2_tally, Cond.selects RX2 yX2_tally yX2_tally, Cond.code yX2_tally cX2_tally 3 (some .int), Cond.methodLink RX2 71 yX2_next]
def wsX6_bend_r3 : List Cond := [Cond.instanceMethod yX2_next, Cond.selects RX2 yX2_next yX2_next, Cond.code yX2_next cX2_next 2 (some .boolean), Cond.methodLink RX2 59 yX2_open, Cond.instanceMethod yX2_open, Cond.selects RX2 yX2_open yX2_open, Cond.code yX2_open cX2_open 4 none, Cond.methodLink RX2 83 Lib.Math.max.name, Cond.static Lib.Math.max.name, Cond.initialized "java/lang/Math", Cond.code Lib.Math.max.name Lib.Math.max.code 2 (some .int), Cond.fieldLink RX2 18 "PulseTurns$Numberings" "greatest" "[I", Cond.methodLink RX2 79 yX4_leastTurns, Cond.instanceMethod yX4_leastTurns, Cond.selects RX4 yX4_leastTurns yX4_leastTurns, Cond.code yX4_leastTurns cX4_leastTurns 3 (some .int), Cond.methodLink RX2 88 yX4_greatestTurns, Cond.instanceMethod yX4_greatestTurns, Cond.selects RX4 yX4_greatestTurns yX4_greatestTurns, Cond.code yX4_greatestTurns cX4_greatestTurns 3 (some .int), Cond.methodLink RX2 63 yX2_search, Cond.instanceMethod yX2_search, Cond.selects RX2 yX2_search yX2_search, Cond.code yX2_search cX2_search 4 (some .boolean)]
def wsX6_bend_r4 : List Cond := [Cond.constant RX2 67 (1000000), Cond.methodLink RX2 68 yX2_fits, Cond.instanceMethod yX2_fits, Cond.selects RX2 yX2_fits yX2_fits, Cond.code yX2_fits cX2_fits 4 (some .boolean), Cond.methodLink RX2 91 yX4_take, Cond.instanceMethod yX4_take, Cond.selects RX4 yX4_take yX4_take, Cond.code yX4_take cX4_take 2 none, Cond.methodLink RX2 95 yX4_cut, Cond.instanceMethod yX4_cut, Cond.selects RX4 yX4_cut yX4_cut, Cond.code yX4_cut cX4_cut 5 (some .boolean), Cond.methodLink RX2 99 yX4_isEmpty, Cond.instanceMethod yX4_isEmpty, Cond.selects RX4 yX4_isEmpty yX4_isEmpty, Cond.code yX4_isEmpty cX4_isEmpty 1 (some .boolean), Cond.methodLink RX6 176 yX0_part, Cond.static yX0_part, Cond.initialized RX0, Cond.code yX0_part cX0_part 4 (some .int), Cond.methodLink RX0 9 Lib.Math.abs.name, Cond.static Lib.Math.abs.name, Cond.code Lib.Math.abs.name Lib.Math.abs.code 1 (some .int)]
def wsX6_bend_r5 : List Cond := [Cond.methodLink RX0 15 yX0_commonDivisor, Cond.static yX0_commonDivisor, Cond.code yX0_commonDivisor cX0_commonDivisor 6 (some .int), Cond.constant RX0 21 (1000000)]
def wsX6_bend : List Cond := .code yX6_bend cX6_bend 10 (some .int) :: ((wsX6_bend_r1 ++ (wsX6_bend_r2 ++ (wsX6_bend_r3 ++ (wsX6_bend_r4 ++ wsX6_bend_r5)))) ++ wsX60 ++ wsX10 ++ wsX20 ++ wsX40)
def wsX6_left_r1 : List Cond := [Cond.fieldLink RX6 16 "PulseTurns" "trial" "LPulseTurns$Hearing;", Cond.fieldLink RX6 10 "PulseTurns" "now" "LPulseTurns$Hearing;", Cond.methodLink RX6 88 yX6_refusesNew, Cond.instanceMethod yX6_refusesNew, Cond.selects RX6 yX6_refusesNew yX6_refusesNew, Cond.initialized RX6, Cond.code yX6_refusesNew cX6_refusesNew 2 (some .int), Cond.fieldLink RX6 166 "PulseTurns$Hearing" "size" "I", Cond.methodLink RX6 207 yX6_isTime, Cond.static yX6_isTime, Cond.code yX6_isTime cX6_isTime 1 (some .boolean), Cond.methodLink RX6 210 yX1_hears, Cond.instanceMethod yX1_hears, Cond.selects RX1 yX1_hears yX1_hears, Cond.initialized RX1, Cond.code yX1_hears cX1_hears 3 (some .boolean), Cond.fieldLink RX1 18 "PulseTurns$Hearing" "size" "I", Cond.fieldLink RX1 9 "PulseTurns$Hearing" "times" "[I", Cond.methodLink RX6 74 yX1_take, Cond.instanceMethod yX1_take, Cond.selects RX1 yX1_take yX1_take, Cond.code yX1_take cX1_take 3 none, Cond.fieldLink RX1 22 "PulseTurns$Hearing" "low" "I", Cond.fieldLink RX1 25 "PulseTurns$Hearing" "high" "I"]
def wsX6_left_r2 : List Cond := [Cond.fieldLink RX1 28 "PulseTurns$Hearing" "slack" "I", Cond.methodLink RX6 94 yX1_place, Cond.instanceMethod yX1_place, Cond.selects RX1 yX1_place yX1_place, Cond.code yX1_place cX1_place 4 (some .int), Cond.methodLink RX6 120 yX6_standing, Cond.instanceMethod yX6_standing, Cond.selects RX6 yX6_standing yX6_standing, Cond.code yX6_standing cX6_standing 2 (some .int), Cond.fieldLink RX6 44 "PulseTurns" "numberings" "LPulseTurns$Numberings;", Cond.constant RX6 170 (1000000), Cond.methodLink RX6 167 yX2_begin, Cond.instanceMethod yX2_begin, Cond.selects RX2 yX2_begin yX2_begin, Cond.initialized RX2, Cond.code yX2_begin cX2_begin 3 none, Cond.fieldLink RX2 9 "PulseTurns$Numberings" "times" "[I", Cond.fieldLink RX2 28 "PulseTurns$Hearing" "times" "[I", Cond.fieldLink RX2 31 "PulseTurns$Hearing" "size" "I", Cond.fieldLink RX2 35 "PulseTurns$Numberings" "size" "I", Cond.fieldLink RX2 36 "PulseTurns$Hearing" "slack" "I", Cond.fieldLink RX2 39 "PulseTurns$Numberings" "room" "I", Cond.fieldLink RX2 42 "PulseTurns$Numberings" "begun" "Z", Cond.fieldLink RX2 46 "PulseTurns$Numberings" "ended" "Z"]
def wsX6_left_r3 : List Cond := [Cond.fieldLink RX2 15 "PulseTurns$Numberings" "numbers" "[I", Cond.fieldLink RX2 23 "PulseTurns$Numberings" "leaves" "[LPulseTurns$Periods;", Cond.fieldLink RX2 49 "PulseTurns$Hearing" "low" "I", Cond.fieldLink RX2 52 "PulseTurns$Hearing" "high" "I", Cond.methodLink RX2 55 yX4_spread, Cond.instanceMethod yX4_spread, Cond.selects RX4 yX4_spread yX4_spread, Cond.initialized RX4, Cond.code yX4_spread cX4_spread 3 none, Cond.fieldLink RX4 9 "PulseTurns$Periods" "lowUpper" "I", Cond.fieldLink RX4 15 "PulseTurns$Periods" "lowLower" "I", Cond.fieldLink RX4 18 "PulseTurns$Periods" "highUpper" "I", Cond.fieldLink RX4 21 "PulseTurns$Periods" "highLower" "I", Cond.methodLink RX6 213 yX2_tally, Cond.instanceMethod yX2_tally, Cond.selects RX2 yX2_tally yX2_tally, Cond.code yX2_tally cX2_tally 3 (some .int), Cond.methodLink RX2 71 yX2_next, Cond.instanceMethod yX2_next, Cond.selects RX2 yX2_next yX2_next, Cond.code yX2_next cX2_next 2 (some .boolean), Cond.methodLink RX2 59 yX2_open, Cond.instanceMethod yX2_open, Cond.selects RX2 yX2_open yX2_open]
def wsX6_left_r4 : List Cond := [Cond.code yX2_open cX2_open 4 none, Cond.methodLink RX2 83 Lib.Math.max.name, Cond.static Lib.Math.max.name, Cond.initialized "java/lang/Math", Cond.code Lib.Math.max.name Lib.Math.max.code 2 (some .int), Cond.fieldLink RX2 18 "PulseTurns$Numberings" "greatest" "[I", Cond.methodLink RX2 79 yX4_leastTurns, Cond.instanceMethod yX4_leastTurns, Cond.selects RX4 yX4_leastTurns yX4_leastTurns, Cond.code yX4_leastTurns cX4_leastTurns 3 (some .int), Cond.methodLink RX2 88 yX4_greatestTurns, Cond.instanceMethod yX4_greatestTurns, Cond.selects RX4 yX4_greatestTurns yX4_greatestTurns, Cond.code yX4_greatestTurns cX4_greatestTurns 3 (some .int), Cond.methodLink RX2 63 yX2_search, Cond.instanceMethod yX2_search, Cond.selects RX2 yX2_search yX2_search, Cond.code yX2_search cX2_search 4 (some .boolean), Cond.constant RX2 67 (1000000), Cond.methodLink RX2 68 yX2_fits, Cond.instanceMethod yX2_fits, Cond.selects RX2 yX2_fits yX2_fits, Cond.code yX2_fits cX2_fits 4 (some .boolean), Cond.methodLink RX2 91 yX4_take]
def wsX6_left_r5 : List Cond := [Cond.instanceMethod yX4_take, Cond.selects RX4 yX4_take yX4_take, Cond.code yX4_take cX4_take 2 none, Cond.methodLink RX2 95 yX4_cut, Cond.instanceMethod yX4_cut, Cond.selects RX4 yX4_cut yX4_cut, Cond.code yX4_cut cX4_cut 5 (some .boolean), Cond.methodLink RX2 99 yX4_isEmpty, Cond.instanceMethod yX4_isEmpty, Cond.selects RX4 yX4_isEmpty yX4_isEmpty, Cond.code yX4_isEmpty cX4_isEmpty 1 (some .boolean)]
def wsX6_left : List Cond := .code yX6_left cX6_left 3 (some .int) :: ((wsX6_left_r1 ++ (wsX6_left_r2 ++ (wsX6_left_r3 ++ (wsX6_left_r4 ++ wsX6_left_r5)))) ++ wsX60 ++ wsX10 ++ wsX20 ++ wsX40)
def wsX6_tellLeftBy_r1 : List Cond := [Cond.fieldLink RX6 59 "PulseTurns" "leftBy" "[I", Cond.fieldLink RX6 44 "PulseTurns" "numberings" "LPulseTurns$Numberings;", Cond.fieldLink RX6 10 "PulseTurns" "now" "LPulseTurns$Hearing;", Cond.constant RX6 170 (1000000), Cond.methodLink RX6 167 yX2_begin, Cond.instanceMethod yX2_begin, Cond.selects RX2 yX2_begin yX2_begin, Cond.initialized RX2, Cond.code yX2_begin cX2_begin 3 none, Cond.fieldLink RX2 9 "PulseTurns$Numberings" "times" "[I", Cond.fieldLink RX2 28 "PulseTurns$Hearing" "times" "[I", Cond.fieldLink RX2 31 "PulseTurns$Hearing" "size" "I", Cond.fieldLink RX2 35 "PulseTurns$Numberings" "size" "I", Cond.fieldLink RX2 36 "PulseTurns$Hearing" "slack" "I", Cond.fieldLink RX2 39 "PulseTurns$Numberings" "room" "I", Cond.fieldLink RX2 42 "PulseTurns$Numberings" "begun" "Z", Cond.fieldLink RX2 46 "PulseTurns$Numberings" "ended" "Z", Cond.fieldLink RX2 15 "PulseTurns$Numberings" "numbers" "[I", Cond.fieldLink RX2 23 "PulseTurns$Numberings" "leaves" "[LPulseTurns$Periods;", Cond.fieldLink RX2 49 "PulseTurns$Hearing" "low" "I", Cond.fieldLink RX2 52 "PulseTurns$Hearing" "high" "I", Cond.methodLink RX2 55 yX4_spread, Cond.instanceMethod yX4_spread, Cond.selects RX4 yX4_spread yX4_spread]
def wsX6_tellLeftBy_r2 : List Cond := [Cond.initialized RX4, Cond.code yX4_spread cX4_spread 3 none, Cond.fieldLink RX4 9 "PulseTurns$Periods" "lowUpper" "I", Cond.fieldLink RX4 15 "PulseTurns$Periods" "lowLower" "I", Cond.fieldLink RX4 18 "PulseTurns$Periods" "highUpper" "I", Cond.fieldLink RX4 21 "PulseTurns$Periods" "highLower" "I", Cond.methodLink RX6 171 yX2_next, Cond.instanceMethod yX2_next, Cond.selects RX2 yX2_next yX2_next, Cond.code yX2_next cX2_next 2 (some .boolean), Cond.methodLink RX2 59 yX2_open, Cond.instanceMethod yX2_open, Cond.selects RX2 yX2_open yX2_open, Cond.code yX2_open cX2_open 4 none, Cond.methodLink RX2 83 Lib.Math.max.name, Cond.static Lib.Math.max.name, Cond.initialized "java/lang/Math", Cond.code Lib.Math.max.name Lib.Math.max.code 2 (some .int), Cond.fieldLink RX2 18 "PulseTurns$Numberings" "greatest" "[I", Cond.methodLink RX2 79 yX4_leastTurns, Cond.instanceMethod yX4_leastTurns, Cond.selects RX4 yX4_leastTurns yX4_leastTurns, Cond.code yX4_leastTurns cX4_leastTurns 3 (some .int), Cond.methodLink RX2 88 yX4_greatestTurns]
def wsX6_tellLeftBy_r3 : List Cond := [Cond.instanceMethod yX4_greatestTurns, Cond.selects RX4 yX4_greatestTurns yX4_greatestTurns, Cond.code yX4_greatestTurns cX4_greatestTurns 3 (some .int), Cond.methodLink RX2 63 yX2_search, Cond.instanceMethod yX2_search, Cond.selects RX2 yX2_search yX2_search, Cond.code yX2_search cX2_search 4 (some .boolean), Cond.constant RX2 67 (1000000), Cond.methodLink RX2 68 yX2_fits, Cond.instanceMethod yX2_fits, Cond.selects RX2 yX2_fits yX2_fits, Cond.code yX2_fits cX2_fits 4 (some .boolean), Cond.methodLink RX2 91 yX4_take, Cond.instanceMethod yX4_take, Cond.selects RX4 yX4_take yX4_take, Cond.code yX4_take cX4_take 2 none, Cond.methodLink RX2 95 yX4_cut, Cond.instanceMethod yX4_cut, Cond.selects RX4 yX4_cut yX4_cut, Cond.code yX4_cut cX4_cut 5 (some .boolean), Cond.methodLink RX2 99 yX4_isEmpty, Cond.instanceMethod yX4_isEmpty, Cond.selects RX4 yX4_isEmpty yX4_isEmpty, Cond.code yX4_isEmpty cX4_isEmpty 1 (some .boolean)]
def wsX6_tellLeftBy_r4 : List Cond := [Cond.methodLink RX6 216 yX2_further, Cond.instanceMethod yX2_further, Cond.selects RX2 yX2_further yX2_further, Cond.code yX2_further cX2_further 4 (some .int)]
def wsX6_tellLeftBy : List Cond := .code yX6_tellLeftBy cX6_tellLeftBy 5 none :: ((wsX6_tellLeftBy_r1 ++ (wsX6_tellLeftBy_r2 ++ (wsX6_tellLeftBy_r3 ++ wsX6_tellLeftBy_r4))) ++ wsX60 ++ wsX20 ++ wsX10 ++ wsX40)
def wsX6_listen_r1 : List Cond := [Cond.fieldLink RX6 10 "PulseTurns" "now" "LPulseTurns$Hearing;", Cond.fieldLink RX6 166 "PulseTurns$Hearing" "size" "I", Cond.fieldLink RX6 85 "PulseTurns$Hearing" "times" "[I", Cond.methodLink RX6 181 Lib.Math.min.name, Cond.static Lib.Math.min.name, Cond.initialized "java/lang/Math", Cond.code Lib.Math.min.name Lib.Math.min.code 2 (some .int), Cond.fieldLink RX6 59 "PulseTurns" "leftBy" "[I", Cond.methodLink RX6 184 yX6_tellLeftBy, Cond.instanceMethod yX6_tellLeftBy, Cond.selects RX6 yX6_tellLeftBy yX6_tellLeftBy, Cond.initialized RX6, Cond.code yX6_tellLeftBy cX6_tellLeftBy 5 none, Cond.fieldLink RX6 44 "PulseTurns" "numberings" "LPulseTurns$Numberings;", Cond.constant RX6 170 (1000000), Cond.methodLink RX6 167 yX2_begin, Cond.instanceMethod yX2_begin, Cond.selects RX2 yX2_begin yX2_begin, Cond.initialized RX2, Cond.code yX2_begin cX2_begin 3 none, Cond.fieldLink RX2 9 "PulseTurns$Numberings" "times" "[I", Cond.fieldLink RX2 28 "PulseTurns$Hearing" "times" "[I", Cond.fieldLink RX2 31 "PulseTurns$Hearing" "size" "I", Cond.fieldLink RX2 35 "PulseTurns$Numberings" "size" "I"]
def wsX6_listen_r2 : List Cond := [Cond.fieldLink RX2 36 "PulseTurns$Hearing" "slack" "I", Cond.fieldLink RX2 39 "PulseTurns$Numberings" "room" "I", Cond.fieldLink RX2 42 "PulseTurns$Numberings" "begun" "Z", Cond.fieldLink RX2 46 "PulseTurns$Numberings" "ended" "Z", Cond.fieldLink RX2 15 "PulseTurns$Numberings" "numbers" "[I", Cond.fieldLink RX2 23 "PulseTurns$Numberings" "leaves" "[LPulseTurns$Periods;", Cond.fieldLink RX2 49 "PulseTurns$Hearing" "low" "I", Cond.fieldLink RX2 52 "PulseTurns$Hearing" "high" "I", Cond.methodLink RX2 55 yX4_spread, Cond.instanceMethod yX4_spread, Cond.selects RX4 yX4_spread yX4_spread, Cond.initialized RX4, Cond.code yX4_spread cX4_spread 3 none, Cond.fieldLink RX4 9 "PulseTurns$Periods" "lowUpper" "I", Cond.fieldLink RX4 15 "PulseTurns$Periods" "lowLower" "I", Cond.fieldLink RX4 18 "PulseTurns$Periods" "highUpper" "I", Cond.fieldLink RX4 21 "PulseTurns$Periods" "highLower" "I", Cond.methodLink RX6 171 yX2_next, Cond.instanceMethod yX2_next, Cond.selects RX2 yX2_next yX2_next, Cond.code yX2_next cX2_next 2 (some .boolean), Cond.methodLink RX2 59 yX2_open, Cond.instanceMethod yX2_open, Cond.selects RX2 yX2_open yX2_open]
def wsX6_listen_r3 : List Cond := [Cond.code yX2_open cX2_open 4 none, Cond.methodLink RX2 83 Lib.Math.max.name, Cond.static Lib.Math.max.name, Cond.code Lib.Math.max.name Lib.Math.max.code 2 (some .int), Cond.fieldLink RX2 18 "PulseTurns$Numberings" "greatest" "[I", Cond.methodLink RX2 79 yX4_leastTurns, Cond.instanceMethod yX4_leastTurns, Cond.selects RX4 yX4_leastTurns yX4_leastTurns, Cond.code yX4_leastTurns cX4_leastTurns 3 (some .int), Cond.methodLink RX2 88 yX4_greatestTurns, Cond.instanceMethod yX4_greatestTurns, Cond.selects RX4 yX4_greatestTurns yX4_greatestTurns, Cond.code yX4_greatestTurns cX4_greatestTurns 3 (some .int), Cond.methodLink RX2 63 yX2_search, Cond.instanceMethod yX2_search, Cond.selects RX2 yX2_search yX2_search, Cond.code yX2_search cX2_search 4 (some .boolean), Cond.constant RX2 67 (1000000), Cond.methodLink RX2 68 yX2_fits, Cond.instanceMethod yX2_fits, Cond.selects RX2 yX2_fits yX2_fits, Cond.code yX2_fits cX2_fits 4 (some .boolean), Cond.methodLink RX2 91 yX4_take, Cond.instanceMethod yX4_take]
def wsX6_listen_r4 : List Cond := [Cond.selects RX4 yX4_take yX4_take, Cond.code yX4_take cX4_take 2 none, Cond.methodLink RX2 95 yX4_cut, Cond.instanceMethod yX4_cut, Cond.selects RX4 yX4_cut yX4_cut, Cond.code yX4_cut cX4_cut 5 (some .boolean), Cond.methodLink RX2 99 yX4_isEmpty, Cond.instanceMethod yX4_isEmpty, Cond.selects RX4 yX4_isEmpty yX4_isEmpty, Cond.code yX4_isEmpty cX4_isEmpty 1 (some .boolean), Cond.methodLink RX6 216 yX2_further, Cond.instanceMethod yX2_further, Cond.selects RX2 yX2_further yX2_further, Cond.code yX2_further cX2_further 4 (some .int)]
def wsX6_listen : List Cond := .code yX6_listen cX6_listen 6 (some .int) :: ((wsX6_listen_r1 ++ (wsX6_listen_r2 ++ (wsX6_listen_r3 ++ wsX6_listen_r4))) ++ wsX60 ++ wsX10 ++ wsX20 ++ wsX40)
def wsJ6_bitCount_0f7a4 : List Cond := .code yJ6_bitCount_0f7a4 cJ6_bitCount_0f7a4 1 (some .int) :: ([.constant RJ6 265 (1431655765), .constant RJ6 266 (858993459), .constant RJ6 267 (252645135)])
def wsX6_power : List Cond := .code yX6_power cX6_power 4 (some .int) :: ([])
def wsX6_leavesOne_r1 : List Cond := [Cond.fieldLink RX6 16 "PulseTurns" "trial" "LPulseTurns$Hearing;", Cond.fieldLink RX6 10 "PulseTurns" "now" "LPulseTurns$Hearing;", Cond.fieldLink RX6 166 "PulseTurns$Hearing" "size" "I", Cond.fieldLink RX6 85 "PulseTurns$Hearing" "times" "[I", Cond.fieldLink RX6 44 "PulseTurns" "numberings" "LPulseTurns$Numberings;", Cond.methodLink RX6 74 yX1_take, Cond.instanceMethod yX1_take, Cond.selects RX1 yX1_take yX1_take, Cond.initialized RX1, Cond.code yX1_take cX1_take 3 none, Cond.fieldLink RX1 9 "PulseTurns$Hearing" "times" "[I", Cond.fieldLink RX1 18 "PulseTurns$Hearing" "size" "I", Cond.fieldLink RX1 22 "PulseTurns$Hearing" "low" "I", Cond.fieldLink RX1 25 "PulseTurns$Hearing" "high" "I", Cond.fieldLink RX1 28 "PulseTurns$Hearing" "slack" "I", Cond.methodLink RX6 94 yX1_place, Cond.instanceMethod yX1_place, Cond.selects RX1 yX1_place yX1_place, Cond.code yX1_place cX1_place 4 (some .int), Cond.methodLink RX6 167 yX2_begin, Cond.instanceMethod yX2_begin, Cond.selects RX2 yX2_begin yX2_begin, Cond.initialized RX2, Cond.code yX2_begin cX2_begin 3 none]
def wsX6_leavesOne_r2 : List Cond := [Cond.fieldLink RX2 9 "PulseTurns$Numberings" "times" "[I", Cond.fieldLink RX2 28 "PulseTurns$Hearing" "times" "[I", Cond.fieldLink RX2 31 "PulseTurns$Hearing" "size" "I", Cond.fieldLink RX2 35 "PulseTurns$Numberings" "size" "I", Cond.fieldLink RX2 36 "PulseTurns$Hearing" "slack" "I", Cond.fieldLink RX2 39 "PulseTurns$Numberings" "room" "I", Cond.fieldLink RX2 42 "PulseTurns$Numberings" "begun" "Z", Cond.fieldLink RX2 46 "PulseTurns$Numberings" "ended" "Z", Cond.fieldLink RX2 15 "PulseTurns$Numberings" "numbers" "[I", Cond.fieldLink RX2 23 "PulseTurns$Numberings" "leaves" "[LPulseTurns$Periods;", Cond.fieldLink RX2 49 "PulseTurns$Hearing" "low" "I", Cond.fieldLink RX2 52 "PulseTurns$Hearing" "high" "I", Cond.methodLink RX2 55 yX4_spread, Cond.instanceMethod yX4_spread, Cond.selects RX4 yX4_spread yX4_spread, Cond.initialized RX4, Cond.code yX4_spread cX4_spread 3 none, Cond.fieldLink RX4 9 "PulseTurns$Periods" "lowUpper" "I", Cond.fieldLink RX4 15 "PulseTurns$Periods" "lowLower" "I", Cond.fieldLink RX4 18 "PulseTurns$Periods" "highUpper" "I", Cond.fieldLink RX4 21 "PulseTurns$Periods" "highLower" "I", Cond.methodLink RX6 213 yX2_tally, Cond.instanceMethod yX2_tally, Cond.selects RX2 yX2_tally yX2_tally]
def wsX6_leavesOne_r3 : List Cond := [Cond.code yX2_tally cX2_tally 3 (some .int), Cond.methodLink RX2 71 yX2_next, Cond.instanceMethod yX2_next, Cond.selects RX2 yX2_next yX2_next, Cond.code yX2_next cX2_next 2 (some .boolean), Cond.methodLink RX2 59 yX2_open, Cond.instanceMethod yX2_open, Cond.selects RX2 yX2_open yX2_open, Cond.code yX2_open cX2_open 4 none, Cond.methodLink RX2 83 Lib.Math.max.name, Cond.static Lib.Math.max.name, Cond.initialized "java/lang/Math", Cond.code Lib.Math.max.name Lib.Math.max.code 2 (some .int), Cond.fieldLink RX2 18 "PulseTurns$Numberings" "greatest" "[I", Cond.methodLink RX2 79 yX4_leastTurns, Cond.instanceMethod yX4_leastTurns, Cond.selects RX4 yX4_leastTurns yX4_leastTurns, Cond.code yX4_leastTurns cX4_leastTurns 3 (some .int), Cond.methodLink RX2 88 yX4_greatestTurns, Cond.instanceMethod yX4_greatestTurns, Cond.selects RX4 yX4_greatestTurns yX4_greatestTurns, Cond.code yX4_greatestTurns cX4_greatestTurns 3 (some .int), Cond.methodLink RX2 63 yX2_search, Cond.instanceMethod yX2_search]
def wsX6_leavesOne_r4 : List Cond := [Cond.selects RX2 yX2_search yX2_search, Cond.code yX2_search cX2_search 4 (some .boolean), Cond.constant RX2 67 (1000000), Cond.methodLink RX2 68 yX2_fits, Cond.instanceMethod yX2_fits, Cond.selects RX2 yX2_fits yX2_fits, Cond.code yX2_fits cX2_fits 4 (some .boolean), Cond.methodLink RX2 91 yX4_take, Cond.instanceMethod yX4_take, Cond.selects RX4 yX4_take yX4_take, Cond.code yX4_take cX4_take 2 none, Cond.methodLink RX2 95 yX4_cut, Cond.instanceMethod yX4_cut, Cond.selects RX4 yX4_cut yX4_cut, Cond.code yX4_cut cX4_cut 5 (some .boolean), Cond.methodLink RX2 99 yX4_isEmpty, Cond.instanceMethod yX4_isEmpty, Cond.selects RX4 yX4_isEmpty yX4_isEmpty, Cond.code yX4_isEmpty cX4_isEmpty 1 (some .boolean)]
def wsX6_leavesOne : List Cond := .code yX6_leavesOne cX6_leavesOne 3 (some .boolean) :: ((wsX6_leavesOne_r1 ++ (wsX6_leavesOne_r2 ++ (wsX6_leavesOne_r3 ++ wsX6_leavesOne_r4))) ++ wsX60 ++ wsX10 ++ wsX20 ++ wsX40)
def wsX6_odds_r1 : List Cond := [Cond.fieldLink RX6 10 "PulseTurns" "now" "LPulseTurns$Hearing;", Cond.fieldLink RX6 166 "PulseTurns$Hearing" "size" "I", Cond.methodLink RX6 187 yJ6_bitCount_0f7a4, Cond.static yJ6_bitCount_0f7a4, Cond.initialized RJ6, Cond.code yJ6_bitCount_0f7a4 cJ6_bitCount_0f7a4 1 (some .int), Cond.constant RJ6 265 (1431655765), Cond.constant RJ6 266 (858993459), Cond.constant RJ6 267 (252645135), Cond.methodLink RX6 192 yX6_power, Cond.static yX6_power, Cond.initialized RX6, Cond.code yX6_power cX6_power 4 (some .int), Cond.methodLink RX6 195 yX6_leavesOne, Cond.instanceMethod yX6_leavesOne, Cond.selects RX6 yX6_leavesOne yX6_leavesOne, Cond.code yX6_leavesOne cX6_leavesOne 3 (some .boolean), Cond.fieldLink RX6 16 "PulseTurns" "trial" "LPulseTurns$Hearing;", Cond.fieldLink RX6 85 "PulseTurns$Hearing" "times" "[I", Cond.fieldLink RX6 44 "PulseTurns" "numberings" "LPulseTurns$Numberings;", Cond.methodLink RX6 74 yX1_take, Cond.instanceMethod yX1_take, Cond.selects RX1 yX1_take yX1_take, Cond.initialized RX1]
def wsX6_odds_r2 : List Cond := [Cond.code yX1_take cX1_take 3 none, Cond.fieldLink RX1 9 "PulseTurns$Hearing" "times" "[I", Cond.fieldLink RX1 18 "PulseTurns$Hearing" "size" "I", Cond.fieldLink RX1 22 "PulseTurns$Hearing" "low" "I", Cond.fieldLink RX1 25 "PulseTurns$Hearing" "high" "I", Cond.fieldLink RX1 28 "PulseTurns$Hearing" "slack" "I", Cond.methodLink RX6 94 yX1_place, Cond.instanceMethod yX1_place, Cond.selects RX1 yX1_place yX1_place, Cond.code yX1_place cX1_place 4 (some .int), Cond.methodLink RX6 167 yX2_begin, Cond.instanceMethod yX2_begin, Cond.selects RX2 yX2_begin yX2_begin, Cond.initialized RX2, Cond.code yX2_begin cX2_begin 3 none, Cond.fieldLink RX2 9 "PulseTurns$Numberings" "times" "[I", Cond.fieldLink RX2 28 "PulseTurns$Hearing" "times" "[I", Cond.fieldLink RX2 31 "PulseTurns$Hearing" "size" "I", Cond.fieldLink RX2 35 "PulseTurns$Numberings" "size" "I", Cond.fieldLink RX2 36 "PulseTurns$Hearing" "slack" "I", Cond.fieldLink RX2 39 "PulseTurns$Numberings" "room" "I", Cond.fieldLink RX2 42 "PulseTurns$Numberings" "begun" "Z", Cond.fieldLink RX2 46 "PulseTurns$Numberings" "ended" "Z", Cond.fieldLink RX2 15 "PulseTurns$Numberings" "numbers" "[I"]
def wsX6_odds_r3 : List Cond := [Cond.fieldLink RX2 23 "PulseTurns$Numberings" "leaves" "[LPulseTurns$Periods;", Cond.fieldLink RX2 49 "PulseTurns$Hearing" "low" "I", Cond.fieldLink RX2 52 "PulseTurns$Hearing" "high" "I", Cond.methodLink RX2 55 yX4_spread, Cond.instanceMethod yX4_spread, Cond.selects RX4 yX4_spread yX4_spread, Cond.initialized RX4, Cond.code yX4_spread cX4_spread 3 none, Cond.fieldLink RX4 9 "PulseTurns$Periods" "lowUpper" "I", Cond.fieldLink RX4 15 "PulseTurns$Periods" "lowLower" "I", Cond.fieldLink RX4 18 "PulseTurns$Periods" "highUpper" "I", Cond.fieldLink RX4 21 "PulseTurns$Periods" "highLower" "I", Cond.methodLink RX6 213 yX2_tally, Cond.instanceMethod yX2_tally, Cond.selects RX2 yX2_tally yX2_tally, Cond.code yX2_tally cX2_tally 3 (some .int), Cond.methodLink RX2 71 yX2_next, Cond.instanceMethod yX2_next, Cond.selects RX2 yX2_next yX2_next, Cond.code yX2_next cX2_next 2 (some .boolean), Cond.methodLink RX2 59 yX2_open, Cond.instanceMethod yX2_open, Cond.selects RX2 yX2_open yX2_open, Cond.code yX2_open cX2_open 4 none]
def wsX6_odds_r4 : List Cond := [Cond.methodLink RX2 83 Lib.Math.max.name, Cond.static Lib.Math.max.name, Cond.initialized "java/lang/Math", Cond.code Lib.Math.max.name Lib.Math.max.code 2 (some .int), Cond.fieldLink RX2 18 "PulseTurns$Numberings" "greatest" "[I", Cond.methodLink RX2 79 yX4_leastTurns, Cond.instanceMethod yX4_leastTurns, Cond.selects RX4 yX4_leastTurns yX4_leastTurns, Cond.code yX4_leastTurns cX4_leastTurns 3 (some .int), Cond.methodLink RX2 88 yX4_greatestTurns, Cond.instanceMethod yX4_greatestTurns, Cond.selects RX4 yX4_greatestTurns yX4_greatestTurns, Cond.code yX4_greatestTurns cX4_greatestTurns 3 (some .int), Cond.methodLink RX2 63 yX2_search, Cond.instanceMethod yX2_search, Cond.selects RX2 yX2_search yX2_search, Cond.code yX2_search cX2_search 4 (some .boolean), Cond.constant RX2 67 (1000000), Cond.methodLink RX2 68 yX2_fits, Cond.instanceMethod yX2_fits, Cond.selects RX2 yX2_fits yX2_fits, Cond.code yX2_fits cX2_fits 4 (some .boolean), Cond.methodLink RX2 91 yX4_take, Cond.instanceMethod yX4_take]
def wsX6_odds_r5 : List Cond := [Cond.selects RX4 yX4_take yX4_take, Cond.code yX4_take cX4_take 2 none, Cond.methodLink RX2 95 yX4_cut, Cond.instanceMethod yX4_cut, Cond.selects RX4 yX4_cut yX4_cut, Cond.code yX4_cut cX4_cut 5 (some .boolean), Cond.methodLink RX2 99 yX4_isEmpty, Cond.instanceMethod yX4_isEmpty, Cond.selects RX4 yX4_isEmpty yX4_isEmpty, Cond.code yX4_isEmpty cX4_isEmpty 1 (some .boolean), Cond.methodLink RX6 176 yX0_part, Cond.static yX0_part, Cond.initialized RX0, Cond.code yX0_part cX0_part 4 (some .int), Cond.methodLink RX0 9 Lib.Math.abs.name, Cond.static Lib.Math.abs.name, Cond.code Lib.Math.abs.name Lib.Math.abs.code 1 (some .int), Cond.methodLink RX0 15 yX0_commonDivisor, Cond.static yX0_commonDivisor, Cond.code yX0_commonDivisor cX0_commonDivisor 6 (some .int), Cond.constant RX0 21 (1000000)]
def wsX6_odds : List Cond := .code yX6_odds cX6_odds 7 (some .int) :: ((wsX6_odds_r1 ++ (wsX6_odds_r2 ++ (wsX6_odds_r3 ++ (wsX6_odds_r4 ++ wsX6_odds_r5)))) ++ wsX60 ++ wsX10 ++ wsX20 ++ wsX40)
def wsX6_isImage : List Cond := .code yX6_isImage cX6_isImage 1 (some .boolean) :: ([])
def wsX6_keep : List Cond := .code yX6_keep cX6_keep 2 (some .int) :: ([.fieldLink RX6 26 "PulseTurns" "images" "[LPulseTurns$Hearing;", .fieldLink RX6 10 "PulseTurns" "now" "LPulseTurns$Hearing;", .fieldLink RX6 30 "PulseTurns" "kept" "[Z", .fieldLink RX6 166 "PulseTurns$Hearing" "size" "I", .methodLink RX6 198 yX6_isImage, .static yX6_isImage, .initialized RX6, .code yX6_isImage cX6_isImage 1 (some .boolean), .methodLink RX6 74 yX1_take, .instanceMethod yX1_take, .selects RX1 yX1_take yX1_take, .initialized RX1, .code yX1_take cX1_take 3 none, .fieldLink RX1 9 "PulseTurns$Hearing" "times" "[I", .fieldLink RX1 18 "PulseTurns$Hearing" "size" "I", .fieldLink RX1 22 "PulseTurns$Hearing" "low" "I", .fieldLink RX1 25 "PulseTurns$Hearing" "high" "I", .fieldLink RX1 28 "PulseTurns$Hearing" "slack" "I"] ++ wsX60 ++ wsX10)
def wsX6_back_r1 : List Cond := [Cond.fieldLink RX6 30 "PulseTurns" "kept" "[Z", Cond.fieldLink RX6 10 "PulseTurns" "now" "LPulseTurns$Hearing;", Cond.fieldLink RX6 26 "PulseTurns" "images" "[LPulseTurns$Hearing;", Cond.fieldLink RX6 22 "PulseTurns" "past" "LPulseTurns$Past;", Cond.fieldLink RX6 166 "PulseTurns$Hearing" "size" "I", Cond.methodLink RX6 198 yX6_isImage, Cond.static yX6_isImage, Cond.initialized RX6, Cond.code yX6_isImage cX6_isImage 1 (some .boolean), Cond.methodLink RX6 74 yX1_take, Cond.instanceMethod yX1_take, Cond.selects RX1 yX1_take yX1_take, Cond.initialized RX1, Cond.code yX1_take cX1_take 3 none, Cond.fieldLink RX1 9 "PulseTurns$Hearing" "times" "[I", Cond.fieldLink RX1 18 "PulseTurns$Hearing" "size" "I", Cond.fieldLink RX1 22 "PulseTurns$Hearing" "low" "I", Cond.fieldLink RX1 25 "PulseTurns$Hearing" "high" "I", Cond.fieldLink RX1 28 "PulseTurns$Hearing" "slack" "I", Cond.methodLink RX6 78 yX3_forget, Cond.instanceMethod yX3_forget, Cond.selects RX3 yX3_forget yX3_forget, Cond.initialized RX3, Cond.code yX3_forget cX3_forget 1 none]
def wsX6_back_r2 : List Cond := [Cond.fieldLink RX3 26 "PulseTurns$Past" "size" "I"]
def wsX6_back : List Cond := .code yX6_back cX6_back 2 (some .int) :: ((wsX6_back_r1 ++ wsX6_back_r2) ++ wsX60 ++ wsX10 ++ wsX30)
def wsX6_certain_r1 : List Cond := [Cond.fieldLink RX6 44 "PulseTurns" "numberings" "LPulseTurns$Numberings;", Cond.fieldLink RX6 10 "PulseTurns" "now" "LPulseTurns$Hearing;", Cond.fieldLink RX6 166 "PulseTurns$Hearing" "size" "I", Cond.fieldLink RX6 55 "PulseTurns" "firstNumbers" "[I", Cond.fieldLink RX6 160 "PulseTurns$Numberings" "numbers" "[I", Cond.constant RX6 170 (1000000), Cond.methodLink RX6 167 yX2_begin, Cond.instanceMethod yX2_begin, Cond.selects RX2 yX2_begin yX2_begin, Cond.initialized RX2, Cond.code yX2_begin cX2_begin 3 none, Cond.fieldLink RX2 9 "PulseTurns$Numberings" "times" "[I", Cond.fieldLink RX2 28 "PulseTurns$Hearing" "times" "[I", Cond.fieldLink RX2 31 "PulseTurns$Hearing" "size" "I", Cond.fieldLink RX2 35 "PulseTurns$Numberings" "size" "I", Cond.fieldLink RX2 36 "PulseTurns$Hearing" "slack" "I", Cond.fieldLink RX2 39 "PulseTurns$Numberings" "room" "I", Cond.fieldLink RX2 42 "PulseTurns$Numberings" "begun" "Z", Cond.fieldLink RX2 46 "PulseTurns$Numberings" "ended" "Z", Cond.fieldLink RX2 15 "PulseTurns$Numberings" "numbers" "[I", Cond.fieldLink RX2 23 "PulseTurns$Numberings" "leaves" "[LPulseTurns$Periods;", Cond.fieldLink RX2 49 "PulseTurns$Hearing" "low" "I", Cond.fieldLink RX2 52 "PulseTurns$Hearing" "high" "I", Cond.methodLink RX2 55 yX4_spread]
def wsX6_certain_r2 : List Cond := [Cond.instanceMethod yX4_spread, Cond.selects RX4 yX4_spread yX4_spread, Cond.initialized RX4, Cond.code yX4_spread cX4_spread 3 none, Cond.fieldLink RX4 9 "PulseTurns$Periods" "lowUpper" "I", Cond.fieldLink RX4 15 "PulseTurns$Periods" "lowLower" "I", Cond.fieldLink RX4 18 "PulseTurns$Periods" "highUpper" "I", Cond.fieldLink RX4 21 "PulseTurns$Periods" "highLower" "I", Cond.methodLink RX6 171 yX2_next, Cond.instanceMethod yX2_next, Cond.selects RX2 yX2_next yX2_next, Cond.code yX2_next cX2_next 2 (some .boolean), Cond.methodLink RX2 59 yX2_open, Cond.instanceMethod yX2_open, Cond.selects RX2 yX2_open yX2_open, Cond.code yX2_open cX2_open 4 none, Cond.methodLink RX2 83 Lib.Math.max.name, Cond.static Lib.Math.max.name, Cond.initialized "java/lang/Math", Cond.code Lib.Math.max.name Lib.Math.max.code 2 (some .int), Cond.fieldLink RX2 18 "PulseTurns$Numberings" "greatest" "[I", Cond.methodLink RX2 79 yX4_leastTurns, Cond.instanceMethod yX4_leastTurns, Cond.selects RX4 yX4_leastTurns yX4_leastTurns]
def wsX6_certain_r3 : List Cond := [Cond.code yX4_leastTurns cX4_leastTurns 3 (some .int), Cond.methodLink RX2 88 yX4_greatestTurns, Cond.instanceMethod yX4_greatestTurns, Cond.selects RX4 yX4_greatestTurns yX4_greatestTurns, Cond.code yX4_greatestTurns cX4_greatestTurns 3 (some .int), Cond.methodLink RX2 63 yX2_search, Cond.instanceMethod yX2_search, Cond.selects RX2 yX2_search yX2_search, Cond.code yX2_search cX2_search 4 (some .boolean), Cond.constant RX2 67 (1000000), Cond.methodLink RX2 68 yX2_fits, Cond.instanceMethod yX2_fits, Cond.selects RX2 yX2_fits yX2_fits, Cond.code yX2_fits cX2_fits 4 (some .boolean), Cond.methodLink RX2 91 yX4_take, Cond.instanceMethod yX4_take, Cond.selects RX4 yX4_take yX4_take, Cond.code yX4_take cX4_take 2 none, Cond.methodLink RX2 95 yX4_cut, Cond.instanceMethod yX4_cut, Cond.selects RX4 yX4_cut yX4_cut, Cond.code yX4_cut cX4_cut 5 (some .boolean), Cond.methodLink RX2 99 yX4_isEmpty, Cond.instanceMethod yX4_isEmpty]
def wsX6_certain_r4 : List Cond := [Cond.selects RX4 yX4_isEmpty yX4_isEmpty, Cond.code yX4_isEmpty cX4_isEmpty 1 (some .boolean)]
def wsX6_certain : List Cond := .code yX6_certain cX6_certain 4 (some .int) :: ((wsX6_certain_r1 ++ (wsX6_certain_r2 ++ (wsX6_certain_r3 ++ wsX6_certain_r4))) ++ wsX60 ++ wsX10 ++ wsX20 ++ wsX40)
def wsX6_count_r1 : List Cond := [Cond.fieldLink RX6 10 "PulseTurns" "now" "LPulseTurns$Hearing;", Cond.fieldLink RX6 166 "PulseTurns$Hearing" "size" "I", Cond.fieldLink RX6 110 "PulseTurns$Hearing" "low" "I", Cond.fieldLink RX6 114 "PulseTurns$Hearing" "high" "I", Cond.fieldLink RX6 117 "PulseTurns$Hearing" "slack" "I", Cond.fieldLink RX6 37 "PulseTurns" "text" "LPulseTurns$Reader;", Cond.fieldLink RX6 204 "PulseTurns$Reader" "length" "I", Cond.fieldLink RX6 22 "PulseTurns" "past" "LPulseTurns$Past;", Cond.fieldLink RX6 127 "PulseTurns$Past" "size" "I", Cond.methodLink RX6 120 yX6_standing, Cond.instanceMethod yX6_standing, Cond.selects RX6 yX6_standing yX6_standing, Cond.initialized RX6, Cond.code yX6_standing cX6_standing 2 (some .int), Cond.fieldLink RX6 44 "PulseTurns" "numberings" "LPulseTurns$Numberings;", Cond.constant RX6 170 (1000000), Cond.methodLink RX6 167 yX2_begin, Cond.instanceMethod yX2_begin, Cond.selects RX2 yX2_begin yX2_begin, Cond.initialized RX2, Cond.code yX2_begin cX2_begin 3 none, Cond.fieldLink RX2 9 "PulseTurns$Numberings" "times" "[I", Cond.fieldLink RX2 28 "PulseTurns$Hearing" "times" "[I", Cond.fieldLink RX2 31 "PulseTurns$Hearing" "size" "I"]
def wsX6_count_r2 : List Cond := [Cond.fieldLink RX2 35 "PulseTurns$Numberings" "size" "I", Cond.fieldLink RX2 36 "PulseTurns$Hearing" "slack" "I", Cond.fieldLink RX2 39 "PulseTurns$Numberings" "room" "I", Cond.fieldLink RX2 42 "PulseTurns$Numberings" "begun" "Z", Cond.fieldLink RX2 46 "PulseTurns$Numberings" "ended" "Z", Cond.fieldLink RX2 15 "PulseTurns$Numberings" "numbers" "[I", Cond.fieldLink RX2 23 "PulseTurns$Numberings" "leaves" "[LPulseTurns$Periods;", Cond.fieldLink RX2 49 "PulseTurns$Hearing" "low" "I", Cond.fieldLink RX2 52 "PulseTurns$Hearing" "high" "I", Cond.methodLink RX2 55 yX4_spread, Cond.instanceMethod yX4_spread, Cond.selects RX4 yX4_spread yX4_spread, Cond.initialized RX4, Cond.code yX4_spread cX4_spread 3 none, Cond.fieldLink RX4 9 "PulseTurns$Periods" "lowUpper" "I", Cond.fieldLink RX4 15 "PulseTurns$Periods" "lowLower" "I", Cond.fieldLink RX4 18 "PulseTurns$Periods" "highUpper" "I", Cond.fieldLink RX4 21 "PulseTurns$Periods" "highLower" "I", Cond.methodLink RX6 213 yX2_tally, Cond.instanceMethod yX2_tally, Cond.selects RX2 yX2_tally yX2_tally, Cond.code yX2_tally cX2_tally 3 (some .int), Cond.methodLink RX2 71 yX2_next, Cond.instanceMethod yX2_next]
def wsX6_count_r3 : List Cond := [Cond.selects RX2 yX2_next yX2_next, Cond.code yX2_next cX2_next 2 (some .boolean), Cond.methodLink RX2 59 yX2_open, Cond.instanceMethod yX2_open, Cond.selects RX2 yX2_open yX2_open, Cond.code yX2_open cX2_open 4 none, Cond.methodLink RX2 83 Lib.Math.max.name, Cond.static Lib.Math.max.name, Cond.initialized "java/lang/Math", Cond.code Lib.Math.max.name Lib.Math.max.code 2 (some .int), Cond.fieldLink RX2 18 "PulseTurns$Numberings" "greatest" "[I", Cond.methodLink RX2 79 yX4_leastTurns, Cond.instanceMethod yX4_leastTurns, Cond.selects RX4 yX4_leastTurns yX4_leastTurns, Cond.code yX4_leastTurns cX4_leastTurns 3 (some .int), Cond.methodLink RX2 88 yX4_greatestTurns, Cond.instanceMethod yX4_greatestTurns, Cond.selects RX4 yX4_greatestTurns yX4_greatestTurns, Cond.code yX4_greatestTurns cX4_greatestTurns 3 (some .int), Cond.methodLink RX2 63 yX2_search, Cond.instanceMethod yX2_search, Cond.selects RX2 yX2_search yX2_search, Cond.code yX2_search cX2_search 4 (some .boolean), Cond.constant RX2 67 (1000000)]
def wsX6_count_r4 : List Cond := [Cond.methodLink RX2 68 yX2_fits, Cond.instanceMethod yX2_fits, Cond.selects RX2 yX2_fits yX2_fits, Cond.code yX2_fits cX2_fits 4 (some .boolean), Cond.methodLink RX2 91 yX4_take, Cond.instanceMethod yX4_take, Cond.selects RX4 yX4_take yX4_take, Cond.code yX4_take cX4_take 2 none, Cond.methodLink RX2 95 yX4_cut, Cond.instanceMethod yX4_cut, Cond.selects RX4 yX4_cut yX4_cut, Cond.code yX4_cut cX4_cut 5 (some .boolean), Cond.methodLink RX2 99 yX4_isEmpty, Cond.instanceMethod yX4_isEmpty, Cond.selects RX4 yX4_isEmpty yX4_isEmpty, Cond.code yX4_isEmpty cX4_isEmpty 1 (some .boolean), Cond.methodLink RX6 201 yX6_certain, Cond.instanceMethod yX6_certain, Cond.selects RX6 yX6_certain yX6_certain, Cond.code yX6_certain cX6_certain 4 (some .int), Cond.fieldLink RX6 55 "PulseTurns" "firstNumbers" "[I", Cond.fieldLink RX6 160 "PulseTurns$Numberings" "numbers" "[I", Cond.methodLink RX6 171 yX2_next]
def wsX6_count : List Cond := .code yX6_count cX6_count 2 (some .int) :: ((wsX6_count_r1 ++ (wsX6_count_r2 ++ (wsX6_count_r3 ++ wsX6_count_r4))) ++ wsX60 ++ wsX10 ++ wsX50 ++ wsX30 ++ wsX20 ++ wsX40)
def wsX7_in : List Cond := .code yX7_in cX7_in 6 (some .boolean) :: ([])
def wsX7_type : List Cond := .code yX7_type cX7_type 2 (some .int) :: ([.fieldLink RX7 1 "PulseTurnsModel" "thrown" "I", .constantLong RX7 7 (255), .fieldLink RX7 13 "PulseTurnsModel" "many" "I", .fieldLink RX7 16 "PulseTurnsModel" "text" "[I", .methodLink RX7 9 yX7_in, .static yX7_in, .initialized RX7, .code yX7_in cX7_in 6 (some .boolean)] ++ wsX70)
def wsX7_clear : List Cond := .code yX7_clear cX7_clear 2 (some .int) :: ([.fieldLink RX7 1 "PulseTurnsModel" "thrown" "I", .fieldLink RX7 13 "PulseTurnsModel" "many" "I"] ++ wsX70)
def wsX7_letterAt : List Cond := .code yX7_letterAt cX7_letterAt 2 (some .int) :: ([.fieldLink RX7 13 "PulseTurnsModel" "many" "I", .fieldLink RX7 16 "PulseTurnsModel" "text" "[I"] ++ wsX70)
def wsX7_next : List Cond := .code yX7_next cX7_next 2 none :: ([.fieldLink RX7 20 "PulseTurnsModel" "cursor" "I", .fieldLink RX7 27 "PulseTurnsModel" "start" "I", .constantLong RX7 30 (48), .constantLong RX7 32 (57), .fieldLink RX7 34 "PulseTurnsModel" "token" "I", .fieldLink RX7 37 "PulseTurnsModel" "value" "I", .methodLink RX7 23 yX7_letterAt, .instanceMethod yX7_letterAt, .selects RX7 yX7_letterAt yX7_letterAt, .initialized RX7, .code yX7_letterAt cX7_letterAt 2 (some .int), .fieldLink RX7 13 "PulseTurnsModel" "many" "I", .fieldLink RX7 16 "PulseTurnsModel" "text" "[I", .methodLink RX7 9 yX7_in, .static yX7_in, .code yX7_in cX7_in 6 (some .boolean)] ++ wsX70)
def wsX7_isNumber : List Cond := .code yX7_isNumber cX7_isNumber 3 (some .boolean) :: ([.fieldLink RX7 34 "PulseTurnsModel" "token" "I", .fieldLink RX7 37 "PulseTurnsModel" "value" "I", .methodLink RX7 9 yX7_in, .static yX7_in, .initialized RX7, .code yX7_in cX7_in 6 (some .boolean)] ++ wsX70)
def wsX7_init : List Cond := .code yX7_init cX7_init 1 none :: ([.methodLink RX7 40 objectInit, .instanceMethod objectInit, .code objectInit ⟨#[0xb1]⟩ 1 none, .arrayClass .int, .fieldLink RX7 16 "PulseTurnsModel" "text" "[I", .fieldLink RX7 46 "PulseTurnsModel" "now" "[I", .fieldLink RX7 49 "PulseTurnsModel" "fresh" "[I", .fieldLink RX7 52 "PulseTurnsModel" "was" "[I", .arrayClass .boolean, .fieldLink RX7 55 "PulseTurnsModel" "isKept" "[Z", .fieldLink RX7 59 "PulseTurnsModel" "kept" "[I", .fieldLink RX7 62 "PulseTurnsModel" "heard" "[I", .fieldLink RX7 65 "PulseTurnsModel" "number" "[I", .fieldLink RX7 68 "PulseTurnsModel" "lowUp" "[I", .fieldLink RX7 71 "PulseTurnsModel" "lowDown" "[I", .fieldLink RX7 74 "PulseTurnsModel" "highUp" "[I", .fieldLink RX7 77 "PulseTurnsModel" "highDown" "[I", .fieldLink RX7 80 "PulseTurnsModel" "seen" "[Z", .fieldLink RX7 83 "PulseTurnsModel" "first" "[I"] ++ wsX70)
def wsX7_placeOf : List Cond := .code yX7_placeOf cX7_placeOf 3 (some .int) :: ([])
def wsX7_put : List Cond := .code yX7_put cX7_put 4 none :: ([.methodLink RX7 86 yX7_placeOf, .static yX7_placeOf, .initialized RX7, .code yX7_placeOf cX7_placeOf 3 (some .int)])
def wsX7_drop : List Cond := .code yX7_drop cX7_drop 3 none :: ([])
def wsX7_readBox_r1 : List Cond := [Cond.fieldLink RX7 49 "PulseTurnsModel" "fresh" "[I", Cond.fieldLink RX7 37 "PulseTurnsModel" "value" "I", Cond.methodLink RX7 90 yX7_next, Cond.instanceMethod yX7_next, Cond.selects RX7 yX7_next yX7_next, Cond.initialized RX7, Cond.code yX7_next cX7_next 2 none, Cond.fieldLink RX7 20 "PulseTurnsModel" "cursor" "I", Cond.fieldLink RX7 27 "PulseTurnsModel" "start" "I", Cond.constantLong RX7 30 (48), Cond.constantLong RX7 32 (57), Cond.fieldLink RX7 34 "PulseTurnsModel" "token" "I", Cond.methodLink RX7 23 yX7_letterAt, Cond.instanceMethod yX7_letterAt, Cond.selects RX7 yX7_letterAt yX7_letterAt, Cond.code yX7_letterAt cX7_letterAt 2 (some .int), Cond.fieldLink RX7 13 "PulseTurnsModel" "many" "I", Cond.fieldLink RX7 16 "PulseTurnsModel" "text" "[I", Cond.methodLink RX7 9 yX7_in, Cond.static yX7_in, Cond.code yX7_in cX7_in 6 (some .boolean), Cond.methodLink RX7 93 yX7_isNumber, Cond.instanceMethod yX7_isNumber, Cond.selects RX7 yX7_isNumber yX7_isNumber]
def wsX7_readBox_r2 : List Cond := [Cond.code yX7_isNumber cX7_isNumber 3 (some .boolean)]
def wsX7_readBox : List Cond := .code yX7_readBox cX7_readBox 1 (some .boolean) :: ((wsX7_readBox_r1 ++ wsX7_readBox_r2) ++ wsX70)
def wsX7_readTime_r1 : List Cond := [Cond.fieldLink RX7 49 "PulseTurnsModel" "fresh" "[I", Cond.fieldLink RX7 37 "PulseTurnsModel" "value" "I", Cond.methodLink RX7 90 yX7_next, Cond.instanceMethod yX7_next, Cond.selects RX7 yX7_next yX7_next, Cond.initialized RX7, Cond.code yX7_next cX7_next 2 none, Cond.fieldLink RX7 20 "PulseTurnsModel" "cursor" "I", Cond.fieldLink RX7 27 "PulseTurnsModel" "start" "I", Cond.constantLong RX7 30 (48), Cond.constantLong RX7 32 (57), Cond.fieldLink RX7 34 "PulseTurnsModel" "token" "I", Cond.methodLink RX7 23 yX7_letterAt, Cond.instanceMethod yX7_letterAt, Cond.selects RX7 yX7_letterAt yX7_letterAt, Cond.code yX7_letterAt cX7_letterAt 2 (some .int), Cond.fieldLink RX7 13 "PulseTurnsModel" "many" "I", Cond.fieldLink RX7 16 "PulseTurnsModel" "text" "[I", Cond.methodLink RX7 9 yX7_in, Cond.static yX7_in, Cond.code yX7_in cX7_in 6 (some .boolean), Cond.methodLink RX7 93 yX7_isNumber, Cond.instanceMethod yX7_isNumber, Cond.selects RX7 yX7_isNumber yX7_isNumber]
def wsX7_readTime_r2 : List Cond := [Cond.code yX7_isNumber cX7_isNumber 3 (some .boolean), Cond.methodLink RX7 86 yX7_placeOf, Cond.static yX7_placeOf, Cond.code yX7_placeOf cX7_placeOf 3 (some .int), Cond.methodLink RX7 97 yX7_put, Cond.static yX7_put, Cond.code yX7_put cX7_put 4 none]
def wsX7_readTime : List Cond := .code yX7_readTime cX7_readTime 1 (some .boolean) :: ((wsX7_readTime_r1 ++ wsX7_readTime_r2) ++ wsX70)
def wsX7_readOne_r1 : List Cond := [Cond.fieldLink RX7 34 "PulseTurnsModel" "token" "I", Cond.methodLink RX7 101 yX7_readBox, Cond.instanceMethod yX7_readBox, Cond.selects RX7 yX7_readBox yX7_readBox, Cond.initialized RX7, Cond.code yX7_readBox cX7_readBox 1 (some .boolean), Cond.fieldLink RX7 49 "PulseTurnsModel" "fresh" "[I", Cond.fieldLink RX7 37 "PulseTurnsModel" "value" "I", Cond.methodLink RX7 90 yX7_next, Cond.instanceMethod yX7_next, Cond.selects RX7 yX7_next yX7_next, Cond.code yX7_next cX7_next 2 none, Cond.fieldLink RX7 20 "PulseTurnsModel" "cursor" "I", Cond.fieldLink RX7 27 "PulseTurnsModel" "start" "I", Cond.constantLong RX7 30 (48), Cond.constantLong RX7 32 (57), Cond.methodLink RX7 23 yX7_letterAt, Cond.instanceMethod yX7_letterAt, Cond.selects RX7 yX7_letterAt yX7_letterAt, Cond.code yX7_letterAt cX7_letterAt 2 (some .int), Cond.fieldLink RX7 13 "PulseTurnsModel" "many" "I", Cond.fieldLink RX7 16 "PulseTurnsModel" "text" "[I", Cond.methodLink RX7 9 yX7_in, Cond.static yX7_in]
def wsX7_readOne_r2 : List Cond := [Cond.code yX7_in cX7_in 6 (some .boolean), Cond.methodLink RX7 93 yX7_isNumber, Cond.instanceMethod yX7_isNumber, Cond.selects RX7 yX7_isNumber yX7_isNumber, Cond.code yX7_isNumber cX7_isNumber 3 (some .boolean), Cond.methodLink RX7 105 yX7_readTime, Cond.instanceMethod yX7_readTime, Cond.selects RX7 yX7_readTime yX7_readTime, Cond.code yX7_readTime cX7_readTime 1 (some .boolean), Cond.methodLink RX7 86 yX7_placeOf, Cond.static yX7_placeOf, Cond.code yX7_placeOf cX7_placeOf 3 (some .int), Cond.methodLink RX7 97 yX7_put, Cond.static yX7_put, Cond.code yX7_put cX7_put 4 none]
def wsX7_readOne : List Cond := .code yX7_readOne cX7_readOne 3 (some .boolean) :: ((wsX7_readOne_r1 ++ wsX7_readOne_r2) ++ wsX70)
def wsX7_copyAll : List Cond := .code yX7_copyAll cX7_copyAll 3 none :: ([])
def wsX7_heard_r1 : List Cond := [Cond.fieldLink RX7 1 "PulseTurnsModel" "thrown" "I", Cond.fieldLink RX7 20 "PulseTurnsModel" "cursor" "I", Cond.fieldLink RX7 49 "PulseTurnsModel" "fresh" "[I", Cond.fieldLink RX7 34 "PulseTurnsModel" "token" "I", Cond.fieldLink RX7 27 "PulseTurnsModel" "start" "I", Cond.fieldLink RX7 13 "PulseTurnsModel" "many" "I", Cond.fieldLink RX7 46 "PulseTurnsModel" "now" "[I", Cond.fieldLink RX7 116 "PulseTurnsModel" "acts" "I", Cond.fieldLink RX7 55 "PulseTurnsModel" "isKept" "[Z", Cond.methodLink RX7 90 yX7_next, Cond.instanceMethod yX7_next, Cond.selects RX7 yX7_next yX7_next, Cond.initialized RX7, Cond.code yX7_next cX7_next 2 none, Cond.constantLong RX7 30 (48), Cond.constantLong RX7 32 (57), Cond.fieldLink RX7 37 "PulseTurnsModel" "value" "I", Cond.methodLink RX7 23 yX7_letterAt, Cond.instanceMethod yX7_letterAt, Cond.selects RX7 yX7_letterAt yX7_letterAt, Cond.code yX7_letterAt cX7_letterAt 2 (some .int), Cond.fieldLink RX7 16 "PulseTurnsModel" "text" "[I", Cond.methodLink RX7 9 yX7_in, Cond.static yX7_in]
def wsX7_heard_r2 : List Cond := [Cond.code yX7_in cX7_in 6 (some .boolean), Cond.methodLink RX7 108 yX7_readOne, Cond.instanceMethod yX7_readOne, Cond.selects RX7 yX7_readOne yX7_readOne, Cond.code yX7_readOne cX7_readOne 3 (some .boolean), Cond.methodLink RX7 101 yX7_readBox, Cond.instanceMethod yX7_readBox, Cond.selects RX7 yX7_readBox yX7_readBox, Cond.code yX7_readBox cX7_readBox 1 (some .boolean), Cond.methodLink RX7 93 yX7_isNumber, Cond.instanceMethod yX7_isNumber, Cond.selects RX7 yX7_isNumber yX7_isNumber, Cond.code yX7_isNumber cX7_isNumber 3 (some .boolean), Cond.methodLink RX7 105 yX7_readTime, Cond.instanceMethod yX7_readTime, Cond.selects RX7 yX7_readTime yX7_readTime, Cond.code yX7_readTime cX7_readTime 1 (some .boolean), Cond.methodLink RX7 86 yX7_placeOf, Cond.static yX7_placeOf, Cond.code yX7_placeOf cX7_placeOf 3 (some .int), Cond.methodLink RX7 97 yX7_put, Cond.static yX7_put, Cond.code yX7_put cX7_put 4 none, Cond.methodLink RX7 112 yX7_copyAll]
def wsX7_heard_r3 : List Cond := [Cond.static yX7_copyAll, Cond.code yX7_copyAll cX7_copyAll 3 none]
def wsX7_heard : List Cond := .code yX7_heard cX7_heard 4 (some .int) :: ((wsX7_heard_r1 ++ (wsX7_heard_r2 ++ wsX7_heard_r3)) ++ wsX70)
def wsX7_isArrival : List Cond := .code yX7_isArrival cX7_isArrival 2 (some .boolean) :: ([.fieldLink RX7 46 "PulseTurnsModel" "now" "[I", .methodLink RX7 9 yX7_in, .static yX7_in, .initialized RX7, .code yX7_in cX7_in 6 (some .boolean)] ++ wsX70)
def wsX7_time : List Cond := .code yX7_time cX7_time 2 (some .int) :: ([.fieldLink RX7 1 "PulseTurnsModel" "thrown" "I", .fieldLink RX7 46 "PulseTurnsModel" "now" "[I", .methodLink RX7 119 yX7_isArrival, .instanceMethod yX7_isArrival, .selects RX7 yX7_isArrival yX7_isArrival, .initialized RX7, .code yX7_isArrival cX7_isArrival 2 (some .boolean), .methodLink RX7 9 yX7_in, .static yX7_in, .code yX7_in cX7_in 6 (some .boolean)] ++ wsX70)
def wsX7_keepAct : List Cond := .code yX7_keepAct cX7_keepAct 2 none :: ([.fieldLink RX7 116 "PulseTurnsModel" "acts" "I", .fieldLink RX7 52 "PulseTurnsModel" "was" "[I", .fieldLink RX7 46 "PulseTurnsModel" "now" "[I"] ++ wsX70)
def wsX7_adds : List Cond := .code yX7_adds cX7_adds 2 (some .int) :: ([.fieldLink RX7 1 "PulseTurnsModel" "thrown" "I", .constantLong RX7 123 (2999), .fieldLink RX7 46 "PulseTurnsModel" "now" "[I", .methodLink RX7 9 yX7_in, .static yX7_in, .initialized RX7, .code yX7_in cX7_in 6 (some .boolean), .methodLink RX7 86 yX7_placeOf, .static yX7_placeOf, .code yX7_placeOf cX7_placeOf 3 (some .int), .methodLink RX7 125 yX7_keepAct, .instanceMethod yX7_keepAct, .selects RX7 yX7_keepAct yX7_keepAct, .code yX7_keepAct cX7_keepAct 2 none, .fieldLink RX7 116 "PulseTurnsModel" "acts" "I", .fieldLink RX7 52 "PulseTurnsModel" "was" "[I", .methodLink RX7 97 yX7_put, .static yX7_put, .code yX7_put cX7_put 4 none] ++ wsX70)
def wsX7_strikes : List Cond := .code yX7_strikes cX7_strikes 3 (some .int) :: ([.fieldLink RX7 1 "PulseTurnsModel" "thrown" "I", .fieldLink RX7 46 "PulseTurnsModel" "now" "[I", .methodLink RX7 119 yX7_isArrival, .instanceMethod yX7_isArrival, .selects RX7 yX7_isArrival yX7_isArrival, .initialized RX7, .code yX7_isArrival cX7_isArrival 2 (some .boolean), .methodLink RX7 9 yX7_in, .static yX7_in, .code yX7_in cX7_in 6 (some .boolean), .methodLink RX7 125 yX7_keepAct, .instanceMethod yX7_keepAct, .selects RX7 yX7_keepAct yX7_keepAct, .code yX7_keepAct cX7_keepAct 2 none, .fieldLink RX7 116 "PulseTurnsModel" "acts" "I", .fieldLink RX7 52 "PulseTurnsModel" "was" "[I", .methodLink RX7 128 yX7_drop, .static yX7_drop, .code yX7_drop cX7_drop 3 none] ++ wsX70)
def wsX7_begin : List Cond := .code yX7_begin cX7_begin 2 none :: ([.fieldLink RX7 62 "PulseTurnsModel" "heard" "[I", .fieldLink RX7 141 "PulseTurnsModel" "level" "I", .fieldLink RX7 65 "PulseTurnsModel" "number" "[I", .fieldLink RX7 68 "PulseTurnsModel" "lowUp" "[I", .fieldLink RX7 71 "PulseTurnsModel" "lowDown" "[I", .fieldLink RX7 74 "PulseTurnsModel" "highUp" "[I", .fieldLink RX7 77 "PulseTurnsModel" "highDown" "[I", .methodLink RX7 112 yX7_copyAll, .static yX7_copyAll, .initialized RX7, .code yX7_copyAll cX7_copyAll 3 none] ++ wsX70)
def wsX7_apart : List Cond := .code yX7_apart cX7_apart 3 (some .int) :: ([])
def wsX7_isBeyond : List Cond := .code yX7_isBeyond cX7_isBeyond 2 (some .boolean) :: ([.fieldLink RX7 62 "PulseTurnsModel" "heard" "[I", .fieldLink RX7 71 "PulseTurnsModel" "lowDown" "[I", .fieldLink RX7 65 "PulseTurnsModel" "number" "[I", .fieldLink RX7 68 "PulseTurnsModel" "lowUp" "[I", .methodLink RX7 144 yX7_apart, .static yX7_apart, .initialized RX7, .code yX7_apart cX7_apart 3 (some .int)] ++ wsX70)
def wsX7_doesCut : List Cond := .code yX7_doesCut cX7_doesCut 7 (some .boolean) :: ([.fieldLink RX7 68 "PulseTurnsModel" "lowUp" "[I", .fieldLink RX7 71 "PulseTurnsModel" "lowDown" "[I", .fieldLink RX7 74 "PulseTurnsModel" "highUp" "[I", .fieldLink RX7 77 "PulseTurnsModel" "highDown" "[I", .fieldLink RX7 62 "PulseTurnsModel" "heard" "[I", .fieldLink RX7 65 "PulseTurnsModel" "number" "[I", .methodLink RX7 144 yX7_apart, .static yX7_apart, .initialized RX7, .code yX7_apart cX7_apart 3 (some .int)] ++ wsX70)
def wsX7_goesOn : List Cond := .code yX7_goesOn cX7_goesOn 3 (some .boolean) :: ([.fieldLink RX7 62 "PulseTurnsModel" "heard" "[I", .fieldLink RX7 141 "PulseTurnsModel" "level" "I", .fieldLink RX7 65 "PulseTurnsModel" "number" "[I", .methodLink RX7 148 yX7_isBeyond, .instanceMethod yX7_isBeyond, .selects RX7 yX7_isBeyond yX7_isBeyond, .initialized RX7, .code yX7_isBeyond cX7_isBeyond 2 (some .boolean), .fieldLink RX7 71 "PulseTurnsModel" "lowDown" "[I", .fieldLink RX7 68 "PulseTurnsModel" "lowUp" "[I", .methodLink RX7 144 yX7_apart, .static yX7_apart, .code yX7_apart cX7_apart 3 (some .int), .methodLink RX7 151 yX7_doesCut, .instanceMethod yX7_doesCut, .selects RX7 yX7_doesCut yX7_doesCut, .code yX7_doesCut cX7_doesCut 7 (some .boolean), .fieldLink RX7 74 "PulseTurnsModel" "highUp" "[I", .fieldLink RX7 77 "PulseTurnsModel" "highDown" "[I"] ++ wsX70)
def wsX7_standing_r1 : List Cond := [Cond.methodLink RX7 154 yX7_begin, Cond.instanceMethod yX7_begin, Cond.selects RX7 yX7_begin yX7_begin, Cond.initialized RX7, Cond.code yX7_begin cX7_begin 2 none, Cond.fieldLink RX7 62 "PulseTurnsModel" "heard" "[I", Cond.fieldLink RX7 141 "PulseTurnsModel" "level" "I", Cond.fieldLink RX7 65 "PulseTurnsModel" "number" "[I", Cond.fieldLink RX7 68 "PulseTurnsModel" "lowUp" "[I", Cond.fieldLink RX7 71 "PulseTurnsModel" "lowDown" "[I", Cond.fieldLink RX7 74 "PulseTurnsModel" "highUp" "[I", Cond.fieldLink RX7 77 "PulseTurnsModel" "highDown" "[I", Cond.methodLink RX7 112 yX7_copyAll, Cond.static yX7_copyAll, Cond.code yX7_copyAll cX7_copyAll 3 none, Cond.methodLink RX7 158 yX7_goesOn, Cond.instanceMethod yX7_goesOn, Cond.selects RX7 yX7_goesOn yX7_goesOn, Cond.code yX7_goesOn cX7_goesOn 3 (some .boolean), Cond.methodLink RX7 148 yX7_isBeyond, Cond.instanceMethod yX7_isBeyond, Cond.selects RX7 yX7_isBeyond yX7_isBeyond, Cond.code yX7_isBeyond cX7_isBeyond 2 (some .boolean), Cond.methodLink RX7 144 yX7_apart]
def wsX7_standing_r2 : List Cond := [Cond.static yX7_apart, Cond.code yX7_apart cX7_apart 3 (some .int), Cond.methodLink RX7 151 yX7_doesCut, Cond.instanceMethod yX7_doesCut, Cond.selects RX7 yX7_doesCut yX7_doesCut, Cond.code yX7_doesCut cX7_doesCut 7 (some .boolean)]
def wsX7_standing : List Cond := .code yX7_standing cX7_standing 3 (some .int) :: ((wsX7_standing_r1 ++ wsX7_standing_r2) ++ wsX70)
def wsX7_boxes_r1 : List Cond := [Cond.fieldLink RX7 1 "PulseTurnsModel" "thrown" "I", Cond.constantLong RX7 131 (10), Cond.constantLong RX7 133 (999), Cond.constantLong RX7 135 (99), Cond.fieldLink RX7 46 "PulseTurnsModel" "now" "[I", Cond.methodLink RX7 9 yX7_in, Cond.static yX7_in, Cond.initialized RX7, Cond.code yX7_in cX7_in 6 (some .boolean), Cond.methodLink RX7 125 yX7_keepAct, Cond.instanceMethod yX7_keepAct, Cond.selects RX7 yX7_keepAct yX7_keepAct, Cond.code yX7_keepAct cX7_keepAct 2 none, Cond.fieldLink RX7 116 "PulseTurnsModel" "acts" "I", Cond.fieldLink RX7 52 "PulseTurnsModel" "was" "[I", Cond.methodLink RX7 137 yX7_standing, Cond.instanceMethod yX7_standing, Cond.selects RX7 yX7_standing yX7_standing, Cond.code yX7_standing cX7_standing 3 (some .int), Cond.methodLink RX7 154 yX7_begin, Cond.instanceMethod yX7_begin, Cond.selects RX7 yX7_begin yX7_begin, Cond.code yX7_begin cX7_begin 2 none, Cond.fieldLink RX7 62 "PulseTurnsModel" "heard" "[I"]
def wsX7_boxes_r2 : List Cond := [Cond.fieldLink RX7 141 "PulseTurnsModel" "level" "I", Cond.fieldLink RX7 65 "PulseTurnsModel" "number" "[I", Cond.fieldLink RX7 68 "PulseTurnsModel" "lowUp" "[I", Cond.fieldLink RX7 71 "PulseTurnsModel" "lowDown" "[I", Cond.fieldLink RX7 74 "PulseTurnsModel" "highUp" "[I", Cond.fieldLink RX7 77 "PulseTurnsModel" "highDown" "[I", Cond.methodLink RX7 112 yX7_copyAll, Cond.static yX7_copyAll, Cond.code yX7_copyAll cX7_copyAll 3 none, Cond.methodLink RX7 158 yX7_goesOn, Cond.instanceMethod yX7_goesOn, Cond.selects RX7 yX7_goesOn yX7_goesOn, Cond.code yX7_goesOn cX7_goesOn 3 (some .boolean), Cond.methodLink RX7 148 yX7_isBeyond, Cond.instanceMethod yX7_isBeyond, Cond.selects RX7 yX7_isBeyond yX7_isBeyond, Cond.code yX7_isBeyond cX7_isBeyond 2 (some .boolean), Cond.methodLink RX7 144 yX7_apart, Cond.static yX7_apart, Cond.code yX7_apart cX7_apart 3 (some .int), Cond.methodLink RX7 151 yX7_doesCut, Cond.instanceMethod yX7_doesCut, Cond.selects RX7 yX7_doesCut yX7_doesCut, Cond.code yX7_doesCut cX7_doesCut 7 (some .boolean)]
def wsX7_boxes : List Cond := .code yX7_boxes cX7_boxes 4 (some .int) :: ((wsX7_boxes_r1 ++ wsX7_boxes_r2) ++ wsX70)
def wsX7_undo : List Cond := .code yX7_undo cX7_undo 2 (some .int) :: ([.fieldLink RX7 1 "PulseTurnsModel" "thrown" "I", .fieldLink RX7 116 "PulseTurnsModel" "acts" "I", .fieldLink RX7 46 "PulseTurnsModel" "now" "[I", .fieldLink RX7 52 "PulseTurnsModel" "was" "[I"] ++ wsX70)
def wsX7_isNumbered_r1 : List Cond := [Cond.fieldLink RX7 46 "PulseTurnsModel" "now" "[I", Cond.methodLink RX7 154 yX7_begin, Cond.instanceMethod yX7_begin, Cond.selects RX7 yX7_begin yX7_begin, Cond.initialized RX7, Cond.code yX7_begin cX7_begin 2 none, Cond.fieldLink RX7 62 "PulseTurnsModel" "heard" "[I", Cond.fieldLink RX7 141 "PulseTurnsModel" "level" "I", Cond.fieldLink RX7 65 "PulseTurnsModel" "number" "[I", Cond.fieldLink RX7 68 "PulseTurnsModel" "lowUp" "[I", Cond.fieldLink RX7 71 "PulseTurnsModel" "lowDown" "[I", Cond.fieldLink RX7 74 "PulseTurnsModel" "highUp" "[I", Cond.fieldLink RX7 77 "PulseTurnsModel" "highDown" "[I", Cond.methodLink RX7 112 yX7_copyAll, Cond.static yX7_copyAll, Cond.code yX7_copyAll cX7_copyAll 3 none, Cond.methodLink RX7 158 yX7_goesOn, Cond.instanceMethod yX7_goesOn, Cond.selects RX7 yX7_goesOn yX7_goesOn, Cond.code yX7_goesOn cX7_goesOn 3 (some .boolean), Cond.methodLink RX7 148 yX7_isBeyond, Cond.instanceMethod yX7_isBeyond, Cond.selects RX7 yX7_isBeyond yX7_isBeyond, Cond.code yX7_isBeyond cX7_isBeyond 2 (some .boolean)]
def wsX7_isNumbered_r2 : List Cond := [Cond.methodLink RX7 144 yX7_apart, Cond.static yX7_apart, Cond.code yX7_apart cX7_apart 3 (some .int), Cond.methodLink RX7 151 yX7_doesCut, Cond.instanceMethod yX7_doesCut, Cond.selects RX7 yX7_doesCut yX7_doesCut, Cond.code yX7_doesCut cX7_doesCut 7 (some .boolean)]
def wsX7_isNumbered : List Cond := .code yX7_isNumbered cX7_isNumbered 3 (some .boolean) :: ((wsX7_isNumbered_r1 ++ wsX7_isNumbered_r2) ++ wsX70)
def wsX7_number_r1 : List Cond := [Cond.fieldLink RX7 1 "PulseTurnsModel" "thrown" "I", Cond.fieldLink RX7 65 "PulseTurnsModel" "number" "[I", Cond.methodLink RX7 119 yX7_isArrival, Cond.instanceMethod yX7_isArrival, Cond.selects RX7 yX7_isArrival yX7_isArrival, Cond.initialized RX7, Cond.code yX7_isArrival cX7_isArrival 2 (some .boolean), Cond.fieldLink RX7 46 "PulseTurnsModel" "now" "[I", Cond.methodLink RX7 9 yX7_in, Cond.static yX7_in, Cond.code yX7_in cX7_in 6 (some .boolean), Cond.methodLink RX7 161 yX7_isNumbered, Cond.instanceMethod yX7_isNumbered, Cond.selects RX7 yX7_isNumbered yX7_isNumbered, Cond.code yX7_isNumbered cX7_isNumbered 3 (some .boolean), Cond.methodLink RX7 154 yX7_begin, Cond.instanceMethod yX7_begin, Cond.selects RX7 yX7_begin yX7_begin, Cond.code yX7_begin cX7_begin 2 none, Cond.fieldLink RX7 62 "PulseTurnsModel" "heard" "[I", Cond.fieldLink RX7 141 "PulseTurnsModel" "level" "I", Cond.fieldLink RX7 68 "PulseTurnsModel" "lowUp" "[I", Cond.fieldLink RX7 71 "PulseTurnsModel" "lowDown" "[I", Cond.fieldLink RX7 74 "PulseTurnsModel" "highUp" "[I"]
def wsX7_number_r2 : List Cond := [Cond.fieldLink RX7 77 "PulseTurnsModel" "highDown" "[I", Cond.methodLink RX7 112 yX7_copyAll, Cond.static yX7_copyAll, Cond.code yX7_copyAll cX7_copyAll 3 none, Cond.methodLink RX7 158 yX7_goesOn, Cond.instanceMethod yX7_goesOn, Cond.selects RX7 yX7_goesOn yX7_goesOn, Cond.code yX7_goesOn cX7_goesOn 3 (some .boolean), Cond.methodLink RX7 148 yX7_isBeyond, Cond.instanceMethod yX7_isBeyond, Cond.selects RX7 yX7_isBeyond yX7_isBeyond, Cond.code yX7_isBeyond cX7_isBeyond 2 (some .boolean), Cond.methodLink RX7 144 yX7_apart, Cond.static yX7_apart, Cond.code yX7_apart cX7_apart 3 (some .int), Cond.methodLink RX7 151 yX7_doesCut, Cond.instanceMethod yX7_doesCut, Cond.selects RX7 yX7_doesCut yX7_doesCut, Cond.code yX7_doesCut cX7_doesCut 7 (some .boolean)]
def wsX7_number : List Cond := .code yX7_number cX7_number 3 (some .int) :: ((wsX7_number_r1 ++ wsX7_number_r2) ++ wsX70)
def wsX7_common : List Cond := .code yX7_common cX7_common 5 (some .int) :: ([])
def wsX7_least : List Cond := .code yX7_least cX7_least 3 (some .int) :: ([.methodLink RX7 164 yX7_common, .static yX7_common, .initialized RX7, .code yX7_common cX7_common 5 (some .int)])
def wsX7_ends : List Cond := .code yX7_ends cX7_ends 5 (some .int) :: ([.methodLink RX7 168 yX7_least, .static yX7_least, .initialized RX7, .code yX7_least cX7_least 3 (some .int), .methodLink RX7 164 yX7_common, .static yX7_common, .code yX7_common cX7_common 5 (some .int)])
def wsX7_box_r1 : List Cond := [Cond.fieldLink RX7 1 "PulseTurnsModel" "thrown" "I", Cond.constantLong RX7 172 (3), Cond.fieldLink RX7 46 "PulseTurnsModel" "now" "[I", Cond.fieldLink RX7 68 "PulseTurnsModel" "lowUp" "[I", Cond.fieldLink RX7 71 "PulseTurnsModel" "lowDown" "[I", Cond.fieldLink RX7 74 "PulseTurnsModel" "highUp" "[I", Cond.fieldLink RX7 77 "PulseTurnsModel" "highDown" "[I", Cond.methodLink RX7 9 yX7_in, Cond.static yX7_in, Cond.initialized RX7, Cond.code yX7_in cX7_in 6 (some .boolean), Cond.methodLink RX7 161 yX7_isNumbered, Cond.instanceMethod yX7_isNumbered, Cond.selects RX7 yX7_isNumbered yX7_isNumbered, Cond.code yX7_isNumbered cX7_isNumbered 3 (some .boolean), Cond.methodLink RX7 154 yX7_begin, Cond.instanceMethod yX7_begin, Cond.selects RX7 yX7_begin yX7_begin, Cond.code yX7_begin cX7_begin 2 none, Cond.fieldLink RX7 62 "PulseTurnsModel" "heard" "[I", Cond.fieldLink RX7 141 "PulseTurnsModel" "level" "I", Cond.fieldLink RX7 65 "PulseTurnsModel" "number" "[I", Cond.methodLink RX7 112 yX7_copyAll, Cond.static yX7_copyAll]
def wsX7_box_r2 : List Cond := [Cond.code yX7_copyAll cX7_copyAll 3 none, Cond.methodLink RX7 158 yX7_goesOn, Cond.instanceMethod yX7_goesOn, Cond.selects RX7 yX7_goesOn yX7_goesOn, Cond.code yX7_goesOn cX7_goesOn 3 (some .boolean), Cond.methodLink RX7 148 yX7_isBeyond, Cond.instanceMethod yX7_isBeyond, Cond.selects RX7 yX7_isBeyond yX7_isBeyond, Cond.code yX7_isBeyond cX7_isBeyond 2 (some .boolean), Cond.methodLink RX7 144 yX7_apart, Cond.static yX7_apart, Cond.code yX7_apart cX7_apart 3 (some .int), Cond.methodLink RX7 151 yX7_doesCut, Cond.instanceMethod yX7_doesCut, Cond.selects RX7 yX7_doesCut yX7_doesCut, Cond.code yX7_doesCut cX7_doesCut 7 (some .boolean), Cond.methodLink RX7 174 yX7_ends, Cond.static yX7_ends, Cond.code yX7_ends cX7_ends 5 (some .int), Cond.methodLink RX7 168 yX7_least, Cond.static yX7_least, Cond.code yX7_least cX7_least 3 (some .int), Cond.methodLink RX7 164 yX7_common, Cond.static yX7_common]
def wsX7_box_r3 : List Cond := [Cond.code yX7_common cX7_common 5 (some .int)]
def wsX7_box : List Cond := .code yX7_box cX7_box 4 (some .int) :: ((wsX7_box_r1 ++ (wsX7_box_r2 ++ wsX7_box_r3)) ++ wsX70)
def wsX7_held_r1 : List Cond := [Cond.fieldLink RX7 1 "PulseTurnsModel" "thrown" "I", Cond.fieldLink RX7 46 "PulseTurnsModel" "now" "[I", Cond.constantLong RX7 178 (2), Cond.fieldLink RX7 80 "PulseTurnsModel" "seen" "[Z", Cond.fieldLink RX7 65 "PulseTurnsModel" "number" "[I", Cond.methodLink RX7 9 yX7_in, Cond.static yX7_in, Cond.initialized RX7, Cond.code yX7_in cX7_in 6 (some .boolean), Cond.methodLink RX7 154 yX7_begin, Cond.instanceMethod yX7_begin, Cond.selects RX7 yX7_begin yX7_begin, Cond.code yX7_begin cX7_begin 2 none, Cond.fieldLink RX7 62 "PulseTurnsModel" "heard" "[I", Cond.fieldLink RX7 141 "PulseTurnsModel" "level" "I", Cond.fieldLink RX7 68 "PulseTurnsModel" "lowUp" "[I", Cond.fieldLink RX7 71 "PulseTurnsModel" "lowDown" "[I", Cond.fieldLink RX7 74 "PulseTurnsModel" "highUp" "[I", Cond.fieldLink RX7 77 "PulseTurnsModel" "highDown" "[I", Cond.methodLink RX7 112 yX7_copyAll, Cond.static yX7_copyAll, Cond.code yX7_copyAll cX7_copyAll 3 none, Cond.methodLink RX7 158 yX7_goesOn, Cond.instanceMethod yX7_goesOn]
def wsX7_held_r2 : List Cond := [Cond.selects RX7 yX7_goesOn yX7_goesOn, Cond.code yX7_goesOn cX7_goesOn 3 (some .boolean), Cond.methodLink RX7 148 yX7_isBeyond, Cond.instanceMethod yX7_isBeyond, Cond.selects RX7 yX7_isBeyond yX7_isBeyond, Cond.code yX7_isBeyond cX7_isBeyond 2 (some .boolean), Cond.methodLink RX7 144 yX7_apart, Cond.static yX7_apart, Cond.code yX7_apart cX7_apart 3 (some .int), Cond.methodLink RX7 151 yX7_doesCut, Cond.instanceMethod yX7_doesCut, Cond.selects RX7 yX7_doesCut yX7_doesCut, Cond.code yX7_doesCut cX7_doesCut 7 (some .boolean)]
def wsX7_held : List Cond := .code yX7_held cX7_held 7 (some .int) :: ((wsX7_held_r1 ++ wsX7_held_r2) ++ wsX70)
def wsX7_bend_r1 : List Cond := [Cond.fieldLink RX7 1 "PulseTurnsModel" "thrown" "I", Cond.constant RX7 180 (-1000000), Cond.fieldLink RX7 65 "PulseTurnsModel" "number" "[I", Cond.fieldLink RX7 46 "PulseTurnsModel" "now" "[I", Cond.methodLink RX7 119 yX7_isArrival, Cond.instanceMethod yX7_isArrival, Cond.selects RX7 yX7_isArrival yX7_isArrival, Cond.initialized RX7, Cond.code yX7_isArrival cX7_isArrival 2 (some .boolean), Cond.methodLink RX7 9 yX7_in, Cond.static yX7_in, Cond.code yX7_in cX7_in 6 (some .boolean), Cond.methodLink RX7 161 yX7_isNumbered, Cond.instanceMethod yX7_isNumbered, Cond.selects RX7 yX7_isNumbered yX7_isNumbered, Cond.code yX7_isNumbered cX7_isNumbered 3 (some .boolean), Cond.methodLink RX7 154 yX7_begin, Cond.instanceMethod yX7_begin, Cond.selects RX7 yX7_begin yX7_begin, Cond.code yX7_begin cX7_begin 2 none, Cond.fieldLink RX7 62 "PulseTurnsModel" "heard" "[I", Cond.fieldLink RX7 141 "PulseTurnsModel" "level" "I", Cond.fieldLink RX7 68 "PulseTurnsModel" "lowUp" "[I", Cond.fieldLink RX7 71 "PulseTurnsModel" "lowDown" "[I"]
def wsX7_bend_r2 : List Cond := [Cond.fieldLink RX7 74 "PulseTurnsModel" "highUp" "[I", Cond.fieldLink RX7 77 "PulseTurnsModel" "highDown" "[I", Cond.methodLink RX7 112 yX7_copyAll, Cond.static yX7_copyAll, Cond.code yX7_copyAll cX7_copyAll 3 none, Cond.methodLink RX7 158 yX7_goesOn, Cond.instanceMethod yX7_goesOn, Cond.selects RX7 yX7_goesOn yX7_goesOn, Cond.code yX7_goesOn cX7_goesOn 3 (some .boolean), Cond.methodLink RX7 148 yX7_isBeyond, Cond.instanceMethod yX7_isBeyond, Cond.selects RX7 yX7_isBeyond yX7_isBeyond, Cond.code yX7_isBeyond cX7_isBeyond 2 (some .boolean), Cond.methodLink RX7 144 yX7_apart, Cond.static yX7_apart, Cond.code yX7_apart cX7_apart 3 (some .int), Cond.methodLink RX7 151 yX7_doesCut, Cond.instanceMethod yX7_doesCut, Cond.selects RX7 yX7_doesCut yX7_doesCut, Cond.code yX7_doesCut cX7_doesCut 7 (some .boolean), Cond.methodLink RX7 168 yX7_least, Cond.static yX7_least, Cond.code yX7_least cX7_least 3 (some .int), Cond.methodLink RX7 164 yX7_common]
def wsX7_bend_r3 : List Cond := [Cond.static yX7_common, Cond.code yX7_common cX7_common 5 (some .int)]
def wsX7_bend : List Cond := .code yX7_bend cX7_bend 8 (some .int) :: ((wsX7_bend_r1 ++ (wsX7_bend_r2 ++ wsX7_bend_r3)) ++ wsX70)
def wsX7_leftBy_r1 : List Cond := [Cond.fieldLink RX7 46 "PulseTurnsModel" "now" "[I", Cond.fieldLink RX7 49 "PulseTurnsModel" "fresh" "[I", Cond.methodLink RX7 112 yX7_copyAll, Cond.static yX7_copyAll, Cond.initialized RX7, Cond.code yX7_copyAll cX7_copyAll 3 none, Cond.methodLink RX7 97 yX7_put, Cond.static yX7_put, Cond.code yX7_put cX7_put 4 none, Cond.methodLink RX7 86 yX7_placeOf, Cond.static yX7_placeOf, Cond.code yX7_placeOf cX7_placeOf 3 (some .int), Cond.methodLink RX7 137 yX7_standing, Cond.instanceMethod yX7_standing, Cond.selects RX7 yX7_standing yX7_standing, Cond.code yX7_standing cX7_standing 3 (some .int), Cond.methodLink RX7 154 yX7_begin, Cond.instanceMethod yX7_begin, Cond.selects RX7 yX7_begin yX7_begin, Cond.code yX7_begin cX7_begin 2 none, Cond.fieldLink RX7 62 "PulseTurnsModel" "heard" "[I", Cond.fieldLink RX7 141 "PulseTurnsModel" "level" "I", Cond.fieldLink RX7 65 "PulseTurnsModel" "number" "[I", Cond.fieldLink RX7 68 "PulseTurnsModel" "lowUp" "[I"]
def wsX7_leftBy_r2 : List Cond := [Cond.fieldLink RX7 71 "PulseTurnsModel" "lowDown" "[I", Cond.fieldLink RX7 74 "PulseTurnsModel" "highUp" "[I", Cond.fieldLink RX7 77 "PulseTurnsModel" "highDown" "[I", Cond.methodLink RX7 158 yX7_goesOn, Cond.instanceMethod yX7_goesOn, Cond.selects RX7 yX7_goesOn yX7_goesOn, Cond.code yX7_goesOn cX7_goesOn 3 (some .boolean), Cond.methodLink RX7 148 yX7_isBeyond, Cond.instanceMethod yX7_isBeyond, Cond.selects RX7 yX7_isBeyond yX7_isBeyond, Cond.code yX7_isBeyond cX7_isBeyond 2 (some .boolean), Cond.methodLink RX7 144 yX7_apart, Cond.static yX7_apart, Cond.code yX7_apart cX7_apart 3 (some .int), Cond.methodLink RX7 151 yX7_doesCut, Cond.instanceMethod yX7_doesCut, Cond.selects RX7 yX7_doesCut yX7_doesCut, Cond.code yX7_doesCut cX7_doesCut 7 (some .boolean)]
def wsX7_leftBy : List Cond := .code yX7_leftBy cX7_leftBy 2 (some .int) :: ((wsX7_leftBy_r1 ++ wsX7_leftBy_r2) ++ wsX70)
def wsX7_left_r1 : List Cond := [Cond.fieldLink RX7 1 "PulseTurnsModel" "thrown" "I", Cond.constantLong RX7 123 (2999), Cond.fieldLink RX7 46 "PulseTurnsModel" "now" "[I", Cond.methodLink RX7 9 yX7_in, Cond.static yX7_in, Cond.initialized RX7, Cond.code yX7_in cX7_in 6 (some .boolean), Cond.methodLink RX7 86 yX7_placeOf, Cond.static yX7_placeOf, Cond.code yX7_placeOf cX7_placeOf 3 (some .int), Cond.methodLink RX7 181 yX7_leftBy, Cond.instanceMethod yX7_leftBy, Cond.selects RX7 yX7_leftBy yX7_leftBy, Cond.code yX7_leftBy cX7_leftBy 2 (some .int), Cond.fieldLink RX7 49 "PulseTurnsModel" "fresh" "[I", Cond.methodLink RX7 112 yX7_copyAll, Cond.static yX7_copyAll, Cond.code yX7_copyAll cX7_copyAll 3 none, Cond.methodLink RX7 97 yX7_put, Cond.static yX7_put, Cond.code yX7_put cX7_put 4 none, Cond.methodLink RX7 137 yX7_standing, Cond.instanceMethod yX7_standing, Cond.selects RX7 yX7_standing yX7_standing]
def wsX7_left_r2 : List Cond := [Cond.code yX7_standing cX7_standing 3 (some .int), Cond.methodLink RX7 154 yX7_begin, Cond.instanceMethod yX7_begin, Cond.selects RX7 yX7_begin yX7_begin, Cond.code yX7_begin cX7_begin 2 none, Cond.fieldLink RX7 62 "PulseTurnsModel" "heard" "[I", Cond.fieldLink RX7 141 "PulseTurnsModel" "level" "I", Cond.fieldLink RX7 65 "PulseTurnsModel" "number" "[I", Cond.fieldLink RX7 68 "PulseTurnsModel" "lowUp" "[I", Cond.fieldLink RX7 71 "PulseTurnsModel" "lowDown" "[I", Cond.fieldLink RX7 74 "PulseTurnsModel" "highUp" "[I", Cond.fieldLink RX7 77 "PulseTurnsModel" "highDown" "[I", Cond.methodLink RX7 158 yX7_goesOn, Cond.instanceMethod yX7_goesOn, Cond.selects RX7 yX7_goesOn yX7_goesOn, Cond.code yX7_goesOn cX7_goesOn 3 (some .boolean), Cond.methodLink RX7 148 yX7_isBeyond, Cond.instanceMethod yX7_isBeyond, Cond.selects RX7 yX7_isBeyond yX7_isBeyond, Cond.code yX7_isBeyond cX7_isBeyond 2 (some .boolean), Cond.methodLink RX7 144 yX7_apart, Cond.static yX7_apart, Cond.code yX7_apart cX7_apart 3 (some .int), Cond.methodLink RX7 151 yX7_doesCut]
def wsX7_left_r3 : List Cond := [Cond.instanceMethod yX7_doesCut, Cond.selects RX7 yX7_doesCut yX7_doesCut, Cond.code yX7_doesCut cX7_doesCut 7 (some .boolean)]
def wsX7_left : List Cond := .code yX7_left cX7_left 2 (some .int) :: ((wsX7_left_r1 ++ (wsX7_left_r2 ++ wsX7_left_r3)) ++ wsX70)
def wsX7_listen_r1 : List Cond := [Cond.fieldLink RX7 1 "PulseTurnsModel" "thrown" "I", Cond.fieldLink RX7 46 "PulseTurnsModel" "now" "[I", Cond.methodLink RX7 181 yX7_leftBy, Cond.instanceMethod yX7_leftBy, Cond.selects RX7 yX7_leftBy yX7_leftBy, Cond.initialized RX7, Cond.code yX7_leftBy cX7_leftBy 2 (some .int), Cond.fieldLink RX7 49 "PulseTurnsModel" "fresh" "[I", Cond.methodLink RX7 112 yX7_copyAll, Cond.static yX7_copyAll, Cond.code yX7_copyAll cX7_copyAll 3 none, Cond.methodLink RX7 97 yX7_put, Cond.static yX7_put, Cond.code yX7_put cX7_put 4 none, Cond.methodLink RX7 86 yX7_placeOf, Cond.static yX7_placeOf, Cond.code yX7_placeOf cX7_placeOf 3 (some .int), Cond.methodLink RX7 137 yX7_standing, Cond.instanceMethod yX7_standing, Cond.selects RX7 yX7_standing yX7_standing, Cond.code yX7_standing cX7_standing 3 (some .int), Cond.methodLink RX7 154 yX7_begin, Cond.instanceMethod yX7_begin, Cond.selects RX7 yX7_begin yX7_begin]
def wsX7_listen_r2 : List Cond := [Cond.code yX7_begin cX7_begin 2 none, Cond.fieldLink RX7 62 "PulseTurnsModel" "heard" "[I", Cond.fieldLink RX7 141 "PulseTurnsModel" "level" "I", Cond.fieldLink RX7 65 "PulseTurnsModel" "number" "[I", Cond.fieldLink RX7 68 "PulseTurnsModel" "lowUp" "[I", Cond.fieldLink RX7 71 "PulseTurnsModel" "lowDown" "[I", Cond.fieldLink RX7 74 "PulseTurnsModel" "highUp" "[I", Cond.fieldLink RX7 77 "PulseTurnsModel" "highDown" "[I", Cond.methodLink RX7 158 yX7_goesOn, Cond.instanceMethod yX7_goesOn, Cond.selects RX7 yX7_goesOn yX7_goesOn, Cond.code yX7_goesOn cX7_goesOn 3 (some .boolean), Cond.methodLink RX7 148 yX7_isBeyond, Cond.instanceMethod yX7_isBeyond, Cond.selects RX7 yX7_isBeyond yX7_isBeyond, Cond.code yX7_isBeyond cX7_isBeyond 2 (some .boolean), Cond.methodLink RX7 144 yX7_apart, Cond.static yX7_apart, Cond.code yX7_apart cX7_apart 3 (some .int), Cond.methodLink RX7 151 yX7_doesCut, Cond.instanceMethod yX7_doesCut, Cond.selects RX7 yX7_doesCut yX7_doesCut, Cond.code yX7_doesCut cX7_doesCut 7 (some .boolean)]
def wsX7_listen : List Cond := .code yX7_listen cX7_listen 6 (some .int) :: ((wsX7_listen_r1 ++ wsX7_listen_r2) ++ wsX70)
def wsX7_odds_r1 : List Cond := [Cond.fieldLink RX7 1 "PulseTurnsModel" "thrown" "I", Cond.constantLong RX7 131 (10), Cond.fieldLink RX7 46 "PulseTurnsModel" "now" "[I", Cond.fieldLink RX7 49 "PulseTurnsModel" "fresh" "[I", Cond.methodLink RX7 9 yX7_in, Cond.static yX7_in, Cond.initialized RX7, Cond.code yX7_in cX7_in 6 (some .boolean), Cond.methodLink RX7 112 yX7_copyAll, Cond.static yX7_copyAll, Cond.code yX7_copyAll cX7_copyAll 3 none, Cond.methodLink RX7 128 yX7_drop, Cond.static yX7_drop, Cond.code yX7_drop cX7_drop 3 none, Cond.methodLink RX7 137 yX7_standing, Cond.instanceMethod yX7_standing, Cond.selects RX7 yX7_standing yX7_standing, Cond.code yX7_standing cX7_standing 3 (some .int), Cond.methodLink RX7 154 yX7_begin, Cond.instanceMethod yX7_begin, Cond.selects RX7 yX7_begin yX7_begin, Cond.code yX7_begin cX7_begin 2 none, Cond.fieldLink RX7 62 "PulseTurnsModel" "heard" "[I", Cond.fieldLink RX7 141 "PulseTurnsModel" "level" "I"]
def wsX7_odds_r2 : List Cond := [Cond.fieldLink RX7 65 "PulseTurnsModel" "number" "[I", Cond.fieldLink RX7 68 "PulseTurnsModel" "lowUp" "[I", Cond.fieldLink RX7 71 "PulseTurnsModel" "lowDown" "[I", Cond.fieldLink RX7 74 "PulseTurnsModel" "highUp" "[I", Cond.fieldLink RX7 77 "PulseTurnsModel" "highDown" "[I", Cond.methodLink RX7 158 yX7_goesOn, Cond.instanceMethod yX7_goesOn, Cond.selects RX7 yX7_goesOn yX7_goesOn, Cond.code yX7_goesOn cX7_goesOn 3 (some .boolean), Cond.methodLink RX7 148 yX7_isBeyond, Cond.instanceMethod yX7_isBeyond, Cond.selects RX7 yX7_isBeyond yX7_isBeyond, Cond.code yX7_isBeyond cX7_isBeyond 2 (some .boolean), Cond.methodLink RX7 144 yX7_apart, Cond.static yX7_apart, Cond.code yX7_apart cX7_apart 3 (some .int), Cond.methodLink RX7 151 yX7_doesCut, Cond.instanceMethod yX7_doesCut, Cond.selects RX7 yX7_doesCut yX7_doesCut, Cond.code yX7_doesCut cX7_doesCut 7 (some .boolean), Cond.methodLink RX7 168 yX7_least, Cond.static yX7_least, Cond.code yX7_least cX7_least 3 (some .int), Cond.methodLink RX7 164 yX7_common]
def wsX7_odds_r3 : List Cond := [Cond.static yX7_common, Cond.code yX7_common cX7_common 5 (some .int)]
def wsX7_odds : List Cond := .code yX7_odds cX7_odds 9 (some .int) :: ((wsX7_odds_r1 ++ (wsX7_odds_r2 ++ wsX7_odds_r3)) ++ wsX70)
def wsX7_greatestOf : List Cond := .code yX7_greatestOf cX7_greatestOf 3 (some .int) :: ([.fieldLink RX7 46 "PulseTurnsModel" "now" "[I", .fieldLink RX7 71 "PulseTurnsModel" "lowDown" "[I", .fieldLink RX7 68 "PulseTurnsModel" "lowUp" "[I", .methodLink RX7 144 yX7_apart, .static yX7_apart, .initialized RX7, .code yX7_apart cX7_apart 3 (some .int)] ++ wsX70)
def wsX7_leastOf : List Cond := .code yX7_leastOf cX7_leastOf 5 (some .int) :: ([.fieldLink RX7 46 "PulseTurnsModel" "now" "[I", .fieldLink RX7 77 "PulseTurnsModel" "highDown" "[I", .fieldLink RX7 74 "PulseTurnsModel" "highUp" "[I", .methodLink RX7 144 yX7_apart, .static yX7_apart, .initialized RX7, .code yX7_apart cX7_apart 3 (some .int)] ++ wsX70)
def wsX7_countsOf : List Cond := .code yX7_countsOf cX7_countsOf 4 (some .int) :: ([.methodLink RX7 184 yX7_greatestOf, .instanceMethod yX7_greatestOf, .selects RX7 yX7_greatestOf yX7_greatestOf, .initialized RX7, .code yX7_greatestOf cX7_greatestOf 3 (some .int), .fieldLink RX7 46 "PulseTurnsModel" "now" "[I", .fieldLink RX7 71 "PulseTurnsModel" "lowDown" "[I", .fieldLink RX7 68 "PulseTurnsModel" "lowUp" "[I", .methodLink RX7 144 yX7_apart, .static yX7_apart, .code yX7_apart cX7_apart 3 (some .int), .methodLink RX7 187 yX7_leastOf, .instanceMethod yX7_leastOf, .selects RX7 yX7_leastOf yX7_leastOf, .code yX7_leastOf cX7_leastOf 5 (some .int), .fieldLink RX7 77 "PulseTurnsModel" "highDown" "[I", .fieldLink RX7 74 "PulseTurnsModel" "highUp" "[I"] ++ wsX70)
def wsX7_isNarrower : List Cond := .code yX7_isNarrower cX7_isNarrower 7 (some .boolean) :: ([.fieldLink RX7 46 "PulseTurnsModel" "now" "[I", .fieldLink RX7 71 "PulseTurnsModel" "lowDown" "[I", .fieldLink RX7 68 "PulseTurnsModel" "lowUp" "[I", .fieldLink RX7 77 "PulseTurnsModel" "highDown" "[I", .fieldLink RX7 74 "PulseTurnsModel" "highUp" "[I", .methodLink RX7 187 yX7_leastOf, .instanceMethod yX7_leastOf, .selects RX7 yX7_leastOf yX7_leastOf, .initialized RX7, .code yX7_leastOf cX7_leastOf 5 (some .int), .methodLink RX7 144 yX7_apart, .static yX7_apart, .code yX7_apart cX7_apart 3 (some .int)] ++ wsX70)
def wsX7_narrow_r1 : List Cond := [Cond.fieldLink RX7 46 "PulseTurnsModel" "now" "[I", Cond.fieldLink RX7 190 "PulseTurnsModel" "empty" "Z", Cond.fieldLink RX7 68 "PulseTurnsModel" "lowUp" "[I", Cond.fieldLink RX7 77 "PulseTurnsModel" "highDown" "[I", Cond.fieldLink RX7 74 "PulseTurnsModel" "highUp" "[I", Cond.fieldLink RX7 71 "PulseTurnsModel" "lowDown" "[I", Cond.methodLink RX7 154 yX7_begin, Cond.instanceMethod yX7_begin, Cond.selects RX7 yX7_begin yX7_begin, Cond.initialized RX7, Cond.code yX7_begin cX7_begin 2 none, Cond.fieldLink RX7 62 "PulseTurnsModel" "heard" "[I", Cond.fieldLink RX7 141 "PulseTurnsModel" "level" "I", Cond.fieldLink RX7 65 "PulseTurnsModel" "number" "[I", Cond.methodLink RX7 112 yX7_copyAll, Cond.static yX7_copyAll, Cond.code yX7_copyAll cX7_copyAll 3 none, Cond.methodLink RX7 194 yX7_countsOf, Cond.instanceMethod yX7_countsOf, Cond.selects RX7 yX7_countsOf yX7_countsOf, Cond.code yX7_countsOf cX7_countsOf 4 (some .int), Cond.methodLink RX7 184 yX7_greatestOf, Cond.instanceMethod yX7_greatestOf, Cond.selects RX7 yX7_greatestOf yX7_greatestOf]
def wsX7_narrow_r2 : List Cond := [Cond.code yX7_greatestOf cX7_greatestOf 3 (some .int), Cond.methodLink RX7 144 yX7_apart, Cond.static yX7_apart, Cond.code yX7_apart cX7_apart 3 (some .int), Cond.methodLink RX7 187 yX7_leastOf, Cond.instanceMethod yX7_leastOf, Cond.selects RX7 yX7_leastOf yX7_leastOf, Cond.code yX7_leastOf cX7_leastOf 5 (some .int), Cond.methodLink RX7 197 yX7_isNarrower, Cond.instanceMethod yX7_isNarrower, Cond.selects RX7 yX7_isNarrower yX7_isNarrower, Cond.code yX7_isNarrower cX7_isNarrower 7 (some .boolean)]
def wsX7_narrow : List Cond := .code yX7_narrow cX7_narrow 5 none :: ((wsX7_narrow_r1 ++ wsX7_narrow_r2) ++ wsX70)
def wsX7_counts_r1 : List Cond := [Cond.fieldLink RX7 1 "PulseTurnsModel" "thrown" "I", Cond.constantLong RX7 178 (2), Cond.fieldLink RX7 190 "PulseTurnsModel" "empty" "Z", Cond.fieldLink RX7 46 "PulseTurnsModel" "now" "[I", Cond.methodLink RX7 119 yX7_isArrival, Cond.instanceMethod yX7_isArrival, Cond.selects RX7 yX7_isArrival yX7_isArrival, Cond.initialized RX7, Cond.code yX7_isArrival cX7_isArrival 2 (some .boolean), Cond.methodLink RX7 9 yX7_in, Cond.static yX7_in, Cond.code yX7_in cX7_in 6 (some .boolean), Cond.methodLink RX7 200 yX7_narrow, Cond.instanceMethod yX7_narrow, Cond.selects RX7 yX7_narrow yX7_narrow, Cond.code yX7_narrow cX7_narrow 5 none, Cond.fieldLink RX7 68 "PulseTurnsModel" "lowUp" "[I", Cond.fieldLink RX7 77 "PulseTurnsModel" "highDown" "[I", Cond.fieldLink RX7 74 "PulseTurnsModel" "highUp" "[I", Cond.fieldLink RX7 71 "PulseTurnsModel" "lowDown" "[I", Cond.methodLink RX7 154 yX7_begin, Cond.instanceMethod yX7_begin, Cond.selects RX7 yX7_begin yX7_begin, Cond.code yX7_begin cX7_begin 2 none]
def wsX7_counts_r2 : List Cond := [Cond.fieldLink RX7 62 "PulseTurnsModel" "heard" "[I", Cond.fieldLink RX7 141 "PulseTurnsModel" "level" "I", Cond.fieldLink RX7 65 "PulseTurnsModel" "number" "[I", Cond.methodLink RX7 112 yX7_copyAll, Cond.static yX7_copyAll, Cond.code yX7_copyAll cX7_copyAll 3 none, Cond.methodLink RX7 194 yX7_countsOf, Cond.instanceMethod yX7_countsOf, Cond.selects RX7 yX7_countsOf yX7_countsOf, Cond.code yX7_countsOf cX7_countsOf 4 (some .int), Cond.methodLink RX7 184 yX7_greatestOf, Cond.instanceMethod yX7_greatestOf, Cond.selects RX7 yX7_greatestOf yX7_greatestOf, Cond.code yX7_greatestOf cX7_greatestOf 3 (some .int), Cond.methodLink RX7 144 yX7_apart, Cond.static yX7_apart, Cond.code yX7_apart cX7_apart 3 (some .int), Cond.methodLink RX7 187 yX7_leastOf, Cond.instanceMethod yX7_leastOf, Cond.selects RX7 yX7_leastOf yX7_leastOf, Cond.code yX7_leastOf cX7_leastOf 5 (some .int), Cond.methodLink RX7 197 yX7_isNarrower, Cond.instanceMethod yX7_isNarrower, Cond.selects RX7 yX7_isNarrower yX7_isNarrower]
def wsX7_counts_r3 : List Cond := [Cond.code yX7_isNarrower cX7_isNarrower 7 (some .boolean)]
def wsX7_counts : List Cond := .code yX7_counts cX7_counts 6 (some .int) :: ((wsX7_counts_r1 ++ (wsX7_counts_r2 ++ wsX7_counts_r3)) ++ wsX70)
def wsX7_narrowed_r1 : List Cond := [Cond.fieldLink RX7 1 "PulseTurnsModel" "thrown" "I", Cond.constantLong RX7 172 (3), Cond.fieldLink RX7 190 "PulseTurnsModel" "empty" "Z", Cond.fieldLink RX7 68 "PulseTurnsModel" "lowUp" "[I", Cond.fieldLink RX7 71 "PulseTurnsModel" "lowDown" "[I", Cond.fieldLink RX7 74 "PulseTurnsModel" "highUp" "[I", Cond.fieldLink RX7 77 "PulseTurnsModel" "highDown" "[I", Cond.methodLink RX7 9 yX7_in, Cond.static yX7_in, Cond.initialized RX7, Cond.code yX7_in cX7_in 6 (some .boolean), Cond.methodLink RX7 200 yX7_narrow, Cond.instanceMethod yX7_narrow, Cond.selects RX7 yX7_narrow yX7_narrow, Cond.code yX7_narrow cX7_narrow 5 none, Cond.fieldLink RX7 46 "PulseTurnsModel" "now" "[I", Cond.methodLink RX7 154 yX7_begin, Cond.instanceMethod yX7_begin, Cond.selects RX7 yX7_begin yX7_begin, Cond.code yX7_begin cX7_begin 2 none, Cond.fieldLink RX7 62 "PulseTurnsModel" "heard" "[I", Cond.fieldLink RX7 141 "PulseTurnsModel" "level" "I", Cond.fieldLink RX7 65 "PulseTurnsModel" "number" "[I", Cond.methodLink RX7 112 yX7_copyAll]
def wsX7_narrowed_r2 : List Cond := [Cond.static yX7_copyAll, Cond.code yX7_copyAll cX7_copyAll 3 none, Cond.methodLink RX7 194 yX7_countsOf, Cond.instanceMethod yX7_countsOf, Cond.selects RX7 yX7_countsOf yX7_countsOf, Cond.code yX7_countsOf cX7_countsOf 4 (some .int), Cond.methodLink RX7 184 yX7_greatestOf, Cond.instanceMethod yX7_greatestOf, Cond.selects RX7 yX7_greatestOf yX7_greatestOf, Cond.code yX7_greatestOf cX7_greatestOf 3 (some .int), Cond.methodLink RX7 144 yX7_apart, Cond.static yX7_apart, Cond.code yX7_apart cX7_apart 3 (some .int), Cond.methodLink RX7 187 yX7_leastOf, Cond.instanceMethod yX7_leastOf, Cond.selects RX7 yX7_leastOf yX7_leastOf, Cond.code yX7_leastOf cX7_leastOf 5 (some .int), Cond.methodLink RX7 197 yX7_isNarrower, Cond.instanceMethod yX7_isNarrower, Cond.selects RX7 yX7_isNarrower yX7_isNarrower, Cond.code yX7_isNarrower cX7_isNarrower 7 (some .boolean), Cond.methodLink RX7 174 yX7_ends, Cond.static yX7_ends, Cond.code yX7_ends cX7_ends 5 (some .int)]
def wsX7_narrowed_r3 : List Cond := [Cond.methodLink RX7 168 yX7_least, Cond.static yX7_least, Cond.code yX7_least cX7_least 3 (some .int), Cond.methodLink RX7 164 yX7_common, Cond.static yX7_common, Cond.code yX7_common cX7_common 5 (some .int)]
def wsX7_narrowed : List Cond := .code yX7_narrowed cX7_narrowed 2 (some .int) :: ((wsX7_narrowed_r1 ++ (wsX7_narrowed_r2 ++ wsX7_narrowed_r3)) ++ wsX70)
def wsX7_keep : List Cond := .code yX7_keep cX7_keep 3 (some .int) :: ([.fieldLink RX7 1 "PulseTurnsModel" "thrown" "I", .fieldLink RX7 59 "PulseTurnsModel" "kept" "[I", .fieldLink RX7 46 "PulseTurnsModel" "now" "[I", .fieldLink RX7 55 "PulseTurnsModel" "isKept" "[Z", .methodLink RX7 9 yX7_in, .static yX7_in, .initialized RX7, .code yX7_in cX7_in 6 (some .boolean)] ++ wsX70)
def wsX7_back : List Cond := .code yX7_back cX7_back 3 (some .int) :: ([.fieldLink RX7 1 "PulseTurnsModel" "thrown" "I", .fieldLink RX7 55 "PulseTurnsModel" "isKept" "[Z", .fieldLink RX7 46 "PulseTurnsModel" "now" "[I", .fieldLink RX7 59 "PulseTurnsModel" "kept" "[I", .fieldLink RX7 116 "PulseTurnsModel" "acts" "I", .methodLink RX7 9 yX7_in, .static yX7_in, .initialized RX7, .code yX7_in cX7_in 6 (some .boolean)] ++ wsX70)
def wsX7_certain_r1 : List Cond := [Cond.fieldLink RX7 46 "PulseTurnsModel" "now" "[I", Cond.fieldLink RX7 83 "PulseTurnsModel" "first" "[I", Cond.fieldLink RX7 65 "PulseTurnsModel" "number" "[I", Cond.methodLink RX7 154 yX7_begin, Cond.instanceMethod yX7_begin, Cond.selects RX7 yX7_begin yX7_begin, Cond.initialized RX7, Cond.code yX7_begin cX7_begin 2 none, Cond.fieldLink RX7 62 "PulseTurnsModel" "heard" "[I", Cond.fieldLink RX7 141 "PulseTurnsModel" "level" "I", Cond.fieldLink RX7 68 "PulseTurnsModel" "lowUp" "[I", Cond.fieldLink RX7 71 "PulseTurnsModel" "lowDown" "[I", Cond.fieldLink RX7 74 "PulseTurnsModel" "highUp" "[I", Cond.fieldLink RX7 77 "PulseTurnsModel" "highDown" "[I", Cond.methodLink RX7 112 yX7_copyAll, Cond.static yX7_copyAll, Cond.code yX7_copyAll cX7_copyAll 3 none, Cond.methodLink RX7 158 yX7_goesOn, Cond.instanceMethod yX7_goesOn, Cond.selects RX7 yX7_goesOn yX7_goesOn, Cond.code yX7_goesOn cX7_goesOn 3 (some .boolean), Cond.methodLink RX7 148 yX7_isBeyond, Cond.instanceMethod yX7_isBeyond, Cond.selects RX7 yX7_isBeyond yX7_isBeyond]
def wsX7_certain_r2 : List Cond := [Cond.code yX7_isBeyond cX7_isBeyond 2 (some .boolean), Cond.methodLink RX7 144 yX7_apart, Cond.static yX7_apart, Cond.code yX7_apart cX7_apart 3 (some .int), Cond.methodLink RX7 151 yX7_doesCut, Cond.instanceMethod yX7_doesCut, Cond.selects RX7 yX7_doesCut yX7_doesCut, Cond.code yX7_doesCut cX7_doesCut 7 (some .boolean)]
def wsX7_certain : List Cond := .code yX7_certain cX7_certain 4 (some .int) :: ((wsX7_certain_r1 ++ wsX7_certain_r2) ++ wsX70)
def wsX7_count_r1 : List Cond := [Cond.fieldLink RX7 1 "PulseTurnsModel" "thrown" "I", Cond.fieldLink RX7 46 "PulseTurnsModel" "now" "[I", Cond.fieldLink RX7 13 "PulseTurnsModel" "many" "I", Cond.fieldLink RX7 116 "PulseTurnsModel" "acts" "I", Cond.methodLink RX7 137 yX7_standing, Cond.instanceMethod yX7_standing, Cond.selects RX7 yX7_standing yX7_standing, Cond.initialized RX7, Cond.code yX7_standing cX7_standing 3 (some .int), Cond.methodLink RX7 154 yX7_begin, Cond.instanceMethod yX7_begin, Cond.selects RX7 yX7_begin yX7_begin, Cond.code yX7_begin cX7_begin 2 none, Cond.fieldLink RX7 62 "PulseTurnsModel" "heard" "[I", Cond.fieldLink RX7 141 "PulseTurnsModel" "level" "I", Cond.fieldLink RX7 65 "PulseTurnsModel" "number" "[I", Cond.fieldLink RX7 68 "PulseTurnsModel" "lowUp" "[I", Cond.fieldLink RX7 71 "PulseTurnsModel" "lowDown" "[I", Cond.fieldLink RX7 74 "PulseTurnsModel" "highUp" "[I", Cond.fieldLink RX7 77 "PulseTurnsModel" "highDown" "[I", Cond.methodLink RX7 112 yX7_copyAll, Cond.static yX7_copyAll, Cond.code yX7_copyAll cX7_copyAll 3 none, Cond.methodLink RX7 158 yX7_goesOn]
def wsX7_count_r2 : List Cond := [Cond.instanceMethod yX7_goesOn, Cond.selects RX7 yX7_goesOn yX7_goesOn, Cond.code yX7_goesOn cX7_goesOn 3 (some .boolean), Cond.methodLink RX7 148 yX7_isBeyond, Cond.instanceMethod yX7_isBeyond, Cond.selects RX7 yX7_isBeyond yX7_isBeyond, Cond.code yX7_isBeyond cX7_isBeyond 2 (some .boolean), Cond.methodLink RX7 144 yX7_apart, Cond.static yX7_apart, Cond.code yX7_apart cX7_apart 3 (some .int), Cond.methodLink RX7 151 yX7_doesCut, Cond.instanceMethod yX7_doesCut, Cond.selects RX7 yX7_doesCut yX7_doesCut, Cond.code yX7_doesCut cX7_doesCut 7 (some .boolean), Cond.methodLink RX7 203 yX7_certain, Cond.instanceMethod yX7_certain, Cond.selects RX7 yX7_certain yX7_certain, Cond.code yX7_certain cX7_certain 4 (some .int), Cond.fieldLink RX7 83 "PulseTurnsModel" "first" "[I"]
def wsX7_count : List Cond := .code yX7_count cX7_count 2 (some .int) :: ((wsX7_count_r1 ++ wsX7_count_r2) ++ wsX70)
def wsJ9_abs_0f7a4 : List Cond := .code yJ9_abs_0f7a4 cJ9_abs_0f7a4 1 (some .int) :: ([])
def wsJ9_max_7cf53 : List Cond := .code yJ9_max_7cf53 cJ9_max_7cf53 2 (some .int) :: ([])
def wsJ9_min_7cf53 : List Cond := .code yJ9_min_7cf53 cJ9_min_7cf53 2 (some .int) :: ([])
set_option maxRecDepth 20000 in
theorem ggX0_part_X0_commonDivisor : GoodIn wsX0_part wsX0_commonDivisor := goodIn_r _ [8, 9] (by decide +kernel) (by decide +kernel)
set_option maxRecDepth 20000 in
theorem gX0_part_X0_commonDivisor : GoodIn wsX0_part (va_wsS RX0 15 yX0_commonDivisor wsX0_commonDivisor) := goodIn_app (goodIn_of _ (by decide +kernel)) ggX0_part_X0_commonDivisor
theorem dX0_part_0 : decode cX0_part 0 = .ok (.iload_n 0, 1) := by decide +kernel
theorem dX0_part_1 : decode cX0_part 1 = .ok (.invokestatic 9, 3) := by decide +kernel
theorem dX0_part_4 : decode cX0_part 4 = .ok (.iload_n 1, 1) := by decide +kernel
theorem dX0_part_5 : decode cX0_part 5 = .ok (.invokestatic 15, 3) := by decide +kernel
theorem dX0_part_8 : decode cX0_part 8 = .ok (.istore_n 3, 1) := by decide +kernel
theorem dX0_part_9 : decode cX0_part 9 = .ok (.iload_n 3, 1) := by decide +kernel
theorem dX0_part_10 : decode cX0_part 10 = .ok (.ifCond .gt 5, 3) := by decide +kernel
theorem dX0_part_13 : decode cX0_part 13 = .ok (.iconst 0, 1) := by decide +kernel
theorem dX0_part_14 : decode cX0_part 14 = .ok (.ireturn, 1) := by decide +kernel
theorem dX0_part_15 : decode cX0_part 15 = .ok (.iload_n 2, 1) := by decide +kernel
theorem dX0_part_16 : decode cX0_part 16 = .ok (.ifCond .ne 9, 3) := by decide +kernel
theorem dX0_part_19 : decode cX0_part 19 = .ok (.iload_n 0, 1) := by decide +kernel
theorem dX0_part_20 : decode cX0_part 20 = .ok (.iload_n 3, 1) := by decide +kernel
theorem dX0_part_21 : decode cX0_part 21 = .ok (.idiv, 1) := by decide +kernel
theorem dX0_part_22 : decode cX0_part 22 = .ok (.goto 6, 3) := by decide +kernel
theorem dX0_part_25 : decode cX0_part 25 = .ok (.iload_n 1, 1) := by decide +kernel
theorem dX0_part_26 : decode cX0_part 26 = .ok (.iload_n 3, 1) := by decide +kernel
theorem dX0_part_27 : decode cX0_part 27 = .ok (.idiv, 1) := by decide +kernel
theorem dX0_part_28 : decode cX0_part 28 = .ok (.ireturn, 1) := by decide +kernel
theorem dX0_commonDivisor_0 : decode cX0_commonDivisor 0 = .ok (.iload_n 0, 1) := by decide +kernel
theorem dX0_commonDivisor_1 : decode cX0_commonDivisor 1 = .ok (.istore_n 2, 1) := by decide +kernel
theorem dX0_commonDivisor_2 : decode cX0_commonDivisor 2 = .ok (.iload_n 1, 1) := by decide +kernel
theorem dX0_commonDivisor_3 : decode cX0_commonDivisor 3 = .ok (.istore_n 3, 1) := by decide +kernel
theorem dX0_commonDivisor_4 : decode cX0_commonDivisor 4 = .ok (.iconst 0, 1) := by decide +kernel
theorem dX0_commonDivisor_5 : decode cX0_commonDivisor 5 = .ok (.istore 4, 2) := by decide +kernel
theorem dX0_commonDivisor_7 : decode cX0_commonDivisor 7 = .ok (.iload 4, 2) := by decide +kernel
theorem dX0_commonDivisor_9 : decode cX0_commonDivisor 9 = .ok (.ldc 21, 2) := by decide +kernel
theorem dX0_commonDivisor_11 : decode cX0_commonDivisor 11 = .ok (.if_icmp .ge 23, 3) := by decide +kernel
theorem dX0_commonDivisor_14 : decode cX0_commonDivisor 14 = .ok (.iload_n 3, 1) := by decide +kernel
theorem dX0_commonDivisor_15 : decode cX0_commonDivisor 15 = .ok (.ifCond .eq 19, 3) := by decide +kernel
theorem dX0_commonDivisor_18 : decode cX0_commonDivisor 18 = .ok (.iload_n 2, 1) := by decide +kernel
theorem dX0_commonDivisor_19 : decode cX0_commonDivisor 19 = .ok (.iload_n 3, 1) := by decide +kernel
theorem dX0_commonDivisor_20 : decode cX0_commonDivisor 20 = .ok (.irem, 1) := by decide +kernel
theorem dX0_commonDivisor_21 : decode cX0_commonDivisor 21 = .ok (.istore 5, 2) := by decide +kernel
theorem dX0_commonDivisor_23 : decode cX0_commonDivisor 23 = .ok (.iload_n 3, 1) := by decide +kernel
theorem dX0_commonDivisor_24 : decode cX0_commonDivisor 24 = .ok (.istore_n 2, 1) := by decide +kernel
theorem dX0_commonDivisor_25 : decode cX0_commonDivisor 25 = .ok (.iload 5, 2) := by decide +kernel
theorem dX0_commonDivisor_27 : decode cX0_commonDivisor 27 = .ok (.istore_n 3, 1) := by decide +kernel
theorem dX0_commonDivisor_28 : decode cX0_commonDivisor 28 = .ok (.iinc 4 1, 3) := by decide +kernel
theorem dX0_commonDivisor_31 : decode cX0_commonDivisor 31 = .ok (.goto (-24), 3) := by decide +kernel
theorem dX0_commonDivisor_34 : decode cX0_commonDivisor 34 = .ok (.iload_n 2, 1) := by decide +kernel
theorem dX0_commonDivisor_35 : decode cX0_commonDivisor 35 = .ok (.ireturn, 1) := by decide +kernel
set_option maxRecDepth 20000 in
theorem ggX1_init_X1_reset : GoodIn wsX1_init wsX1_reset := goodIn_r _ [10, 11, 12, 13, 14, 15, 16, 17, 18, 19] (by decide +kernel) (by decide +kernel)
set_option maxRecDepth 20000 in
theorem gX1_init_X1_reset : GoodIn wsX1_init (wsV RX1 15 RX1 yX1_reset wsX1_reset) := goodIn_app (goodIn_of _ (by decide +kernel)) ggX1_init_X1_reset
theorem dX1_init_0 : decode cX1_init 0 = .ok (.aload_n 0, 1) := by decide +kernel
theorem dX1_init_1 : decode cX1_init 1 = .ok (.invokespecial 3, 3) := by decide +kernel
theorem dX1_init_4 : decode cX1_init 4 = .ok (.aload_n 0, 1) := by decide +kernel
theorem dX1_init_5 : decode cX1_init 5 = .ok (.bipush 7, 2) := by decide +kernel
theorem dX1_init_7 : decode cX1_init 7 = .ok (.newarray .int, 2) := by decide +kernel
theorem dX1_init_9 : decode cX1_init 9 = .ok (.putfield 9, 3) := by decide +kernel
theorem dX1_init_12 : decode cX1_init 12 = .ok (.aload_n 0, 1) := by decide +kernel
theorem dX1_init_13 : decode cX1_init 13 = .ok (.invokevirtual 15, 3) := by decide +kernel
theorem dX1_init_16 : decode cX1_init 16 = .ok (.return_, 1) := by decide +kernel
theorem dX1_reset_0 : decode cX1_reset 0 = .ok (.aload_n 0, 1) := by decide +kernel
theorem dX1_reset_1 : decode cX1_reset 1 = .ok (.iconst 0, 1) := by decide +kernel
theorem dX1_reset_2 : decode cX1_reset 2 = .ok (.putfield 18, 3) := by decide +kernel
theorem dX1_reset_5 : decode cX1_reset 5 = .ok (.aload_n 0, 1) := by decide +kernel
theorem dX1_reset_6 : decode cX1_reset 6 = .ok (.bipush 100, 2) := by decide +kernel
theorem dX1_reset_8 : decode cX1_reset 8 = .ok (.putfield 22, 3) := by decide +kernel
theorem dX1_reset_11 : decode cX1_reset 11 = .ok (.aload_n 0, 1) := by decide +kernel
theorem dX1_reset_12 : decode cX1_reset 12 = .ok (.sipush 200, 3) := by decide +kernel
theorem dX1_reset_15 : decode cX1_reset 15 = .ok (.putfield 25, 3) := by decide +kernel
theorem dX1_reset_18 : decode cX1_reset 18 = .ok (.aload_n 0, 1) := by decide +kernel
theorem dX1_reset_19 : decode cX1_reset 19 = .ok (.iconst 2, 1) := by decide +kernel
theorem dX1_reset_20 : decode cX1_reset 20 = .ok (.putfield 28, 3) := by decide +kernel
theorem dX1_reset_23 : decode cX1_reset 23 = .ok (.return_, 1) := by decide +kernel
theorem dX1_take_0 : decode cX1_take 0 = .ok (.iconst 0, 1) := by decide +kernel
theorem dX1_take_1 : decode cX1_take 1 = .ok (.istore_n 2, 1) := by decide +kernel
theorem dX1_take_2 : decode cX1_take 2 = .ok (.iload_n 2, 1) := by decide +kernel
theorem dX1_take_3 : decode cX1_take 3 = .ok (.bipush 7, 2) := by decide +kernel
theorem dX1_take_5 : decode cX1_take 5 = .ok (.if_icmp .ge 21, 3) := by decide +kernel
theorem dX1_take_8 : decode cX1_take 8 = .ok (.aload_n 0, 1) := by decide +kernel
theorem dX1_take_9 : decode cX1_take 9 = .ok (.getfield 9, 3) := by decide +kernel
theorem dX1_take_12 : decode cX1_take 12 = .ok (.iload_n 2, 1) := by decide +kernel
theorem dX1_take_13 : decode cX1_take 13 = .ok (.aload_n 1, 1) := by decide +kernel
theorem dX1_take_14 : decode cX1_take 14 = .ok (.getfield 9, 3) := by decide +kernel
theorem dX1_take_17 : decode cX1_take 17 = .ok (.iload_n 2, 1) := by decide +kernel
theorem dX1_take_18 : decode cX1_take 18 = .ok (.iaload, 1) := by decide +kernel
theorem dX1_take_19 : decode cX1_take 19 = .ok (.iastore, 1) := by decide +kernel
theorem dX1_take_20 : decode cX1_take 20 = .ok (.iinc 2 1, 3) := by decide +kernel
theorem dX1_take_23 : decode cX1_take 23 = .ok (.goto (-21), 3) := by decide +kernel
theorem dX1_take_26 : decode cX1_take 26 = .ok (.aload_n 0, 1) := by decide +kernel
theorem dX1_take_27 : decode cX1_take 27 = .ok (.aload_n 1, 1) := by decide +kernel
theorem dX1_take_28 : decode cX1_take 28 = .ok (.getfield 18, 3) := by decide +kernel
theorem dX1_take_31 : decode cX1_take 31 = .ok (.putfield 18, 3) := by decide +kernel
theorem dX1_take_34 : decode cX1_take 34 = .ok (.aload_n 0, 1) := by decide +kernel
theorem dX1_take_35 : decode cX1_take 35 = .ok (.aload_n 1, 1) := by decide +kernel
theorem dX1_take_36 : decode cX1_take 36 = .ok (.getfield 22, 3) := by decide +kernel
theorem dX1_take_39 : decode cX1_take 39 = .ok (.putfield 22, 3) := by decide +kernel
theorem dX1_take_42 : decode cX1_take 42 = .ok (.aload_n 0, 1) := by decide +kernel
theorem dX1_take_43 : decode cX1_take 43 = .ok (.aload_n 1, 1) := by decide +kernel
theorem dX1_take_44 : decode cX1_take 44 = .ok (.getfield 25, 3) := by decide +kernel
theorem dX1_take_47 : decode cX1_take 47 = .ok (.putfield 25, 3) := by decide +kernel
theorem dX1_take_50 : decode cX1_take 50 = .ok (.aload_n 0, 1) := by decide +kernel
theorem dX1_take_51 : decode cX1_take 51 = .ok (.aload_n 1, 1) := by decide +kernel
theorem dX1_take_52 : decode cX1_take 52 = .ok (.getfield 28, 3) := by decide +kernel
theorem dX1_take_55 : decode cX1_take 55 = .ok (.putfield 28, 3) := by decide +kernel
theorem dX1_take_58 : decode cX1_take 58 = .ok (.return_, 1) := by decide +kernel
theorem dX1_hasArrival_0 : decode cX1_hasArrival 0 = .ok (.iload_n 1, 1) := by decide +kernel
theorem dX1_hasArrival_1 : decode cX1_hasArrival 1 = .ok (.ifCond .lt 21, 3) := by decide +kernel
theorem dX1_hasArrival_4 : decode cX1_hasArrival 4 = .ok (.iload_n 1, 1) := by decide +kernel
theorem dX1_hasArrival_5 : decode cX1_hasArrival 5 = .ok (.aload_n 0, 1) := by decide +kernel
theorem dX1_hasArrival_6 : decode cX1_hasArrival 6 = .ok (.getfield 18, 3) := by decide +kernel
theorem dX1_hasArrival_9 : decode cX1_hasArrival 9 = .ok (.if_icmp .ge 13, 3) := by decide +kernel
theorem dX1_hasArrival_12 : decode cX1_hasArrival 12 = .ok (.iload_n 1, 1) := by decide +kernel
theorem dX1_hasArrival_13 : decode cX1_hasArrival 13 = .ok (.bipush 7, 2) := by decide +kernel
theorem dX1_hasArrival_15 : decode cX1_hasArrival 15 = .ok (.if_icmp .ge 7, 3) := by decide +kernel
theorem dX1_hasArrival_18 : decode cX1_hasArrival 18 = .ok (.iconst 1, 1) := by decide +kernel
theorem dX1_hasArrival_19 : decode cX1_hasArrival 19 = .ok (.goto 4, 3) := by decide +kernel
theorem dX1_hasArrival_22 : decode cX1_hasArrival 22 = .ok (.iconst 0, 1) := by decide +kernel
theorem dX1_hasArrival_23 : decode cX1_hasArrival 23 = .ok (.ireturn, 1) := by decide +kernel
theorem dX1_hears_0 : decode cX1_hears 0 = .ok (.iconst 0, 1) := by decide +kernel
theorem dX1_hears_1 : decode cX1_hears 1 = .ok (.istore_n 2, 1) := by decide +kernel
theorem dX1_hears_2 : decode cX1_hears 2 = .ok (.iload_n 2, 1) := by decide +kernel
theorem dX1_hears_3 : decode cX1_hears 3 = .ok (.aload_n 0, 1) := by decide +kernel
theorem dX1_hears_4 : decode cX1_hears 4 = .ok (.getfield 18, 3) := by decide +kernel
theorem dX1_hears_7 : decode cX1_hears 7 = .ok (.if_icmp .ge 21, 3) := by decide +kernel
theorem dX1_hears_10 : decode cX1_hears 10 = .ok (.aload_n 0, 1) := by decide +kernel
theorem dX1_hears_11 : decode cX1_hears 11 = .ok (.getfield 9, 3) := by decide +kernel
theorem dX1_hears_14 : decode cX1_hears 14 = .ok (.iload_n 2, 1) := by decide +kernel
theorem dX1_hears_15 : decode cX1_hears 15 = .ok (.iaload, 1) := by decide +kernel
theorem dX1_hears_16 : decode cX1_hears 16 = .ok (.iload_n 1, 1) := by decide +kernel
theorem dX1_hears_17 : decode cX1_hears 17 = .ok (.if_icmp .ne 5, 3) := by decide +kernel
theorem dX1_hears_20 : decode cX1_hears 20 = .ok (.iconst 1, 1) := by decide +kernel
theorem dX1_hears_21 : decode cX1_hears 21 = .ok (.ireturn, 1) := by decide +kernel
theorem dX1_hears_22 : decode cX1_hears 22 = .ok (.iinc 2 1, 3) := by decide +kernel
theorem dX1_hears_25 : decode cX1_hears 25 = .ok (.goto (-23), 3) := by decide +kernel
theorem dX1_hears_28 : decode cX1_hears 28 = .ok (.iconst 0, 1) := by decide +kernel
theorem dX1_hears_29 : decode cX1_hears 29 = .ok (.ireturn, 1) := by decide +kernel
theorem dX1_place_0 : decode cX1_place 0 = .ok (.aload_n 0, 1) := by decide +kernel
theorem dX1_place_1 : decode cX1_place 1 = .ok (.getfield 18, 3) := by decide +kernel
theorem dX1_place_4 : decode cX1_place 4 = .ok (.bipush 7, 2) := by decide +kernel
theorem dX1_place_6 : decode cX1_place 6 = .ok (.if_icmp .lt 6, 3) := by decide +kernel
theorem dX1_place_9 : decode cX1_place 9 = .ok (.bipush (-3), 2) := by decide +kernel
theorem dX1_place_11 : decode cX1_place 11 = .ok (.ireturn, 1) := by decide +kernel
theorem dX1_place_12 : decode cX1_place 12 = .ok (.aload_n 0, 1) := by decide +kernel
theorem dX1_place_13 : decode cX1_place 13 = .ok (.getfield 18, 3) := by decide +kernel
theorem dX1_place_16 : decode cX1_place 16 = .ok (.istore_n 2, 1) := by decide +kernel
theorem dX1_place_17 : decode cX1_place 17 = .ok (.aload_n 0, 1) := by decide +kernel
theorem dX1_place_18 : decode cX1_place 18 = .ok (.getfield 18, 3) := by decide +kernel
theorem dX1_place_21 : decode cX1_place 21 = .ok (.iconst 1, 1) := by decide +kernel
theorem dX1_place_22 : decode cX1_place 22 = .ok (.isub, 1) := by decide +kernel
theorem dX1_place_23 : decode cX1_place 23 = .ok (.istore_n 3, 1) := by decide +kernel
theorem dX1_place_24 : decode cX1_place 24 = .ok (.iload_n 3, 1) := by decide +kernel
theorem dX1_place_25 : decode cX1_place 25 = .ok (.ifCond .lt 35, 3) := by decide +kernel
theorem dX1_place_28 : decode cX1_place 28 = .ok (.aload_n 0, 1) := by decide +kernel
theorem dX1_place_29 : decode cX1_place 29 = .ok (.getfield 9, 3) := by decide +kernel
theorem dX1_place_32 : decode cX1_place 32 = .ok (.iload_n 3, 1) := by decide +kernel
theorem dX1_place_33 : decode cX1_place 33 = .ok (.iaload, 1) := by decide +kernel
theorem dX1_place_34 : decode cX1_place 34 = .ok (.iload_n 1, 1) := by decide +kernel
theorem dX1_place_35 : decode cX1_place 35 = .ok (.if_icmp .le 25, 3) := by decide +kernel
theorem dX1_place_38 : decode cX1_place 38 = .ok (.aload_n 0, 1) := by decide +kernel
theorem dX1_place_39 : decode cX1_place 39 = .ok (.getfield 9, 3) := by decide +kernel
theorem dX1_place_42 : decode cX1_place 42 = .ok (.iload_n 3, 1) := by decide +kernel
theorem dX1_place_43 : decode cX1_place 43 = .ok (.iconst 1, 1) := by decide +kernel
theorem dX1_place_44 : decode cX1_place 44 = .ok (.iadd, 1) := by decide +kernel
theorem dX1_place_45 : decode cX1_place 45 = .ok (.aload_n 0, 1) := by decide +kernel
theorem dX1_place_46 : decode cX1_place 46 = .ok (.getfield 9, 3) := by decide +kernel
theorem dX1_place_49 : decode cX1_place 49 = .ok (.iload_n 3, 1) := by decide +kernel
theorem dX1_place_50 : decode cX1_place 50 = .ok (.iaload, 1) := by decide +kernel
theorem dX1_place_51 : decode cX1_place 51 = .ok (.iastore, 1) := by decide +kernel
theorem dX1_place_52 : decode cX1_place 52 = .ok (.iload_n 3, 1) := by decide +kernel
theorem dX1_place_53 : decode cX1_place 53 = .ok (.istore_n 2, 1) := by decide +kernel
theorem dX1_place_54 : decode cX1_place 54 = .ok (.iinc 3 (-1), 3) := by decide +kernel
theorem dX1_place_57 : decode cX1_place 57 = .ok (.goto (-33), 3) := by decide +kernel
theorem dX1_place_60 : decode cX1_place 60 = .ok (.aload_n 0, 1) := by decide +kernel
theorem dX1_place_61 : decode cX1_place 61 = .ok (.getfield 9, 3) := by decide +kernel
theorem dX1_place_64 : decode cX1_place 64 = .ok (.iload_n 2, 1) := by decide +kernel
theorem dX1_place_65 : decode cX1_place 65 = .ok (.iload_n 1, 1) := by decide +kernel
theorem dX1_place_66 : decode cX1_place 66 = .ok (.iastore, 1) := by decide +kernel
theorem dX1_place_67 : decode cX1_place 67 = .ok (.aload_n 0, 1) := by decide +kernel
theorem dX1_place_68 : decode cX1_place 68 = .ok (.dup, 1) := by decide +kernel
theorem dX1_place_69 : decode cX1_place 69 = .ok (.getfield 18, 3) := by decide +kernel
theorem dX1_place_72 : decode cX1_place 72 = .ok (.iconst 1, 1) := by decide +kernel
theorem dX1_place_73 : decode cX1_place 73 = .ok (.iadd, 1) := by decide +kernel
theorem dX1_place_74 : decode cX1_place 74 = .ok (.putfield 18, 3) := by decide +kernel
theorem dX1_place_77 : decode cX1_place 77 = .ok (.iload_n 2, 1) := by decide +kernel
theorem dX1_place_78 : decode cX1_place 78 = .ok (.ireturn, 1) := by decide +kernel
set_option maxRecDepth 20000 in
theorem ggX1_drop_X1_hasArrival : GoodIn wsX1_drop wsX1_hasArrival := goodIn_r _ [7, 2, 8, 9, 10, 11, 12] (by decide +kernel) (by decide +kernel)
set_option maxRecDepth 20000 in
theorem gX1_drop_X1_hasArrival : GoodIn wsX1_drop (wsV RX1 31 RX1 yX1_hasArrival wsX1_hasArrival) := goodIn_app (goodIn_of _ (by decide +kernel)) ggX1_drop_X1_hasArrival
theorem dX1_drop_0 : decode cX1_drop 0 = .ok (.aload_n 0, 1) := by decide +kernel
theorem dX1_drop_1 : decode cX1_drop 1 = .ok (.iload_n 1, 1) := by decide +kernel
theorem dX1_drop_2 : decode cX1_drop 2 = .ok (.invokevirtual 31, 3) := by decide +kernel
theorem dX1_drop_5 : decode cX1_drop 5 = .ok (.ifCond .ne 5, 3) := by decide +kernel
theorem dX1_drop_8 : decode cX1_drop 8 = .ok (.iconst (-1), 1) := by decide +kernel
theorem dX1_drop_9 : decode cX1_drop 9 = .ok (.ireturn, 1) := by decide +kernel
theorem dX1_drop_10 : decode cX1_drop 10 = .ok (.aload_n 0, 1) := by decide +kernel
theorem dX1_drop_11 : decode cX1_drop 11 = .ok (.getfield 9, 3) := by decide +kernel
theorem dX1_drop_14 : decode cX1_drop 14 = .ok (.iload_n 1, 1) := by decide +kernel
theorem dX1_drop_15 : decode cX1_drop 15 = .ok (.iaload, 1) := by decide +kernel
theorem dX1_drop_16 : decode cX1_drop 16 = .ok (.istore_n 2, 1) := by decide +kernel
theorem dX1_drop_17 : decode cX1_drop 17 = .ok (.iload_n 1, 1) := by decide +kernel
theorem dX1_drop_18 : decode cX1_drop 18 = .ok (.istore_n 3, 1) := by decide +kernel
theorem dX1_drop_19 : decode cX1_drop 19 = .ok (.iload_n 3, 1) := by decide +kernel
theorem dX1_drop_20 : decode cX1_drop 20 = .ok (.aload_n 0, 1) := by decide +kernel
theorem dX1_drop_21 : decode cX1_drop 21 = .ok (.getfield 18, 3) := by decide +kernel
theorem dX1_drop_24 : decode cX1_drop 24 = .ok (.iconst 1, 1) := by decide +kernel
theorem dX1_drop_25 : decode cX1_drop 25 = .ok (.isub, 1) := by decide +kernel
theorem dX1_drop_26 : decode cX1_drop 26 = .ok (.if_icmp .ge 23, 3) := by decide +kernel
theorem dX1_drop_29 : decode cX1_drop 29 = .ok (.aload_n 0, 1) := by decide +kernel
theorem dX1_drop_30 : decode cX1_drop 30 = .ok (.getfield 9, 3) := by decide +kernel
theorem dX1_drop_33 : decode cX1_drop 33 = .ok (.iload_n 3, 1) := by decide +kernel
theorem dX1_drop_34 : decode cX1_drop 34 = .ok (.aload_n 0, 1) := by decide +kernel
theorem dX1_drop_35 : decode cX1_drop 35 = .ok (.getfield 9, 3) := by decide +kernel
theorem dX1_drop_38 : decode cX1_drop 38 = .ok (.iload_n 3, 1) := by decide +kernel
theorem dX1_drop_39 : decode cX1_drop 39 = .ok (.iconst 1, 1) := by decide +kernel
theorem dX1_drop_40 : decode cX1_drop 40 = .ok (.iadd, 1) := by decide +kernel
theorem dX1_drop_41 : decode cX1_drop 41 = .ok (.iaload, 1) := by decide +kernel
theorem dX1_drop_42 : decode cX1_drop 42 = .ok (.iastore, 1) := by decide +kernel
theorem dX1_drop_43 : decode cX1_drop 43 = .ok (.iinc 3 1, 3) := by decide +kernel
theorem dX1_drop_46 : decode cX1_drop 46 = .ok (.goto (-27), 3) := by decide +kernel
theorem dX1_drop_49 : decode cX1_drop 49 = .ok (.aload_n 0, 1) := by decide +kernel
theorem dX1_drop_50 : decode cX1_drop 50 = .ok (.dup, 1) := by decide +kernel
theorem dX1_drop_51 : decode cX1_drop 51 = .ok (.getfield 18, 3) := by decide +kernel
theorem dX1_drop_54 : decode cX1_drop 54 = .ok (.iconst 1, 1) := by decide +kernel
theorem dX1_drop_55 : decode cX1_drop 55 = .ok (.isub, 1) := by decide +kernel
theorem dX1_drop_56 : decode cX1_drop 56 = .ok (.putfield 18, 3) := by decide +kernel
theorem dX1_drop_59 : decode cX1_drop 59 = .ok (.iload_n 2, 1) := by decide +kernel
theorem dX1_drop_60 : decode cX1_drop 60 = .ok (.ireturn, 1) := by decide +kernel
set_option maxRecDepth 20000 in
theorem ggX2_init_X4_init : GoodIn wsX2_init wsX4_init := goodIn_r _ [13, 14, 2, 3, 15, 16, 17, 18, 27, 28, 29, 30] (by decide +kernel) (by decide +kernel)
set_option maxRecDepth 20000 in
theorem gX2_init_X4_init_n27 : GoodIn wsX2_init (wsX4_init) := ggX2_init_X4_init
theorem dX2_init_0 : decode cX2_init 0 = .ok (.aload_n 0, 1) := by decide +kernel
theorem dX2_init_1 : decode cX2_init 1 = .ok (.invokespecial 3, 3) := by decide +kernel
theorem dX2_init_4 : decode cX2_init 4 = .ok (.aload_n 0, 1) := by decide +kernel
theorem dX2_init_5 : decode cX2_init 5 = .ok (.bipush 7, 2) := by decide +kernel
theorem dX2_init_7 : decode cX2_init 7 = .ok (.newarray .int, 2) := by decide +kernel
theorem dX2_init_9 : decode cX2_init 9 = .ok (.putfield 9, 3) := by decide +kernel
theorem dX2_init_12 : decode cX2_init 12 = .ok (.aload_n 0, 1) := by decide +kernel
theorem dX2_init_13 : decode cX2_init 13 = .ok (.bipush 7, 2) := by decide +kernel
theorem dX2_init_15 : decode cX2_init 15 = .ok (.newarray .int, 2) := by decide +kernel
theorem dX2_init_17 : decode cX2_init 17 = .ok (.putfield 15, 3) := by decide +kernel
theorem dX2_init_20 : decode cX2_init 20 = .ok (.aload_n 0, 1) := by decide +kernel
theorem dX2_init_21 : decode cX2_init 21 = .ok (.bipush 7, 2) := by decide +kernel
theorem dX2_init_23 : decode cX2_init 23 = .ok (.newarray .int, 2) := by decide +kernel
theorem dX2_init_25 : decode cX2_init 25 = .ok (.putfield 18, 3) := by decide +kernel
theorem dX2_init_28 : decode cX2_init 28 = .ok (.aload_n 0, 1) := by decide +kernel
theorem dX2_init_29 : decode cX2_init 29 = .ok (.bipush 7, 2) := by decide +kernel
theorem dX2_init_31 : decode cX2_init 31 = .ok (.anewarray 21, 3) := by decide +kernel
theorem dX2_init_34 : decode cX2_init 34 = .ok (.putfield 23, 3) := by decide +kernel
theorem dX2_init_37 : decode cX2_init 37 = .ok (.iconst 0, 1) := by decide +kernel
theorem dX2_init_38 : decode cX2_init 38 = .ok (.istore_n 1, 1) := by decide +kernel
theorem dX2_init_39 : decode cX2_init 39 = .ok (.iload_n 1, 1) := by decide +kernel
theorem dX2_init_40 : decode cX2_init 40 = .ok (.bipush 7, 2) := by decide +kernel
theorem dX2_init_42 : decode cX2_init 42 = .ok (.if_icmp .ge 22, 3) := by decide +kernel
theorem dX2_init_45 : decode cX2_init 45 = .ok (.aload_n 0, 1) := by decide +kernel
theorem dX2_init_46 : decode cX2_init 46 = .ok (.getfield 23, 3) := by decide +kernel
theorem dX2_init_49 : decode cX2_init 49 = .ok (.iload_n 1, 1) := by decide +kernel
theorem dX2_init_50 : decode cX2_init 50 = .ok (.new 21, 3) := by decide +kernel
theorem dX2_init_53 : decode cX2_init 53 = .ok (.dup, 1) := by decide +kernel
theorem dX2_init_54 : decode cX2_init 54 = .ok (.invokespecial 27, 3) := by decide +kernel
theorem dX2_init_57 : decode cX2_init 57 = .ok (.aastore, 1) := by decide +kernel
theorem dX2_init_58 : decode cX2_init 58 = .ok (.iinc 1 1, 3) := by decide +kernel
theorem dX2_init_61 : decode cX2_init 61 = .ok (.goto (-22), 3) := by decide +kernel
theorem dX2_init_64 : decode cX2_init 64 = .ok (.return_, 1) := by decide +kernel
set_option maxRecDepth 20000 in
theorem ggX2_begin_X4_spread : GoodIn wsX2_begin wsX4_spread := goodIn_r _ [17, 18, 19, 20, 21, 35, 36, 37, 38] (by decide +kernel) (by decide +kernel)
set_option maxRecDepth 20000 in
theorem gX2_begin_X4_spread : GoodIn wsX2_begin (wsV RX2 55 RX4 yX4_spread wsX4_spread) := goodIn_app (goodIn_of _ (by decide +kernel)) ggX2_begin_X4_spread
theorem dX2_begin_0 : decode cX2_begin 0 = .ok (.iconst 0, 1) := by decide +kernel
theorem dX2_begin_1 : decode cX2_begin 1 = .ok (.istore_n 2, 1) := by decide +kernel
theorem dX2_begin_2 : decode cX2_begin 2 = .ok (.iload_n 2, 1) := by decide +kernel
theorem dX2_begin_3 : decode cX2_begin 3 = .ok (.bipush 7, 2) := by decide +kernel
theorem dX2_begin_5 : decode cX2_begin 5 = .ok (.if_icmp .ge 21, 3) := by decide +kernel
theorem dX2_begin_8 : decode cX2_begin 8 = .ok (.aload_n 0, 1) := by decide +kernel
theorem dX2_begin_9 : decode cX2_begin 9 = .ok (.getfield 9, 3) := by decide +kernel
theorem dX2_begin_12 : decode cX2_begin 12 = .ok (.iload_n 2, 1) := by decide +kernel
theorem dX2_begin_13 : decode cX2_begin 13 = .ok (.aload_n 1, 1) := by decide +kernel
theorem dX2_begin_14 : decode cX2_begin 14 = .ok (.getfield 28, 3) := by decide +kernel
theorem dX2_begin_17 : decode cX2_begin 17 = .ok (.iload_n 2, 1) := by decide +kernel
theorem dX2_begin_18 : decode cX2_begin 18 = .ok (.iaload, 1) := by decide +kernel
theorem dX2_begin_19 : decode cX2_begin 19 = .ok (.iastore, 1) := by decide +kernel
theorem dX2_begin_20 : decode cX2_begin 20 = .ok (.iinc 2 1, 3) := by decide +kernel
theorem dX2_begin_23 : decode cX2_begin 23 = .ok (.goto (-21), 3) := by decide +kernel
theorem dX2_begin_26 : decode cX2_begin 26 = .ok (.aload_n 0, 1) := by decide +kernel
theorem dX2_begin_27 : decode cX2_begin 27 = .ok (.aload_n 1, 1) := by decide +kernel
theorem dX2_begin_28 : decode cX2_begin 28 = .ok (.getfield 31, 3) := by decide +kernel
theorem dX2_begin_31 : decode cX2_begin 31 = .ok (.putfield 35, 3) := by decide +kernel
theorem dX2_begin_34 : decode cX2_begin 34 = .ok (.aload_n 0, 1) := by decide +kernel
theorem dX2_begin_35 : decode cX2_begin 35 = .ok (.iconst 2, 1) := by decide +kernel
theorem dX2_begin_36 : decode cX2_begin 36 = .ok (.aload_n 1, 1) := by decide +kernel
theorem dX2_begin_37 : decode cX2_begin 37 = .ok (.getfield 36, 3) := by decide +kernel
theorem dX2_begin_40 : decode cX2_begin 40 = .ok (.imul, 1) := by decide +kernel
theorem dX2_begin_41 : decode cX2_begin 41 = .ok (.putfield 39, 3) := by decide +kernel
theorem dX2_begin_44 : decode cX2_begin 44 = .ok (.aload_n 0, 1) := by decide +kernel
theorem dX2_begin_45 : decode cX2_begin 45 = .ok (.iconst 0, 1) := by decide +kernel
theorem dX2_begin_46 : decode cX2_begin 46 = .ok (.putfield 42, 3) := by decide +kernel
theorem dX2_begin_49 : decode cX2_begin 49 = .ok (.aload_n 0, 1) := by decide +kernel
theorem dX2_begin_50 : decode cX2_begin 50 = .ok (.aload_n 0, 1) := by decide +kernel
theorem dX2_begin_51 : decode cX2_begin 51 = .ok (.getfield 35, 3) := by decide +kernel
theorem dX2_begin_54 : decode cX2_begin 54 = .ok (.ifCond .gt 7, 3) := by decide +kernel
theorem dX2_begin_57 : decode cX2_begin 57 = .ok (.iconst 1, 1) := by decide +kernel
theorem dX2_begin_58 : decode cX2_begin 58 = .ok (.goto 4, 3) := by decide +kernel
theorem dX2_begin_61 : decode cX2_begin 61 = .ok (.iconst 0, 1) := by decide +kernel
theorem dX2_begin_62 : decode cX2_begin 62 = .ok (.putfield 46, 3) := by decide +kernel
theorem dX2_begin_65 : decode cX2_begin 65 = .ok (.aload_n 0, 1) := by decide +kernel
theorem dX2_begin_66 : decode cX2_begin 66 = .ok (.getfield 15, 3) := by decide +kernel
theorem dX2_begin_69 : decode cX2_begin 69 = .ok (.iconst 0, 1) := by decide +kernel
theorem dX2_begin_70 : decode cX2_begin 70 = .ok (.iconst 0, 1) := by decide +kernel
theorem dX2_begin_71 : decode cX2_begin 71 = .ok (.iastore, 1) := by decide +kernel
theorem dX2_begin_72 : decode cX2_begin 72 = .ok (.aload_n 0, 1) := by decide +kernel
theorem dX2_begin_73 : decode cX2_begin 73 = .ok (.getfield 23, 3) := by decide +kernel
theorem dX2_begin_76 : decode cX2_begin 76 = .ok (.iconst 0, 1) := by decide +kernel
theorem dX2_begin_77 : decode cX2_begin 77 = .ok (.aaload, 1) := by decide +kernel
theorem dX2_begin_78 : decode cX2_begin 78 = .ok (.aload_n 1, 1) := by decide +kernel
theorem dX2_begin_79 : decode cX2_begin 79 = .ok (.getfield 49, 3) := by decide +kernel
theorem dX2_begin_82 : decode cX2_begin 82 = .ok (.aload_n 1, 1) := by decide +kernel
theorem dX2_begin_83 : decode cX2_begin 83 = .ok (.getfield 52, 3) := by decide +kernel
theorem dX2_begin_86 : decode cX2_begin 86 = .ok (.invokevirtual 55, 3) := by decide +kernel
theorem dX2_begin_89 : decode cX2_begin 89 = .ok (.return_, 1) := by decide +kernel
set_option maxRecDepth 20000 in
theorem ggX2_next_X2_open : GoodIn wsX2_next wsX2_open := goodIn_r _ [8, 9, 10, 11, 12, 13, 14, 15, 16, 17, 18, 19, 20, 21, 22, 23, 24, 25, 26, 27, 28, 29, 30, 52, 53, 54, 55, 56, 57, 58, 59, 60, 61, 62, 63] (by decide +kernel) (by decide +kernel)
set_option maxRecDepth 20000 in
theorem gX2_next_X2_open : GoodIn wsX2_next (wsV RX2 59 RX2 yX2_open wsX2_open) := goodIn_app (goodIn_of _ (by decide +kernel)) ggX2_next_X2_open
set_option maxRecDepth 20000 in
theorem ggX2_next_X2_search : GoodIn wsX2_next wsX2_search := goodIn_r _ [34, 35, 12, 17, 2, 36, 37, 38, 7, 39, 10, 9, 11, 40, 41, 42, 21, 43, 29, 30, 23, 24, 44, 45, 46, 47, 48, 49, 50, 51, 4, 5, 6, 8, 13, 14, 15, 16, 18, 19, 20, 22, 25, 26, 27, 28, 52, 53, 54, 55, 56, 57, 58, 59, 60, 61, 62, 63] (by decide +kernel) (by decide +kernel)
set_option maxRecDepth 20000 in
theorem gX2_next_X2_search : GoodIn wsX2_next (wsV RX2 63 RX2 yX2_search wsX2_search) := goodIn_app (goodIn_of _ (by decide +kernel)) ggX2_next_X2_search
theorem dX2_next_0 : decode cX2_next 0 = .ok (.aload_n 0, 1) := by decide +kernel
theorem dX2_next_1 : decode cX2_next 1 = .ok (.getfield 46, 3) := by decide +kernel
theorem dX2_next_4 : decode cX2_next 4 = .ok (.ifCond .eq 5, 3) := by decide +kernel
theorem dX2_next_7 : decode cX2_next 7 = .ok (.iconst 0, 1) := by decide +kernel
theorem dX2_next_8 : decode cX2_next 8 = .ok (.ireturn, 1) := by decide +kernel
theorem dX2_next_9 : decode cX2_next 9 = .ok (.aload_n 0, 1) := by decide +kernel
theorem dX2_next_10 : decode cX2_next 10 = .ok (.getfield 35, 3) := by decide +kernel
theorem dX2_next_13 : decode cX2_next 13 = .ok (.iconst 1, 1) := by decide +kernel
theorem dX2_next_14 : decode cX2_next 14 = .ok (.isub, 1) := by decide +kernel
theorem dX2_next_15 : decode cX2_next 15 = .ok (.istore_n 1, 1) := by decide +kernel
theorem dX2_next_16 : decode cX2_next 16 = .ok (.aload_n 0, 1) := by decide +kernel
theorem dX2_next_17 : decode cX2_next 17 = .ok (.getfield 42, 3) := by decide +kernel
theorem dX2_next_20 : decode cX2_next 20 = .ok (.ifCond .ne 25, 3) := by decide +kernel
theorem dX2_next_23 : decode cX2_next 23 = .ok (.aload_n 0, 1) := by decide +kernel
theorem dX2_next_24 : decode cX2_next 24 = .ok (.iconst 1, 1) := by decide +kernel
theorem dX2_next_25 : decode cX2_next 25 = .ok (.putfield 42, 3) := by decide +kernel
theorem dX2_next_28 : decode cX2_next 28 = .ok (.aload_n 0, 1) := by decide +kernel
theorem dX2_next_29 : decode cX2_next 29 = .ok (.getfield 35, 3) := by decide +kernel
theorem dX2_next_32 : decode cX2_next 32 = .ok (.iconst 1, 1) := by decide +kernel
theorem dX2_next_33 : decode cX2_next 33 = .ok (.if_icmp .ne 5, 3) := by decide +kernel
theorem dX2_next_36 : decode cX2_next 36 = .ok (.iconst 1, 1) := by decide +kernel
theorem dX2_next_37 : decode cX2_next 37 = .ok (.ireturn, 1) := by decide +kernel
theorem dX2_next_38 : decode cX2_next 38 = .ok (.aload_n 0, 1) := by decide +kernel
theorem dX2_next_39 : decode cX2_next 39 = .ok (.iconst 1, 1) := by decide +kernel
theorem dX2_next_40 : decode cX2_next 40 = .ok (.invokevirtual 59, 3) := by decide +kernel
theorem dX2_next_43 : decode cX2_next 43 = .ok (.iconst 1, 1) := by decide +kernel
theorem dX2_next_44 : decode cX2_next 44 = .ok (.istore_n 1, 1) := by decide +kernel
theorem dX2_next_45 : decode cX2_next 45 = .ok (.aload_n 0, 1) := by decide +kernel
theorem dX2_next_46 : decode cX2_next 46 = .ok (.aload_n 0, 1) := by decide +kernel
theorem dX2_next_47 : decode cX2_next 47 = .ok (.iload_n 1, 1) := by decide +kernel
theorem dX2_next_48 : decode cX2_next 48 = .ok (.invokevirtual 63, 3) := by decide +kernel
theorem dX2_next_51 : decode cX2_next 51 = .ok (.ifCond .ne 7, 3) := by decide +kernel
theorem dX2_next_54 : decode cX2_next 54 = .ok (.iconst 1, 1) := by decide +kernel
theorem dX2_next_55 : decode cX2_next 55 = .ok (.goto 4, 3) := by decide +kernel
theorem dX2_next_58 : decode cX2_next 58 = .ok (.iconst 0, 1) := by decide +kernel
theorem dX2_next_59 : decode cX2_next 59 = .ok (.putfield 46, 3) := by decide +kernel
theorem dX2_next_62 : decode cX2_next 62 = .ok (.aload_n 0, 1) := by decide +kernel
theorem dX2_next_63 : decode cX2_next 63 = .ok (.getfield 46, 3) := by decide +kernel
theorem dX2_next_66 : decode cX2_next 66 = .ok (.ifCond .ne 7, 3) := by decide +kernel
theorem dX2_next_69 : decode cX2_next 69 = .ok (.iconst 1, 1) := by decide +kernel
theorem dX2_next_70 : decode cX2_next 70 = .ok (.goto 4, 3) := by decide +kernel
theorem dX2_next_73 : decode cX2_next 73 = .ok (.iconst 0, 1) := by decide +kernel
theorem dX2_next_74 : decode cX2_next 74 = .ok (.ireturn, 1) := by decide +kernel
set_option maxRecDepth 20000 in
theorem ggX2_search_X2_fits : GoodIn wsX2_search wsX2_fits := goodIn_r _ [9, 10, 11, 12, 2, 13, 14, 15, 16, 17, 18, 19, 20, 21, 22, 23, 24, 25, 26, 27, 28, 29, 46, 47, 48, 49, 50, 51, 52, 53, 54, 55, 56, 57] (by decide +kernel) (by decide +kernel)
set_option maxRecDepth 20000 in
theorem gX2_search_X2_fits : GoodIn wsX2_search (wsV RX2 68 RX2 yX2_fits wsX2_fits) := goodIn_app (goodIn_of _ (by decide +kernel)) ggX2_search_X2_fits
set_option maxRecDepth 20000 in
theorem ggX2_search_X2_open : GoodIn wsX2_search wsX2_open := goodIn_r _ [33, 11, 10, 12, 2, 34, 35, 36, 37, 3, 38, 39, 40, 16, 41, 20, 21, 42, 43, 44, 45, 18, 19, 46, 47, 48, 49, 50, 51, 52, 53, 54, 55, 56, 57] (by decide +kernel) (by decide +kernel)
set_option maxRecDepth 20000 in
theorem gX2_search_X2_open : GoodIn wsX2_search (wsV RX2 59 RX2 yX2_open wsX2_open) := goodIn_app (goodIn_of _ (by decide +kernel)) ggX2_search_X2_open
theorem dX2_search_0 : decode cX2_search 0 = .ok (.iload_n 1, 1) := by decide +kernel
theorem dX2_search_1 : decode cX2_search 1 = .ok (.istore_n 2, 1) := by decide +kernel
theorem dX2_search_2 : decode cX2_search 2 = .ok (.iconst 0, 1) := by decide +kernel
theorem dX2_search_3 : decode cX2_search 3 = .ok (.istore_n 3, 1) := by decide +kernel
theorem dX2_search_4 : decode cX2_search 4 = .ok (.iload_n 3, 1) := by decide +kernel
theorem dX2_search_5 : decode cX2_search 5 = .ok (.ldc 67, 2) := by decide +kernel
theorem dX2_search_7 : decode cX2_search 7 = .ok (.if_icmp .ge 73, 3) := by decide +kernel
theorem dX2_search_10 : decode cX2_search 10 = .ok (.iload_n 2, 1) := by decide +kernel
theorem dX2_search_11 : decode cX2_search 11 = .ok (.iconst 1, 1) := by decide +kernel
theorem dX2_search_12 : decode cX2_search 12 = .ok (.if_icmp .lt 68, 3) := by decide +kernel
theorem dX2_search_15 : decode cX2_search 15 = .ok (.aload_n 0, 1) := by decide +kernel
theorem dX2_search_16 : decode cX2_search 16 = .ok (.getfield 15, 3) := by decide +kernel
theorem dX2_search_19 : decode cX2_search 19 = .ok (.iload_n 2, 1) := by decide +kernel
theorem dX2_search_20 : decode cX2_search 20 = .ok (.iaload, 1) := by decide +kernel
theorem dX2_search_21 : decode cX2_search 21 = .ok (.aload_n 0, 1) := by decide +kernel
theorem dX2_search_22 : decode cX2_search 22 = .ok (.getfield 18, 3) := by decide +kernel
theorem dX2_search_25 : decode cX2_search 25 = .ok (.iload_n 2, 1) := by decide +kernel
theorem dX2_search_26 : decode cX2_search 26 = .ok (.iaload, 1) := by decide +kernel
theorem dX2_search_27 : decode cX2_search 27 = .ok (.if_icmp .lt 9, 3) := by decide +kernel
theorem dX2_search_30 : decode cX2_search 30 = .ok (.iinc 2 (-1), 3) := by decide +kernel
theorem dX2_search_33 : decode cX2_search 33 = .ok (.goto 41, 3) := by decide +kernel
theorem dX2_search_36 : decode cX2_search 36 = .ok (.aload_n 0, 1) := by decide +kernel
theorem dX2_search_37 : decode cX2_search 37 = .ok (.getfield 15, 3) := by decide +kernel
theorem dX2_search_40 : decode cX2_search 40 = .ok (.iload_n 2, 1) := by decide +kernel
theorem dX2_search_41 : decode cX2_search 41 = .ok (.dup2, 1) := by decide +kernel
theorem dX2_search_42 : decode cX2_search 42 = .ok (.iaload, 1) := by decide +kernel
theorem dX2_search_43 : decode cX2_search 43 = .ok (.iconst 1, 1) := by decide +kernel
theorem dX2_search_44 : decode cX2_search 44 = .ok (.iadd, 1) := by decide +kernel
theorem dX2_search_45 : decode cX2_search 45 = .ok (.iastore, 1) := by decide +kernel
theorem dX2_search_46 : decode cX2_search 46 = .ok (.aload_n 0, 1) := by decide +kernel
theorem dX2_search_47 : decode cX2_search 47 = .ok (.iload_n 2, 1) := by decide +kernel
theorem dX2_search_48 : decode cX2_search 48 = .ok (.invokevirtual 68, 3) := by decide +kernel
theorem dX2_search_51 : decode cX2_search 51 = .ok (.ifCond .eq 23, 3) := by decide +kernel
theorem dX2_search_54 : decode cX2_search 54 = .ok (.iload_n 2, 1) := by decide +kernel
theorem dX2_search_55 : decode cX2_search 55 = .ok (.aload_n 0, 1) := by decide +kernel
theorem dX2_search_56 : decode cX2_search 56 = .ok (.getfield 35, 3) := by decide +kernel
theorem dX2_search_59 : decode cX2_search 59 = .ok (.iconst 1, 1) := by decide +kernel
theorem dX2_search_60 : decode cX2_search 60 = .ok (.isub, 1) := by decide +kernel
theorem dX2_search_61 : decode cX2_search 61 = .ok (.if_icmp .ne 5, 3) := by decide +kernel
theorem dX2_search_64 : decode cX2_search 64 = .ok (.iconst 1, 1) := by decide +kernel
theorem dX2_search_65 : decode cX2_search 65 = .ok (.ireturn, 1) := by decide +kernel
theorem dX2_search_66 : decode cX2_search 66 = .ok (.iinc 2 1, 3) := by decide +kernel
theorem dX2_search_69 : decode cX2_search 69 = .ok (.aload_n 0, 1) := by decide +kernel
theorem dX2_search_70 : decode cX2_search 70 = .ok (.iload_n 2, 1) := by decide +kernel
theorem dX2_search_71 : decode cX2_search 71 = .ok (.invokevirtual 59, 3) := by decide +kernel
theorem dX2_search_74 : decode cX2_search 74 = .ok (.iinc 3 1, 3) := by decide +kernel
theorem dX2_search_77 : decode cX2_search 77 = .ok (.goto (-73), 3) := by decide +kernel
theorem dX2_search_80 : decode cX2_search 80 = .ok (.iconst 0, 1) := by decide +kernel
theorem dX2_search_81 : decode cX2_search 81 = .ok (.ireturn, 1) := by decide +kernel
set_option maxRecDepth 20000 in
theorem ggX2_tally_X2_next : GoodIn wsX2_tally wsX2_next := goodIn_r _ [5, 6, 7, 8, 9, 10, 11, 4, 12, 13, 14, 15, 16, 17, 18, 19, 20, 21, 22, 23, 24, 25, 26, 27, 28, 29, 30, 31, 32, 33, 34, 35, 36, 37, 38, 39, 40, 41, 42, 43, 44, 45, 46, 47, 48, 49, 50, 51, 52, 53, 54, 55, 56, 57, 58, 59, 60, 61, 62, 63, 64, 65, 66, 67] (by decide +kernel) (by decide +kernel)
set_option maxRecDepth 20000 in
theorem gX2_tally_X2_next : GoodIn wsX2_tally (wsV RX2 71 RX2 yX2_next wsX2_next) := goodIn_app (goodIn_of _ (by decide +kernel)) ggX2_tally_X2_next
theorem dX2_tally_0 : decode cX2_tally 0 = .ok (.iconst 0, 1) := by decide +kernel
theorem dX2_tally_1 : decode cX2_tally 1 = .ok (.istore_n 2, 1) := by decide +kernel
theorem dX2_tally_2 : decode cX2_tally 2 = .ok (.iload_n 2, 1) := by decide +kernel
theorem dX2_tally_3 : decode cX2_tally 3 = .ok (.iload_n 1, 1) := by decide +kernel
theorem dX2_tally_4 : decode cX2_tally 4 = .ok (.if_icmp .ge 16, 3) := by decide +kernel
theorem dX2_tally_7 : decode cX2_tally 7 = .ok (.aload_n 0, 1) := by decide +kernel
theorem dX2_tally_8 : decode cX2_tally 8 = .ok (.invokevirtual 71, 3) := by decide +kernel
theorem dX2_tally_11 : decode cX2_tally 11 = .ok (.ifCond .eq 9, 3) := by decide +kernel
theorem dX2_tally_14 : decode cX2_tally 14 = .ok (.iinc 2 1, 3) := by decide +kernel
theorem dX2_tally_17 : decode cX2_tally 17 = .ok (.goto (-15), 3) := by decide +kernel
theorem dX2_tally_20 : decode cX2_tally 20 = .ok (.iload_n 2, 1) := by decide +kernel
theorem dX2_tally_21 : decode cX2_tally 21 = .ok (.ireturn, 1) := by decide +kernel
set_option maxRecDepth 20000 in
theorem ggX2_further_X2_open : GoodIn wsX2_further wsX2_open := goodIn_r _ [9, 2, 10, 11, 3, 12, 13, 14, 15, 4, 16, 17, 18, 19, 20, 21, 22, 23, 24, 25, 26, 27, 28, 45, 46, 47, 48, 49, 50, 51, 52, 53, 54, 55, 56] (by decide +kernel) (by decide +kernel)
set_option maxRecDepth 20000 in
theorem gX2_further_X2_open : GoodIn wsX2_further (wsV RX2 59 RX2 yX2_open wsX2_open) := goodIn_app (goodIn_of _ (by decide +kernel)) ggX2_further_X2_open
set_option maxRecDepth 20000 in
theorem ggX2_further_X2_fits : GoodIn wsX2_further wsX2_fits := goodIn_r _ [32, 10, 2, 11, 3, 33, 34, 35, 19, 36, 27, 28, 21, 22, 37, 38, 39, 40, 41, 42, 43, 44, 45, 46, 47, 48, 49, 50, 51, 52, 53, 54, 55, 56] (by decide +kernel) (by decide +kernel)
set_option maxRecDepth 20000 in
theorem gX2_further_X2_fits : GoodIn wsX2_further (wsV RX2 68 RX2 yX2_fits wsX2_fits) := goodIn_app (goodIn_of _ (by decide +kernel)) ggX2_further_X2_fits
theorem dX2_further_0 : decode cX2_further 0 = .ok (.aload_n 0, 1) := by decide +kernel
theorem dX2_further_1 : decode cX2_further 1 = .ok (.getfield 35, 3) := by decide +kernel
theorem dX2_further_4 : decode cX2_further 4 = .ok (.iconst 1, 1) := by decide +kernel
theorem dX2_further_5 : decode cX2_further 5 = .ok (.if_icmp .lt 12, 3) := by decide +kernel
theorem dX2_further_8 : decode cX2_further 8 = .ok (.aload_n 0, 1) := by decide +kernel
theorem dX2_further_9 : decode cX2_further 9 = .ok (.getfield 35, 3) := by decide +kernel
theorem dX2_further_12 : decode cX2_further 12 = .ok (.bipush 7, 2) := by decide +kernel
theorem dX2_further_14 : decode cX2_further 14 = .ok (.if_icmp .lt 5, 3) := by decide +kernel
theorem dX2_further_17 : decode cX2_further 17 = .ok (.iconst 0, 1) := by decide +kernel
theorem dX2_further_18 : decode cX2_further 18 = .ok (.ireturn, 1) := by decide +kernel
theorem dX2_further_19 : decode cX2_further 19 = .ok (.aload_n 0, 1) := by decide +kernel
theorem dX2_further_20 : decode cX2_further 20 = .ok (.getfield 9, 3) := by decide +kernel
theorem dX2_further_23 : decode cX2_further 23 = .ok (.aload_n 0, 1) := by decide +kernel
theorem dX2_further_24 : decode cX2_further 24 = .ok (.getfield 35, 3) := by decide +kernel
theorem dX2_further_27 : decode cX2_further 27 = .ok (.iload_n 1, 1) := by decide +kernel
theorem dX2_further_28 : decode cX2_further 28 = .ok (.iastore, 1) := by decide +kernel
theorem dX2_further_29 : decode cX2_further 29 = .ok (.aload_n 0, 1) := by decide +kernel
theorem dX2_further_30 : decode cX2_further 30 = .ok (.aload_n 0, 1) := by decide +kernel
theorem dX2_further_31 : decode cX2_further 31 = .ok (.getfield 35, 3) := by decide +kernel
theorem dX2_further_34 : decode cX2_further 34 = .ok (.invokevirtual 59, 3) := by decide +kernel
theorem dX2_further_37 : decode cX2_further 37 = .ok (.iconst 0, 1) := by decide +kernel
theorem dX2_further_38 : decode cX2_further 38 = .ok (.istore_n 2, 1) := by decide +kernel
theorem dX2_further_39 : decode cX2_further 39 = .ok (.aload_n 0, 1) := by decide +kernel
theorem dX2_further_40 : decode cX2_further 40 = .ok (.getfield 15, 3) := by decide +kernel
theorem dX2_further_43 : decode cX2_further 43 = .ok (.aload_n 0, 1) := by decide +kernel
theorem dX2_further_44 : decode cX2_further 44 = .ok (.getfield 35, 3) := by decide +kernel
theorem dX2_further_47 : decode cX2_further 47 = .ok (.iaload, 1) := by decide +kernel
theorem dX2_further_48 : decode cX2_further 48 = .ok (.iconst 1, 1) := by decide +kernel
theorem dX2_further_49 : decode cX2_further 49 = .ok (.iadd, 1) := by decide +kernel
theorem dX2_further_50 : decode cX2_further 50 = .ok (.istore_n 3, 1) := by decide +kernel
theorem dX2_further_51 : decode cX2_further 51 = .ok (.iload_n 3, 1) := by decide +kernel
theorem dX2_further_52 : decode cX2_further 52 = .ok (.aload_n 0, 1) := by decide +kernel
theorem dX2_further_53 : decode cX2_further 53 = .ok (.getfield 18, 3) := by decide +kernel
theorem dX2_further_56 : decode cX2_further 56 = .ok (.aload_n 0, 1) := by decide +kernel
theorem dX2_further_57 : decode cX2_further 57 = .ok (.getfield 35, 3) := by decide +kernel
theorem dX2_further_60 : decode cX2_further 60 = .ok (.iaload, 1) := by decide +kernel
theorem dX2_further_61 : decode cX2_further 61 = .ok (.if_icmp .gt 33, 3) := by decide +kernel
theorem dX2_further_64 : decode cX2_further 64 = .ok (.aload_n 0, 1) := by decide +kernel
theorem dX2_further_65 : decode cX2_further 65 = .ok (.getfield 15, 3) := by decide +kernel
theorem dX2_further_68 : decode cX2_further 68 = .ok (.aload_n 0, 1) := by decide +kernel
theorem dX2_further_69 : decode cX2_further 69 = .ok (.getfield 35, 3) := by decide +kernel
theorem dX2_further_72 : decode cX2_further 72 = .ok (.iload_n 3, 1) := by decide +kernel
theorem dX2_further_73 : decode cX2_further 73 = .ok (.iastore, 1) := by decide +kernel
theorem dX2_further_74 : decode cX2_further 74 = .ok (.aload_n 0, 1) := by decide +kernel
theorem dX2_further_75 : decode cX2_further 75 = .ok (.aload_n 0, 1) := by decide +kernel
theorem dX2_further_76 : decode cX2_further 76 = .ok (.getfield 35, 3) := by decide +kernel
theorem dX2_further_79 : decode cX2_further 79 = .ok (.invokevirtual 68, 3) := by decide +kernel
theorem dX2_further_82 : decode cX2_further 82 = .ok (.ifCond .eq 6, 3) := by decide +kernel
theorem dX2_further_85 : decode cX2_further 85 = .ok (.iinc 2 1, 3) := by decide +kernel
theorem dX2_further_88 : decode cX2_further 88 = .ok (.iinc 3 1, 3) := by decide +kernel
theorem dX2_further_91 : decode cX2_further 91 = .ok (.goto (-40), 3) := by decide +kernel
theorem dX2_further_94 : decode cX2_further 94 = .ok (.iload_n 2, 1) := by decide +kernel
theorem dX2_further_95 : decode cX2_further 95 = .ok (.ireturn, 1) := by decide +kernel
set_option maxRecDepth 20000 in
theorem ggX2_boxPart_X4_part : GoodIn wsX2_boxPart wsX4_part := goodIn_r _ [7, 8, 9, 10, 11, 12, 13, 14, 15, 16, 17, 18, 19, 20, 21, 22, 23, 32, 33, 34, 35] (by decide +kernel) (by decide +kernel)
set_option maxRecDepth 20000 in
theorem gX2_boxPart_X4_part : GoodIn wsX2_boxPart (wsV RX2 75 RX4 yX4_part wsX4_part) := goodIn_app (goodIn_of _ (by decide +kernel)) ggX2_boxPart_X4_part
theorem dX2_boxPart_0 : decode cX2_boxPart 0 = .ok (.aload_n 0, 1) := by decide +kernel
theorem dX2_boxPart_1 : decode cX2_boxPart 1 = .ok (.getfield 35, 3) := by decide +kernel
theorem dX2_boxPart_4 : decode cX2_boxPart 4 = .ok (.iconst 1, 1) := by decide +kernel
theorem dX2_boxPart_5 : decode cX2_boxPart 5 = .ok (.if_icmp .lt 30, 3) := by decide +kernel
theorem dX2_boxPart_8 : decode cX2_boxPart 8 = .ok (.aload_n 0, 1) := by decide +kernel
theorem dX2_boxPart_9 : decode cX2_boxPart 9 = .ok (.getfield 35, 3) := by decide +kernel
theorem dX2_boxPart_12 : decode cX2_boxPart 12 = .ok (.bipush 7, 2) := by decide +kernel
theorem dX2_boxPart_14 : decode cX2_boxPart 14 = .ok (.if_icmp .gt 21, 3) := by decide +kernel
theorem dX2_boxPart_17 : decode cX2_boxPart 17 = .ok (.aload_n 0, 1) := by decide +kernel
theorem dX2_boxPart_18 : decode cX2_boxPart 18 = .ok (.getfield 23, 3) := by decide +kernel
theorem dX2_boxPart_21 : decode cX2_boxPart 21 = .ok (.aload_n 0, 1) := by decide +kernel
theorem dX2_boxPart_22 : decode cX2_boxPart 22 = .ok (.getfield 35, 3) := by decide +kernel
theorem dX2_boxPart_25 : decode cX2_boxPart 25 = .ok (.iconst 1, 1) := by decide +kernel
theorem dX2_boxPart_26 : decode cX2_boxPart 26 = .ok (.isub, 1) := by decide +kernel
theorem dX2_boxPart_27 : decode cX2_boxPart 27 = .ok (.aaload, 1) := by decide +kernel
theorem dX2_boxPart_28 : decode cX2_boxPart 28 = .ok (.iload_n 1, 1) := by decide +kernel
theorem dX2_boxPart_29 : decode cX2_boxPart 29 = .ok (.invokevirtual 75, 3) := by decide +kernel
theorem dX2_boxPart_32 : decode cX2_boxPart 32 = .ok (.goto 5, 3) := by decide +kernel
theorem dX2_boxPart_35 : decode cX2_boxPart 35 = .ok (.bipush (-9), 2) := by decide +kernel
theorem dX2_boxPart_37 : decode cX2_boxPart 37 = .ok (.ireturn, 1) := by decide +kernel
set_option maxRecDepth 20000 in
theorem ggX2_open_X4_leastTurns : GoodIn wsX2_open wsX4_leastTurns := goodIn_r _ [14, 15, 16, 31, 32, 33, 34] (by decide +kernel) (by decide +kernel)
set_option maxRecDepth 20000 in
theorem gX2_open_X4_leastTurns : GoodIn wsX2_open (wsV RX2 79 RX4 yX4_leastTurns wsX4_leastTurns) := goodIn_app (goodIn_of _ (by decide +kernel)) ggX2_open_X4_leastTurns
set_option maxRecDepth 20000 in
theorem ggX2_open_X4_greatestTurns : GoodIn wsX2_open wsX4_greatestTurns := goodIn_r _ [20, 21, 22, 31, 32, 33, 34] (by decide +kernel) (by decide +kernel)
set_option maxRecDepth 20000 in
theorem gX2_open_X4_greatestTurns : GoodIn wsX2_open (wsV RX2 88 RX4 yX4_greatestTurns wsX4_greatestTurns) := goodIn_app (goodIn_of _ (by decide +kernel)) ggX2_open_X4_greatestTurns
theorem dX2_open_0 : decode cX2_open 0 = .ok (.aload_n 0, 1) := by decide +kernel
theorem dX2_open_1 : decode cX2_open 1 = .ok (.getfield 9, 3) := by decide +kernel
theorem dX2_open_4 : decode cX2_open 4 = .ok (.iload_n 1, 1) := by decide +kernel
theorem dX2_open_5 : decode cX2_open 5 = .ok (.iaload, 1) := by decide +kernel
theorem dX2_open_6 : decode cX2_open 6 = .ok (.aload_n 0, 1) := by decide +kernel
theorem dX2_open_7 : decode cX2_open 7 = .ok (.getfield 9, 3) := by decide +kernel
theorem dX2_open_10 : decode cX2_open 10 = .ok (.iconst 0, 1) := by decide +kernel
theorem dX2_open_11 : decode cX2_open 11 = .ok (.iaload, 1) := by decide +kernel
theorem dX2_open_12 : decode cX2_open 12 = .ok (.isub, 1) := by decide +kernel
theorem dX2_open_13 : decode cX2_open 13 = .ok (.istore_n 2, 1) := by decide +kernel
theorem dX2_open_14 : decode cX2_open 14 = .ok (.aload_n 0, 1) := by decide +kernel
theorem dX2_open_15 : decode cX2_open 15 = .ok (.getfield 23, 3) := by decide +kernel
theorem dX2_open_18 : decode cX2_open 18 = .ok (.iload_n 1, 1) := by decide +kernel
theorem dX2_open_19 : decode cX2_open 19 = .ok (.iconst 1, 1) := by decide +kernel
theorem dX2_open_20 : decode cX2_open 20 = .ok (.isub, 1) := by decide +kernel
theorem dX2_open_21 : decode cX2_open 21 = .ok (.aaload, 1) := by decide +kernel
theorem dX2_open_22 : decode cX2_open 22 = .ok (.iload_n 2, 1) := by decide +kernel
theorem dX2_open_23 : decode cX2_open 23 = .ok (.aload_n 0, 1) := by decide +kernel
theorem dX2_open_24 : decode cX2_open 24 = .ok (.getfield 39, 3) := by decide +kernel
theorem dX2_open_27 : decode cX2_open 27 = .ok (.invokevirtual 79, 3) := by decide +kernel
theorem dX2_open_30 : decode cX2_open 30 = .ok (.istore_n 3, 1) := by decide +kernel
theorem dX2_open_31 : decode cX2_open 31 = .ok (.aload_n 0, 1) := by decide +kernel
theorem dX2_open_32 : decode cX2_open 32 = .ok (.getfield 15, 3) := by decide +kernel
theorem dX2_open_35 : decode cX2_open 35 = .ok (.iload_n 1, 1) := by decide +kernel
theorem dX2_open_36 : decode cX2_open 36 = .ok (.aload_n 0, 1) := by decide +kernel
theorem dX2_open_37 : decode cX2_open 37 = .ok (.getfield 15, 3) := by decide +kernel
theorem dX2_open_40 : decode cX2_open 40 = .ok (.iload_n 1, 1) := by decide +kernel
theorem dX2_open_41 : decode cX2_open 41 = .ok (.iconst 1, 1) := by decide +kernel
theorem dX2_open_42 : decode cX2_open 42 = .ok (.isub, 1) := by decide +kernel
theorem dX2_open_43 : decode cX2_open 43 = .ok (.iaload, 1) := by decide +kernel
theorem dX2_open_44 : decode cX2_open 44 = .ok (.iconst 1, 1) := by decide +kernel
theorem dX2_open_45 : decode cX2_open 45 = .ok (.iadd, 1) := by decide +kernel
theorem dX2_open_46 : decode cX2_open 46 = .ok (.iload_n 3, 1) := by decide +kernel
theorem dX2_open_47 : decode cX2_open 47 = .ok (.invokestatic 83, 3) := by decide +kernel
theorem dX2_open_50 : decode cX2_open 50 = .ok (.iconst 1, 1) := by decide +kernel
theorem dX2_open_51 : decode cX2_open 51 = .ok (.isub, 1) := by decide +kernel
theorem dX2_open_52 : decode cX2_open 52 = .ok (.iastore, 1) := by decide +kernel
theorem dX2_open_53 : decode cX2_open 53 = .ok (.aload_n 0, 1) := by decide +kernel
theorem dX2_open_54 : decode cX2_open 54 = .ok (.getfield 18, 3) := by decide +kernel
theorem dX2_open_57 : decode cX2_open 57 = .ok (.iload_n 1, 1) := by decide +kernel
theorem dX2_open_58 : decode cX2_open 58 = .ok (.aload_n 0, 1) := by decide +kernel
theorem dX2_open_59 : decode cX2_open 59 = .ok (.getfield 23, 3) := by decide +kernel
theorem dX2_open_62 : decode cX2_open 62 = .ok (.iload_n 1, 1) := by decide +kernel
theorem dX2_open_63 : decode cX2_open 63 = .ok (.iconst 1, 1) := by decide +kernel
theorem dX2_open_64 : decode cX2_open 64 = .ok (.isub, 1) := by decide +kernel
theorem dX2_open_65 : decode cX2_open 65 = .ok (.aaload, 1) := by decide +kernel
theorem dX2_open_66 : decode cX2_open 66 = .ok (.iload_n 2, 1) := by decide +kernel
theorem dX2_open_67 : decode cX2_open 67 = .ok (.aload_n 0, 1) := by decide +kernel
theorem dX2_open_68 : decode cX2_open 68 = .ok (.getfield 39, 3) := by decide +kernel
theorem dX2_open_71 : decode cX2_open 71 = .ok (.invokevirtual 88, 3) := by decide +kernel
theorem dX2_open_74 : decode cX2_open 74 = .ok (.iastore, 1) := by decide +kernel
theorem dX2_open_75 : decode cX2_open 75 = .ok (.return_, 1) := by decide +kernel
set_option maxRecDepth 20000 in
theorem ggX2_fits_X4_take : GoodIn wsX2_fits wsX4_take := goodIn_r _ [9, 10, 11, 12, 13, 30, 31, 32, 33] (by decide +kernel) (by decide +kernel)
set_option maxRecDepth 20000 in
theorem gX2_fits_X4_take : GoodIn wsX2_fits (wsV RX2 91 RX4 yX4_take wsX4_take) := goodIn_app (goodIn_of _ (by decide +kernel)) ggX2_fits_X4_take
set_option maxRecDepth 20000 in
theorem ggX2_fits_X4_cut : GoodIn wsX2_fits wsX4_cut := goodIn_r _ [17, 11, 10, 13, 12, 30, 31, 32, 33] (by decide +kernel) (by decide +kernel)
set_option maxRecDepth 20000 in
theorem gX2_fits_X4_cut : GoodIn wsX2_fits (wsV RX2 95 RX4 yX4_cut wsX4_cut) := goodIn_app (goodIn_of _ (by decide +kernel)) ggX2_fits_X4_cut
set_option maxRecDepth 20000 in
theorem ggX2_fits_X4_isEmpty : GoodIn wsX2_fits wsX4_isEmpty := goodIn_r _ [21, 10, 13, 12, 11, 30, 31, 32, 33] (by decide +kernel) (by decide +kernel)
set_option maxRecDepth 20000 in
theorem gX2_fits_X4_isEmpty : GoodIn wsX2_fits (wsV RX2 99 RX4 yX4_isEmpty wsX4_isEmpty) := goodIn_app (goodIn_of _ (by decide +kernel)) ggX2_fits_X4_isEmpty
theorem dX2_fits_0 : decode cX2_fits 0 = .ok (.aload_n 0, 1) := by decide +kernel
theorem dX2_fits_1 : decode cX2_fits 1 = .ok (.getfield 23, 3) := by decide +kernel
theorem dX2_fits_4 : decode cX2_fits 4 = .ok (.iload_n 1, 1) := by decide +kernel
theorem dX2_fits_5 : decode cX2_fits 5 = .ok (.aaload, 1) := by decide +kernel
theorem dX2_fits_6 : decode cX2_fits 6 = .ok (.astore_n 2, 1) := by decide +kernel
theorem dX2_fits_7 : decode cX2_fits 7 = .ok (.aload_n 2, 1) := by decide +kernel
theorem dX2_fits_8 : decode cX2_fits 8 = .ok (.aload_n 0, 1) := by decide +kernel
theorem dX2_fits_9 : decode cX2_fits 9 = .ok (.getfield 23, 3) := by decide +kernel
theorem dX2_fits_12 : decode cX2_fits 12 = .ok (.iload_n 1, 1) := by decide +kernel
theorem dX2_fits_13 : decode cX2_fits 13 = .ok (.iconst 1, 1) := by decide +kernel
theorem dX2_fits_14 : decode cX2_fits 14 = .ok (.isub, 1) := by decide +kernel
theorem dX2_fits_15 : decode cX2_fits 15 = .ok (.aaload, 1) := by decide +kernel
theorem dX2_fits_16 : decode cX2_fits 16 = .ok (.invokevirtual 91, 3) := by decide +kernel
theorem dX2_fits_19 : decode cX2_fits 19 = .ok (.iconst 0, 1) := by decide +kernel
theorem dX2_fits_20 : decode cX2_fits 20 = .ok (.istore_n 3, 1) := by decide +kernel
theorem dX2_fits_21 : decode cX2_fits 21 = .ok (.iload_n 3, 1) := by decide +kernel
theorem dX2_fits_22 : decode cX2_fits 22 = .ok (.iload_n 1, 1) := by decide +kernel
theorem dX2_fits_23 : decode cX2_fits 23 = .ok (.if_icmp .ge 53, 3) := by decide +kernel
theorem dX2_fits_26 : decode cX2_fits 26 = .ok (.aload_n 2, 1) := by decide +kernel
theorem dX2_fits_27 : decode cX2_fits 27 = .ok (.aload_n 0, 1) := by decide +kernel
theorem dX2_fits_28 : decode cX2_fits 28 = .ok (.getfield 9, 3) := by decide +kernel
theorem dX2_fits_31 : decode cX2_fits 31 = .ok (.iload_n 1, 1) := by decide +kernel
theorem dX2_fits_32 : decode cX2_fits 32 = .ok (.iaload, 1) := by decide +kernel
theorem dX2_fits_33 : decode cX2_fits 33 = .ok (.aload_n 0, 1) := by decide +kernel
theorem dX2_fits_34 : decode cX2_fits 34 = .ok (.getfield 9, 3) := by decide +kernel
theorem dX2_fits_37 : decode cX2_fits 37 = .ok (.iload_n 3, 1) := by decide +kernel
theorem dX2_fits_38 : decode cX2_fits 38 = .ok (.iaload, 1) := by decide +kernel
theorem dX2_fits_39 : decode cX2_fits 39 = .ok (.isub, 1) := by decide +kernel
theorem dX2_fits_40 : decode cX2_fits 40 = .ok (.aload_n 0, 1) := by decide +kernel
theorem dX2_fits_41 : decode cX2_fits 41 = .ok (.getfield 39, 3) := by decide +kernel
theorem dX2_fits_44 : decode cX2_fits 44 = .ok (.aload_n 0, 1) := by decide +kernel
theorem dX2_fits_45 : decode cX2_fits 45 = .ok (.getfield 15, 3) := by decide +kernel
theorem dX2_fits_48 : decode cX2_fits 48 = .ok (.iload_n 1, 1) := by decide +kernel
theorem dX2_fits_49 : decode cX2_fits 49 = .ok (.iaload, 1) := by decide +kernel
theorem dX2_fits_50 : decode cX2_fits 50 = .ok (.aload_n 0, 1) := by decide +kernel
theorem dX2_fits_51 : decode cX2_fits 51 = .ok (.getfield 15, 3) := by decide +kernel
theorem dX2_fits_54 : decode cX2_fits 54 = .ok (.iload_n 3, 1) := by decide +kernel
theorem dX2_fits_55 : decode cX2_fits 55 = .ok (.iaload, 1) := by decide +kernel
theorem dX2_fits_56 : decode cX2_fits 56 = .ok (.isub, 1) := by decide +kernel
theorem dX2_fits_57 : decode cX2_fits 57 = .ok (.invokevirtual 95, 3) := by decide +kernel
theorem dX2_fits_60 : decode cX2_fits 60 = .ok (.pop, 1) := by decide +kernel
theorem dX2_fits_61 : decode cX2_fits 61 = .ok (.aload_n 2, 1) := by decide +kernel
theorem dX2_fits_62 : decode cX2_fits 62 = .ok (.invokevirtual 99, 3) := by decide +kernel
theorem dX2_fits_65 : decode cX2_fits 65 = .ok (.ifCond .eq 5, 3) := by decide +kernel
theorem dX2_fits_68 : decode cX2_fits 68 = .ok (.iconst 0, 1) := by decide +kernel
theorem dX2_fits_69 : decode cX2_fits 69 = .ok (.ireturn, 1) := by decide +kernel
theorem dX2_fits_70 : decode cX2_fits 70 = .ok (.iinc 3 1, 3) := by decide +kernel
theorem dX2_fits_73 : decode cX2_fits 73 = .ok (.goto (-52), 3) := by decide +kernel
theorem dX2_fits_76 : decode cX2_fits 76 = .ok (.iconst 1, 1) := by decide +kernel
theorem dX2_fits_77 : decode cX2_fits 77 = .ok (.ireturn, 1) := by decide +kernel
set_option maxRecDepth 20000 in
theorem ggX3_init_X1_init : GoodIn wsX3_init wsX1_init := goodIn_r _ [10, 11, 2, 3, 12, 13, 14, 15, 16, 7, 17, 18, 19, 20, 21, 25, 26, 27, 28, 29] (by decide +kernel) (by decide +kernel)
set_option maxRecDepth 20000 in
theorem gX3_init_X1_init : GoodIn wsX3_init (wsX1_init) := ggX3_init_X1_init
theorem dX3_init_0 : decode cX3_init 0 = .ok (.aload_n 0, 1) := by decide +kernel
theorem dX3_init_1 : decode cX3_init 1 = .ok (.invokespecial 3, 3) := by decide +kernel
