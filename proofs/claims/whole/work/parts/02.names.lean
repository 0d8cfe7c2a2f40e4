def RX0 : String := "RunHeap$Adviser"
def TX0 : u_T := fun k => match k with
  | 0 => ("RunHeap$Adviser", "best", "LRunHeap$Moves;", true)
  | 1 => ("RunHeap$Adviser", "given", "Z", false)
  | 2 => ("RunHeap$Adviser", "lowest", "I", false)
  | 3 => ("RunHeap$Adviser", "row", "LRunHeap$Row;", true)
  | 4 => ("RunHeap$Adviser", "trial", "LRunHeap$Moves;", true)
  | 5 => ("RunHeap$Adviser", "movable", "[I", true)
  | 6 => ("RunHeap$Adviser", "movables", "I", false)
  | _ => ("RunHeap$Adviser", "left", "[I", true)
def tyX0 : Nat → FieldType := fun k => match k with
  | 0 => .object "RunHeap$Moves"
  | 1 => .boolean
  | 2 => .int
  | 3 => .object "RunHeap$Row"
  | 4 => .object "RunHeap$Moves"
  | 5 => .array .int
  | 6 => .int
  | _ => .array .int
abbrev wsX00 : List Cond := u_ws RX0 TX0 8
theorem nmX0 : ∀ a, a < 8 → ∀ b, b < 8 → a ≠ b → (TX0 a).2.1 ≠ (TX0 b).2.1 := by decide +kernel
theorem tyX0_ok : ∀ k, k < 8 → parseFieldDescriptor (TX0 k).2.2.1 = some (tyX0 k) := by decide +kernel
abbrev cX0_init : ByteArray := prog_2_method_1_code
def yX0_init : MethodName := ⟨RX0, "<init>", "(LRunHeap$Row;I)V"⟩
abbrev cX0_drop : ByteArray := prog_2_method_2_code
def yX0_drop : MethodName := ⟨RX0, "drop", "()V"⟩
abbrev cX0_search : ByteArray := prog_2_method_3_code
def yX0_search : MethodName := ⟨RX0, "search", "(I)V"⟩
abbrev cX0_rankMovables : ByteArray := prog_2_method_4_code
def yX0_rankMovables : MethodName := ⟨RX0, "rankMovables", "()V"⟩
abbrev cX0_placeVictims : ByteArray := prog_2_method_5_code
def yX0_placeVictims : MethodName := ⟨RX0, "placeVictims", "(II)Z"⟩
abbrev cX0_lowestPlace : ByteArray := prog_2_method_6_code
def yX0_lowestPlace : MethodName := ⟨RX0, "lowestPlace", "(II)I"⟩
def RX1 : String := "RunHeap$Moves"
def TX1 : u_T := fun k => match k with
  | 0 => ("RunHeap$Moves", "from", "[I", true)
  | 1 => ("RunHeap$Moves", "to", "[I", true)
  | _ => ("RunHeap$Moves", "made", "I", false)
def tyX1 : Nat → FieldType := fun k => match k with
  | 0 => .array .int
  | 1 => .array .int
  | _ => .int
abbrev wsX10 : List Cond := u_ws RX1 TX1 3
theorem nmX1 : ∀ a, a < 3 → ∀ b, b < 3 → a ≠ b → (TX1 a).2.1 ≠ (TX1 b).2.1 := by decide +kernel
theorem tyX1_ok : ∀ k, k < 3 → parseFieldDescriptor (TX1 k).2.2.1 = some (tyX1 k) := by decide +kernel
abbrev cX1_init : ByteArray := prog_3_method_1_code
def yX1_init : MethodName := ⟨RX1, "<init>", "(I)V"⟩
abbrev cX1_put : ByteArray := prog_3_method_2_code
def yX1_put : MethodName := ⟨RX1, "put", "(II)V"⟩
abbrev cX1_takeOver : ByteArray := prog_3_method_3_code
def yX1_takeOver : MethodName := ⟨RX1, "takeOver", "(LRunHeap$Moves;)V"⟩
abbrev cX1_placeOf : ByteArray := prog_3_method_4_code
def yX1_placeOf : MethodName := ⟨RX1, "placeOf", "(I)I"⟩
def RX2 : String := "RunHeap$Row"
def TX2 : u_T := fun k => match k with
  | 0 => ("RunHeap$Row", "address", "[I", true)
  | 1 => ("RunHeap$Row", "size", "[I", true)
  | 2 => ("RunHeap$Row", "kind", "[I", true)
  | _ => ("RunHeap$Row", "blocks", "I", false)
def tyX2 : Nat → FieldType := fun k => match k with
  | 0 => .array .int
  | 1 => .array .int
  | 2 => .array .int
  | _ => .int
abbrev wsX20 : List Cond := u_ws RX2 TX2 4
theorem nmX2 : ∀ a, a < 4 → ∀ b, b < 4 → a ≠ b → (TX2 a).2.1 ≠ (TX2 b).2.1 := by decide +kernel
theorem tyX2_ok : ∀ k, k < 4 → parseFieldDescriptor (TX2 k).2.2.1 = some (tyX2 k) := by decide +kernel
abbrev cX2_init : ByteArray := prog_4_method_1_code
def yX2_init : MethodName := ⟨RX2, "<init>", "(I)V"⟩
abbrev cX2_end : ByteArray := prog_4_method_2_code
def yX2_end : MethodName := ⟨RX2, "end", "(I)I"⟩
abbrev cX2_liveIndex : ByteArray := prog_4_method_3_code
def yX2_liveIndex : MethodName := ⟨RX2, "liveIndex", "(I)I"⟩
abbrev cX2_freeIndex : ByteArray := prog_4_method_4_code
def yX2_freeIndex : MethodName := ⟨RX2, "freeIndex", "(I)I"⟩
abbrev cX2_indexOf : ByteArray := prog_4_method_5_code
def yX2_indexOf : MethodName := ⟨RX2, "indexOf", "(I)I"⟩
abbrev cX2_freeBlocks : ByteArray := prog_4_method_6_code
def yX2_freeBlocks : MethodName := ⟨RX2, "freeBlocks", "()I"⟩
abbrev cX2_liveBlocks : ByteArray := prog_4_method_7_code
def yX2_liveBlocks : MethodName := ⟨RX2, "liveBlocks", "()I"⟩
abbrev cX2_freeWords : ByteArray := prog_4_method_8_code
def yX2_freeWords : MethodName := ⟨RX2, "freeWords", "()I"⟩
abbrev cX2_largestFree : ByteArray := prog_4_method_9_code
def yX2_largestFree : MethodName := ⟨RX2, "largestFree", "()I"⟩
abbrev cX2_freeAddress : ByteArray := prog_4_method_10_code
def yX2_freeAddress : MethodName := ⟨RX2, "freeAddress", "(I)I"⟩
abbrev cX2_freeBehind : ByteArray := prog_4_method_11_code
def yX2_freeBehind : MethodName := ⟨RX2, "freeBehind", "(I)I"⟩
abbrev cX2_carve : ByteArray := prog_4_method_12_code
def yX2_carve : MethodName := ⟨RX2, "carve", "(III)V"⟩
abbrev cX2_release : ByteArray := prog_4_method_13_code
def yX2_release : MethodName := ⟨RX2, "release", "(I)V"⟩
abbrev cX2_extend : ByteArray := prog_4_method_14_code
def yX2_extend : MethodName := ⟨RX2, "extend", "(II)V"⟩
abbrev cX2_shorten : ByteArray := prog_4_method_15_code
def yX2_shorten : MethodName := ⟨RX2, "shorten", "(II)V"⟩
abbrev cX2_isFree : ByteArray := prog_4_method_16_code
def yX2_isFree : MethodName := ⟨RX2, "isFree", "(I)Z"⟩
abbrev cX2_split : ByteArray := prog_4_method_17_code
def yX2_split : MethodName := ⟨RX2, "split", "(II)V"⟩
abbrev cX2_join : ByteArray := prog_4_method_18_code
def yX2_join : MethodName := ⟨RX2, "join", "(I)V"⟩
abbrev cX2_shift : ByteArray := prog_4_method_19_code
def yX2_shift : MethodName := ⟨RX2, "shift", "(II)V"⟩
def RX3 : String := "RunHeap$Tree"
def TX3 : u_T := fun k => match k with
  | 0 => ("RunHeap$Tree", "row", "LRunHeap$Row;", true)
  | 1 => ("RunHeap$Tree", "spineSize", "[I", true)
  | _ => ("RunHeap$Tree", "spineDepth", "[I", true)
def tyX3 : Nat → FieldType := fun k => match k with
  | 0 => .object "RunHeap$Row"
  | 1 => .array .int
  | _ => .array .int
abbrev wsX30 : List Cond := u_ws RX3 TX3 3
theorem nmX3 : ∀ a, a < 3 → ∀ b, b < 3 → a ≠ b → (TX3 a).2.1 ≠ (TX3 b).2.1 := by decide +kernel
theorem tyX3_ok : ∀ k, k < 3 → parseFieldDescriptor (TX3 k).2.2.1 = some (tyX3 k) := by decide +kernel
abbrev cX3_init : ByteArray := prog_5_method_1_code
def yX3_init : MethodName := ⟨RX3, "<init>", "(LRunHeap$Row;I)V"⟩
abbrev cX3_depth : ByteArray := prog_5_method_2_code
def yX3_depth : MethodName := ⟨RX3, "depth", "()I"⟩
abbrev cX3_depthOfSpine : ByteArray := prog_5_method_3_code
def yX3_depthOfSpine : MethodName := ⟨RX3, "depthOfSpine", "(II)I"⟩
abbrev cX3_topToTheLeft : ByteArray := prog_5_method_4_code
def yX3_topToTheLeft : MethodName := ⟨RX3, "topToTheLeft", "(I)I"⟩
abbrev cX3_topToTheRight : ByteArray := prog_5_method_5_code
def yX3_topToTheRight : MethodName := ⟨RX3, "topToTheRight", "(I)I"⟩
def RX4 : String := "RunHeap"
def TX4 : u_T := fun k => match k with
  | 0 => ("RunHeap", "memory", "[I", true)
  | 1 => ("RunHeap", "row", "LRunHeap$Row;", true)
  | 2 => ("RunHeap", "tree", "LRunHeap$Tree;", true)
  | 3 => ("RunHeap", "adviser", "LRunHeap$Adviser;", true)
  | _ => ("RunHeap", "applied", "LRunHeap$Moves;", true)
def tyX4 : Nat → FieldType := fun k => match k with
  | 0 => .array .int
  | 1 => .object "RunHeap$Row"
  | 2 => .object "RunHeap$Tree"
  | 3 => .object "RunHeap$Adviser"
  | _ => .object "RunHeap$Moves"
abbrev wsX40 : List Cond := u_ws RX4 TX4 5
theorem nmX4 : ∀ a, a < 5 → ∀ b, b < 5 → a ≠ b → (TX4 a).2.1 ≠ (TX4 b).2.1 := by decide +kernel
theorem tyX4_ok : ∀ k, k < 5 → parseFieldDescriptor (TX4 k).2.2.1 = some (tyX4 k) := by decide +kernel
abbrev cX4_init : ByteArray := prog_1_method_1_code
def yX4_init : MethodName := ⟨RX4, "<init>", "(I)V"⟩
abbrev cX4_give : ByteArray := prog_1_method_2_code
def yX4_give : MethodName := ⟨RX4, "give", "(I)I"⟩
abbrev cX4_giveAligned : ByteArray := prog_1_method_3_code
def yX4_giveAligned : MethodName := ⟨RX4, "giveAligned", "(II)I"⟩
abbrev cX4_free : ByteArray := prog_1_method_4_code
def yX4_free : MethodName := ⟨RX4, "free", "(I)Z"⟩
abbrev cX4_grow : ByteArray := prog_1_method_5_code
def yX4_grow : MethodName := ⟨RX4, "grow", "(II)Z"⟩
abbrev cX4_trim : ByteArray := prog_1_method_6_code
def yX4_trim : MethodName := ⟨RX4, "trim", "(II)Z"⟩
abbrev cX4_pin : ByteArray := prog_1_method_7_code
def yX4_pin : MethodName := ⟨RX4, "pin", "(IZ)Z"⟩
abbrev cX4_get : ByteArray := prog_1_method_8_code
def yX4_get : MethodName := ⟨RX4, "get", "(II)I"⟩
abbrev cX4_set : ByteArray := prog_1_method_9_code
def yX4_set : MethodName := ⟨RX4, "set", "(III)I"⟩
abbrev cX4_sizeOf : ByteArray := prog_1_method_10_code
def yX4_sizeOf : MethodName := ⟨RX4, "sizeOf", "(I)I"⟩
abbrev cX4_largest : ByteArray := prog_1_method_11_code
def yX4_largest : MethodName := ⟨RX4, "largest", "()I"⟩
abbrev cX4_count : ByteArray := prog_1_method_12_code
def yX4_count : MethodName := ⟨RX4, "count", "(I)I"⟩
abbrev cX4_freeAt : ByteArray := prog_1_method_13_code
def yX4_freeAt : MethodName := ⟨RX4, "freeAt", "(I)I"⟩
abbrev cX4_branch : ByteArray := prog_1_method_14_code
def yX4_branch : MethodName := ⟨RX4, "branch", "(II)I"⟩
abbrev cX4_advise : ByteArray := prog_1_method_15_code
def yX4_advise : MethodName := ⟨RX4, "advise", "(I)I"⟩
abbrev cX4_window : ByteArray := prog_1_method_16_code
def yX4_window : MethodName := ⟨RX4, "window", "()I"⟩
abbrev cX4_move : ByteArray := prog_1_method_17_code
def yX4_move : MethodName := ⟨RX4, "move", "(II)I"⟩
abbrev cX4_apply : ByteArray := prog_1_method_18_code
def yX4_apply : MethodName := ⟨RX4, "apply", "()I"⟩
abbrev cX4_moved : ByteArray := prog_1_method_19_code
def yX4_moved : MethodName := ⟨RX4, "moved", "(I)I"⟩
abbrev cX4_sizeFor : ByteArray := prog_1_method_20_code
def yX4_sizeFor : MethodName := ⟨RX4, "sizeFor", "(I)I"⟩
abbrev cX4_nextMultiple : ByteArray := prog_1_method_21_code
def yX4_nextMultiple : MethodName := ⟨RX4, "nextMultiple", "(II)I"⟩
abbrev cX4_giveAtMultiple : ByteArray := prog_1_method_22_code
def yX4_giveAtMultiple : MethodName := ⟨RX4, "giveAtMultiple", "(II)I"⟩
abbrev cX4_clearPayload : ByteArray := prog_1_method_23_code
def yX4_clearPayload : MethodName := ⟨RX4, "clearPayload", "(III)V"⟩
abbrev cX4_payloadWord : ByteArray := prog_1_method_24_code
def yX4_payloadWord : MethodName := ⟨RX4, "payloadWord", "(II)I"⟩
abbrev cX4_copyBlock : ByteArray := prog_1_method_25_code
def yX4_copyBlock : MethodName := ⟨RX4, "copyBlock", "(II)V"⟩
abbrev cX4_leaveBlock : ByteArray := prog_1_method_26_code
def yX4_leaveBlock : MethodName := ⟨RX4, "leaveBlock", "(I)V"⟩
def RX5 : String := "RunHeapModel"
def TX5 : u_T := fun k => match k with
  | 0 => ("RunHeapModel", "thrown", "I", false)
  | 1 => ("RunHeapModel", "groups", "I", true)
  | 2 => ("RunHeapModel", "size", "[I", true)
  | 3 => ("RunHeapModel", "live", "[Z", true)
  | 4 => ("RunHeapModel", "pinned", "[Z", true)
  | 5 => ("RunHeapModel", "words", "[I", true)
  | 6 => ("RunHeapModel", "advised", "Z", false)
  | 7 => ("RunHeapModel", "windowAt", "I", false)
  | 8 => ("RunHeapModel", "moves", "I", false)
  | 9 => ("RunHeapModel", "movesFrom", "[I", true)
  | 10 => ("RunHeapModel", "movesTo", "[I", true)
  | 11 => ("RunHeapModel", "done", "I", false)
  | 12 => ("RunHeapModel", "doneFrom", "[I", true)
  | 13 => ("RunHeapModel", "doneTo", "[I", true)
  | 14 => ("RunHeapModel", "victims", "I", false)
  | 15 => ("RunHeapModel", "victim", "[I", true)
  | 16 => ("RunHeapModel", "placed", "[I", true)
  | _ => ("RunHeapModel", "left", "[I", true)
def tyX5 : Nat → FieldType := fun k => match k with
  | 0 => .int
  | 1 => .int
  | 2 => .array .int
  | 3 => .array .boolean
  | 4 => .array .boolean
  | 5 => .array .int
  | 6 => .boolean
  | 7 => .int
  | 8 => .int
  | 9 => .array .int
  | 10 => .array .int
  | 11 => .int
  | 12 => .array .int
  | 13 => .array .int
  | 14 => .int
  | 15 => .array .int
  | 16 => .array .int
  | _ => .array .int
abbrev wsX50 : List Cond := u_ws RX5 TX5 18
theorem nmX5 : ∀ a, a < 18 → ∀ b, b < 18 → a ≠ b → (TX5 a).2.1 ≠ (TX5 b).2.1 := by decide +kernel
theorem tyX5_ok : ∀ k, k < 18 → parseFieldDescriptor (TX5 k).2.2.1 = some (tyX5 k) := by decide +kernel
abbrev cX5_init : ByteArray := prog_7_method_1_code
def yX5_init : MethodName := ⟨RX5, "<init>", "(I)V"⟩
abbrev cX5_thrown : ByteArray := prog_7_method_2_code
def yX5_thrown : MethodName := ⟨RX5, "thrown", "()I"⟩
abbrev cX5_address : ByteArray := prog_7_method_3_code
def yX5_address : MethodName := ⟨RX5, "address", "(I)I"⟩
abbrev cX5_find : ByteArray := prog_7_method_4_code
def yX5_find : MethodName := ⟨RX5, "find", "(I)I"⟩
abbrev cX5_isFree : ByteArray := prog_7_method_5_code
def yX5_isFree : MethodName := ⟨RX5, "isFree", "(I)Z"⟩
abbrev cX5_groupsFor : ByteArray := prog_7_method_6_code
def yX5_groupsFor : MethodName := ⟨RX5, "groupsFor", "(I)I"⟩
abbrev cX5_joins : ByteArray := prog_7_method_7_code
def yX5_joins : MethodName := ⟨RX5, "joins", "()V"⟩
abbrev cX5_takes : ByteArray := prog_7_method_8_code
def yX5_takes : MethodName := ⟨RX5, "takes", "(III)V"⟩
abbrev cX5_give : ByteArray := prog_7_method_9_code
def yX5_give : MethodName := ⟨RX5, "give", "(I)I"⟩
abbrev cX5_giveAligned : ByteArray := prog_7_method_10_code
def yX5_giveAligned : MethodName := ⟨RX5, "giveAligned", "(II)I"⟩
abbrev cX5_gives : ByteArray := prog_7_method_11_code
def yX5_gives : MethodName := ⟨RX5, "gives", "(II)I"⟩
abbrev cX5_free : ByteArray := prog_7_method_12_code
def yX5_free : MethodName := ⟨RX5, "free", "(I)Z"⟩
abbrev cX5_grow : ByteArray := prog_7_method_13_code
def yX5_grow : MethodName := ⟨RX5, "grow", "(II)Z"⟩
abbrev cX5_trim : ByteArray := prog_7_method_14_code
def yX5_trim : MethodName := ⟨RX5, "trim", "(II)Z"⟩
abbrev cX5_pin : ByteArray := prog_7_method_15_code
def yX5_pin : MethodName := ⟨RX5, "pin", "(IZ)Z"⟩
abbrev cX5_get : ByteArray := prog_7_method_16_code
def yX5_get : MethodName := ⟨RX5, "get", "(II)I"⟩
abbrev cX5_set : ByteArray := prog_7_method_17_code
def yX5_set : MethodName := ⟨RX5, "set", "(III)I"⟩
abbrev cX5_sizeOf : ByteArray := prog_7_method_18_code
def yX5_sizeOf : MethodName := ⟨RX5, "sizeOf", "(I)I"⟩
abbrev cX5_top : ByteArray := prog_7_method_19_code
def yX5_top : MethodName := ⟨RX5, "top", "(II)I"⟩
abbrev cX5_largest : ByteArray := prog_7_method_20_code
def yX5_largest : MethodName := ⟨RX5, "largest", "()I"⟩
abbrev cX5_depth : ByteArray := prog_7_method_21_code
def yX5_depth : MethodName := ⟨RX5, "depth", "(I)I"⟩
abbrev cX5_count : ByteArray := prog_7_method_22_code
def yX5_count : MethodName := ⟨RX5, "count", "(I)I"⟩
abbrev cX5_freeAt : ByteArray := prog_7_method_23_code
def yX5_freeAt : MethodName := ⟨RX5, "freeAt", "(I)I"⟩
abbrev cX5_branch : ByteArray := prog_7_method_24_code
def yX5_branch : MethodName := ⟨RX5, "branch", "(II)I"⟩
abbrev cX5_windowEnd : ByteArray := prog_7_method_25_code
def yX5_windowEnd : MethodName := ⟨RX5, "windowEnd", "(II)I"⟩
abbrev cX5_gathers : ByteArray := prog_7_method_26_code
def yX5_gathers : MethodName := ⟨RX5, "gathers", "(II)V"⟩
abbrev cX5_places : ByteArray := prog_7_method_27_code
def yX5_places : MethodName := ⟨RX5, "places", "(II)Z"⟩
abbrev cX5_advise : ByteArray := prog_7_method_28_code
def yX5_advise : MethodName := ⟨RX5, "advise", "(I)I"⟩
abbrev cX5_window : ByteArray := prog_7_method_29_code
def yX5_window : MethodName := ⟨RX5, "window", "()I"⟩
abbrev cX5_move : ByteArray := prog_7_method_30_code
def yX5_move : MethodName := ⟨RX5, "move", "(II)I"⟩
abbrev cX5_goes : ByteArray := prog_7_method_31_code
def yX5_goes : MethodName := ⟨RX5, "goes", "(II)V"⟩
abbrev cX5_apply : ByteArray := prog_7_method_32_code
def yX5_apply : MethodName := ⟨RX5, "apply", "()I"⟩
abbrev cX5_moved : ByteArray := prog_7_method_33_code
def yX5_moved : MethodName := ⟨RX5, "moved", "(I)I"⟩
def RJ7 : String := "java/util/Arrays"
def TJ7 : u_T := fun k => match k with
  | _ => ("", "", "", false)
def tyJ7 : Nat → FieldType := fun k => match k with
  | _ => .int
abbrev wsJ70 : List Cond := u_ws RJ7 TJ7 0
theorem nmJ7 : ∀ a, a < 0 → ∀ b, b < 0 → a ≠ b → (TJ7 a).2.1 ≠ (TJ7 b).2.1 := by decide +kernel
theorem tyJ7_ok : ∀ k, k < 0 → parseFieldDescriptor (TJ7 k).2.2.1 = some (tyJ7 k) := by decide +kernel
abbrev cJ7_rangeCheck_23922 : ByteArray := prog_30_method_30_code
def yJ7_rangeCheck_23922 : MethodName := ⟨RJ7, "rangeCheck", "(III)V"⟩
abbrev cJ7_fill_fda19 : ByteArray := prog_30_method_104_code
def yJ7_fill_fda19 : MethodName := ⟨RJ7, "fill", "([IIII)V"⟩
abbrev cJ7_copyOf_9075b : ByteArray := prog_30_method_121_code
def yJ7_copyOf_9075b : MethodName := ⟨RJ7, "copyOf", "([BI)[B"⟩
abbrev cJ7_checkLength_df160 : ByteArray := prog_30_method_131_code
def yJ7_checkLength_df160 : MethodName := ⟨RJ7, "checkLength", "(II)V"⟩
abbrev cJ7_copyOfRange_39247 : ByteArray := prog_30_method_132_code
def yJ7_copyOfRange_39247 : MethodName := ⟨RJ7, "copyOfRange", "([BII)[B"⟩
abbrev cJ7_copyOfRangeByte_39247 : ByteArray := prog_30_method_133_code
def yJ7_copyOfRangeByte_39247 : MethodName := ⟨RJ7, "copyOfRangeByte", "([BII)[B"⟩
def RL : String := "RunHeapLaw"
abbrev cL_cell : ByteArray := method_2_code
def yL_cell : MethodName := ⟨RL, "cell", "([II)I"⟩
abbrev cL_get : ByteArray := method_3_code
def yL_get : MethodName := ⟨RL, "get", "(LRunHeap;II[J)I"⟩
abbrev cL_set : ByteArray := method_4_code
def yL_set : MethodName := ⟨RL, "set", "(LRunHeap;III[J)I"⟩
abbrev cL_branch : ByteArray := method_5_code
def yL_branch : MethodName := ⟨RL, "branch", "(LRunHeap;II[J)I"⟩
abbrev cL_move : ByteArray := method_6_code
def yL_move : MethodName := ⟨RL, "move", "(LRunHeap;II[J)I"⟩
abbrev cL_law : ByteArray := code
def yL_law : MethodName := ⟨RL, "law", "([I)Z"⟩
def wA_0 : List Cond := [.arrayClass .boolean, .arrayClass .int, .arrayClass .long, .classLink RL 13 "java/util/NoSuchElementException", .classLink RL 15 "java/lang/IndexOutOfBoundsException", .classLink RL 24 "java/lang/IllegalArgumentException", .classLink RL 38 RX5, .classLink RL 8 RX4, .classLink RX0 21 RX1, .classLink RX4 122 "java/util/NoSuchElementException", .classLink RX4 135 "java/lang/IllegalArgumentException", .classLink RX4 150 "java/lang/IndexOutOfBoundsException", .classLink RX4 22 RX2, .classLink RX4 31 RX3, .classLink RX4 40 RX0, .classLink RX4 47 RX1, .code Lib.Math.max.name Lib.Math.max.code 2 (some .int), .code Lib.Math.min.name Lib.Math.min.code 2 (some .int), .code objectInit ⟨#[0xb1]⟩ 1 none, .code yJ7_fill_fda19 cJ7_fill_fda19 5 none, .code yJ7_rangeCheck_23922 cJ7_rangeCheck_23922 3 none, .code yL_cell cL_cell 2 (some .int), .code yX0_drop cX0_drop 1 none, .code yX0_init cX0_init 4 none, .code yX0_lowestPlace cX0_lowestPlace 4 (some .int), .code yX0_placeVictims cX0_placeVictims 7 (some .boolean), .code yX0_rankMovables cX0_rankMovables 3 none, .code yX0_search cX0_search 9 none, .code yX1_init cX1_init 2 none, .code yX1_placeOf cX1_placeOf 3 (some .int), .code yX1_put cX1_put 3 none, .code yX1_takeOver cX1_takeOver 3 none]
def wA_1 : List Cond := [.code yX2_carve cX2_carve 6 none, .code yX2_end cX2_end 2 (some .int), .code yX2_extend cX2_extend 3 none, .code yX2_freeAddress cX2_freeAddress 4 (some .int), .code yX2_freeBehind cX2_freeBehind 2 (some .int), .code yX2_freeBlocks cX2_freeBlocks 3 (some .int), .code yX2_freeIndex cX2_freeIndex 3 (some .int), .code yX2_freeWords cX2_freeWords 3 (some .int), .code yX2_indexOf cX2_indexOf 3 (some .int), .code yX2_init cX2_init 2 none, .code yX2_isFree cX2_isFree 2 (some .boolean), .code yX2_join cX2_join 2 none, .code yX2_largestFree cX2_largestFree 3 (some .int), .code yX2_liveBlocks cX2_liveBlocks 1 (some .int), .code yX2_liveIndex cX2_liveIndex 3 (some .int), .code yX2_release cX2_release 2 none, .code yX2_shift cX2_shift 4 none, .code yX2_shorten cX2_shorten 3 none, .code yX2_split cX2_split 4 none, .code yX3_depth cX3_depth 4 (some .int), .code yX3_depthOfSpine cX3_depthOfSpine 5 (some .int), .code yX3_init cX3_init 3 none, .code yX3_topToTheLeft cX3_topToTheLeft 5 (some .int), .code yX3_topToTheRight cX3_topToTheRight 5 (some .int), .code yX4_advise cX4_advise 2 (some .int), .code yX4_apply cX4_apply 2 (some .int), .code yX4_branch cX4_branch 4 (some .int), .code yX4_clearPayload cX4_clearPayload 4 none, .code yX4_copyBlock cX4_copyBlock 6 none, .code yX4_count cX4_count 2 (some .int), .code yX4_free cX4_free 3 (some .boolean), .code yX4_freeAt cX4_freeAt 2 (some .int)]
def wA_2 : List Cond := [.code yX4_get cX4_get 3 (some .int), .code yX4_give cX4_give 2 (some .int), .code yX4_giveAligned cX4_giveAligned 4 (some .int), .code yX4_giveAtMultiple cX4_giveAtMultiple 6 (some .int), .code yX4_grow cX4_grow 6 (some .boolean), .code yX4_init cX4_init 4 none, .code yX4_largest cX4_largest 1 (some .int), .code yX4_leaveBlock cX4_leaveBlock 3 none, .code yX4_move cX4_move 4 (some .int), .code yX4_moved cX4_moved 2 (some .int), .code yX4_nextMultiple cX4_nextMultiple 2 (some .int), .code yX4_payloadWord cX4_payloadWord 4 (some .int), .code yX4_pin cX4_pin 4 (some .boolean), .code yX4_set cX4_set 6 (some .int), .code yX4_sizeFor cX4_sizeFor 1 (some .int), .code yX4_sizeOf cX4_sizeOf 3 (some .int), .code yX4_trim cX4_trim 5 (some .boolean), .code yX4_window cX4_window 1 (some .int), .code yX5_address cX5_address 1 (some .int), .code yX5_advise cX5_advise 5 (some .int), .code yX5_apply cX5_apply 2 (some .int), .code yX5_branch cX5_branch 9 (some .int), .code yX5_count cX5_count 8 (some .int), .code yX5_depth cX5_depth 4 (some .int), .code yX5_find cX5_find 3 (some .int), .code yX5_free cX5_free 3 (some .boolean), .code yX5_freeAt cX5_freeAt 4 (some .int), .code yX5_gathers cX5_gathers 5 none, .code yX5_get cX5_get 4 (some .int), .code yX5_give cX5_give 2 (some .int), .code yX5_giveAligned cX5_giveAligned 4 (some .int), .code yX5_gives cX5_gives 6 (some .int)]
def wA_3 : List Cond := [.code yX5_goes cX5_goes 6 none, .code yX5_groupsFor cX5_groupsFor 2 (some .int), .code yX5_grow cX5_grow 8 (some .boolean), .code yX5_init cX5_init 3 none, .code yX5_isFree cX5_isFree 2 (some .boolean), .code yX5_joins cX5_joins 3 none, .code yX5_largest cX5_largest 2 (some .int), .code yX5_move cX5_move 3 (some .int), .code yX5_moved cX5_moved 3 (some .int), .code yX5_pin cX5_pin 4 (some .boolean), .code yX5_places cX5_places 6 (some .boolean), .code yX5_set cX5_set 5 (some .int), .code yX5_sizeOf cX5_sizeOf 3 (some .int), .code yX5_takes cX5_takes 7 none, .code yX5_thrown cX5_thrown 1 (some .int), .code yX5_top cX5_top 5 (some .int), .code yX5_trim cX5_trim 5 (some .boolean), .code yX5_window cX5_window 1 (some .int), .code yX5_windowEnd cX5_windowEnd 4 (some .int), .constantLong RX5 92 (4), .fieldLink RX0 15 "RunHeap$Adviser" "row" "LRunHeap$Row;", .fieldLink RX0 26 "RunHeap$Adviser" "best" "LRunHeap$Moves;", .fieldLink RX0 30 "RunHeap$Adviser" "trial" "LRunHeap$Moves;", .fieldLink RX0 33 "RunHeap$Adviser" "movable" "[I", .fieldLink RX0 37 "RunHeap$Adviser" "left" "[I", .fieldLink RX0 40 "RunHeap$Adviser" "given" "Z", .fieldLink RX0 44 "RunHeap$Moves" "made" "I", .fieldLink RX0 57 "RunHeap$Row" "blocks" "I", .fieldLink RX0 63 "RunHeap$Row" "kind" "[I", .fieldLink RX0 66 "RunHeap$Row" "size" "[I", .fieldLink RX0 73 "RunHeap$Row" "address" "[I", .fieldLink RX0 76 "RunHeap$Adviser" "lowest" "I"]
def wA_4 : List Cond := [.fieldLink RX0 83 "RunHeap$Adviser" "movables" "I", .fieldLink RX1 15 "RunHeap$Moves" "to" "[I", .fieldLink RX1 18 "RunHeap$Moves" "made" "I", .fieldLink RX1 9 "RunHeap$Moves" "from" "[I", .fieldLink RX2 15 "RunHeap$Row" "size" "[I", .fieldLink RX2 18 "RunHeap$Row" "kind" "[I", .fieldLink RX2 21 "RunHeap$Row" "blocks" "I", .fieldLink RX2 9 "RunHeap$Row" "address" "[I", .fieldLink RX3 15 "RunHeap$Tree" "spineSize" "[I", .fieldLink RX3 19 "RunHeap$Tree" "spineDepth" "[I", .fieldLink RX3 22 "RunHeap$Row" "blocks" "I", .fieldLink RX3 28 "RunHeap$Row" "kind" "[I", .fieldLink RX3 31 "RunHeap$Row" "size" "[I", .fieldLink RX3 43 "RunHeap$Row" "address" "[I", .fieldLink RX3 9 "RunHeap$Tree" "row" "LRunHeap$Row;", .fieldLink RX4 106 "RunHeap$Adviser" "best" "LRunHeap$Moves;", .fieldLink RX4 109 "RunHeap$Moves" "made" "I", .fieldLink RX4 143 "RunHeap$Adviser" "given" "Z", .fieldLink RX4 147 "RunHeap$Adviser" "lowest" "I", .fieldLink RX4 157 "RunHeap$Moves" "from" "[I", .fieldLink RX4 160 "RunHeap$Moves" "to" "[I", .fieldLink RX4 176 "RunHeap$Row" "blocks" "I", .fieldLink RX4 179 "RunHeap$Row" "address" "[I", .fieldLink RX4 18 "RunHeap" "memory" "[I", .fieldLink RX4 27 "RunHeap" "row" "LRunHeap$Row;", .fieldLink RX4 36 "RunHeap" "tree" "LRunHeap$Tree;", .fieldLink RX4 43 "RunHeap" "adviser" "LRunHeap$Adviser;", .fieldLink RX4 50 "RunHeap" "applied" "LRunHeap$Moves;", .fieldLink RX4 67 "RunHeap$Row" "size" "[I", .fieldLink RX4 87 "RunHeap$Row" "kind" "[I", .fieldLink RX5 111 "RunHeapModel" "windowAt" "I", .fieldLink RX5 114 "RunHeapModel" "done" "I"]
def wA_5 : List Cond := [.fieldLink RX5 13 "RunHeapModel" "live" "[Z", .fieldLink RX5 17 "RunHeapModel" "pinned" "[Z", .fieldLink RX5 20 "RunHeapModel" "words" "[I", .fieldLink RX5 23 "RunHeapModel" "movesFrom" "[I", .fieldLink RX5 26 "RunHeapModel" "movesTo" "[I", .fieldLink RX5 29 "RunHeapModel" "doneFrom" "[I", .fieldLink RX5 32 "RunHeapModel" "doneTo" "[I", .fieldLink RX5 35 "RunHeapModel" "victim" "[I", .fieldLink RX5 38 "RunHeapModel" "placed" "[I", .fieldLink RX5 41 "RunHeapModel" "left" "[I", .fieldLink RX5 44 "RunHeapModel" "groups" "I", .fieldLink RX5 48 "RunHeapModel" "thrown" "I", .fieldLink RX5 7 "RunHeapModel" "size" "[I", .fieldLink RX5 70 "RunHeapModel" "advised" "Z", .fieldLink RX5 89 "RunHeapModel" "moves" "I", .fieldLink RX5 94 "RunHeapModel" "victims" "I", .initialized "java/lang/IllegalArgumentException", .initialized "java/lang/IndexOutOfBoundsException", .initialized "java/lang/Math", .initialized "java/lang/System", .initialized "java/util/NoSuchElementException", .initialized RJ7, .initialized RL, .initialized RX0, .initialized RX1, .initialized RX2, .initialized RX3, .initialized RX4, .initialized RX5, .instanceMethod objectInit, .instanceMethod yX0_drop, .instanceMethod yX0_init]
def wA_6 : List Cond := [.instanceMethod yX0_lowestPlace, .instanceMethod yX0_placeVictims, .instanceMethod yX0_rankMovables, .instanceMethod yX0_search, .instanceMethod yX1_init, .instanceMethod yX1_placeOf, .instanceMethod yX1_put, .instanceMethod yX1_takeOver, .instanceMethod yX2_carve, .instanceMethod yX2_end, .instanceMethod yX2_extend, .instanceMethod yX2_freeAddress, .instanceMethod yX2_freeBehind, .instanceMethod yX2_freeBlocks, .instanceMethod yX2_freeIndex, .instanceMethod yX2_freeWords, .instanceMethod yX2_indexOf, .instanceMethod yX2_init, .instanceMethod yX2_isFree, .instanceMethod yX2_join, .instanceMethod yX2_largestFree, .instanceMethod yX2_liveBlocks, .instanceMethod yX2_liveIndex, .instanceMethod yX2_release, .instanceMethod yX2_shift, .instanceMethod yX2_shorten, .instanceMethod yX2_split, .instanceMethod yX3_depth, .instanceMethod yX3_depthOfSpine, .instanceMethod yX3_init, .instanceMethod yX3_topToTheLeft, .instanceMethod yX3_topToTheRight]
def wA_7 : List Cond := [.instanceMethod yX4_advise, .instanceMethod yX4_apply, .instanceMethod yX4_branch, .instanceMethod yX4_clearPayload, .instanceMethod yX4_copyBlock, .instanceMethod yX4_count, .instanceMethod yX4_free, .instanceMethod yX4_freeAt, .instanceMethod yX4_get, .instanceMethod yX4_give, .instanceMethod yX4_giveAligned, .instanceMethod yX4_giveAtMultiple, .instanceMethod yX4_grow, .instanceMethod yX4_init, .instanceMethod yX4_largest, .instanceMethod yX4_leaveBlock, .instanceMethod yX4_move, .instanceMethod yX4_moved, .instanceMethod yX4_payloadWord, .instanceMethod yX4_pin, .instanceMethod yX4_set, .instanceMethod yX4_sizeOf, .instanceMethod yX4_trim, .instanceMethod yX4_window, .instanceMethod yX5_advise, .instanceMethod yX5_apply, .instanceMethod yX5_branch, .instanceMethod yX5_count, .instanceMethod yX5_depth, .instanceMethod yX5_find, .instanceMethod yX5_free, .instanceMethod yX5_freeAt]
def wA_8 : List Cond := [.instanceMethod yX5_gathers, .instanceMethod yX5_get, .instanceMethod yX5_give, .instanceMethod yX5_giveAligned, .instanceMethod yX5_gives, .instanceMethod yX5_goes, .instanceMethod yX5_groupsFor, .instanceMethod yX5_grow, .instanceMethod yX5_init, .instanceMethod yX5_isFree, .instanceMethod yX5_joins, .instanceMethod yX5_largest, .instanceMethod yX5_move, .instanceMethod yX5_moved, .instanceMethod yX5_pin, .instanceMethod yX5_places, .instanceMethod yX5_set, .instanceMethod yX5_sizeOf, .instanceMethod yX5_takes, .instanceMethod yX5_thrown, .instanceMethod yX5_top, .instanceMethod yX5_trim, .instanceMethod yX5_window, .instanceMethod yX5_windowEnd, .instantiable RX0 8, .instantiable RX1 3, .instantiable RX2 4, .instantiable RX3 3, .instantiable RX4 5, .instantiable RX5 18, .methodLink RJ7 13 yJ7_rangeCheck_23922, .methodLink RL 100 yX4_advise]
def wA_9 : List Cond := [.methodLink RL 103 yX5_advise, .methodLink RL 104 yX4_window, .methodLink RL 107 yX5_window, .methodLink RL 108 yL_move, .methodLink RL 110 yX5_move, .methodLink RL 111 yX4_apply, .methodLink RL 114 yX5_apply, .methodLink RL 115 yX4_moved, .methodLink RL 118 yX5_moved, .methodLink RL 17 yX4_set, .methodLink RL 21 yX4_branch, .methodLink RL 26 yX4_move, .methodLink RL 29 yL_cell, .methodLink RL 35 yX4_init, .methodLink RL 40 yX5_init, .methodLink RL 41 yX4_give, .methodLink RL 45 yX5_give, .methodLink RL 46 yX4_giveAligned, .methodLink RL 49 yX5_giveAligned, .methodLink RL 50 yX4_free, .methodLink RL 54 yX5_free, .methodLink RL 55 yX4_grow, .methodLink RL 59 yX5_grow, .methodLink RL 60 yX4_trim, .methodLink RL 63 yX5_trim, .methodLink RL 64 yX4_pin, .methodLink RL 68 yX5_pin, .methodLink RL 69 yL_get, .methodLink RL 7 yX4_get, .methodLink RL 72 yX5_get, .methodLink RL 73 yX5_thrown, .methodLink RL 77 yL_set]
def wA_10 : List Cond := [.methodLink RL 80 yX5_set, .methodLink RL 81 yX4_sizeOf, .methodLink RL 84 yX5_sizeOf, .methodLink RL 85 yX4_largest, .methodLink RL 88 yX5_largest, .methodLink RL 89 yX4_count, .methodLink RL 92 yX5_count, .methodLink RL 93 yX4_freeAt, .methodLink RL 96 yX5_freeAt, .methodLink RL 97 yL_branch, .methodLink RL 99 yX5_branch, .methodLink RX0 23 yX1_init, .methodLink RX0 3 objectInit, .methodLink RX0 48 yX0_rankMovables, .methodLink RX0 51 yX2_freeWords, .methodLink RX0 60 Lib.Math.max.name, .methodLink RX0 69 yX0_placeVictims, .methodLink RX0 79 yX1_takeOver, .methodLink RX0 86 yX0_lowestPlace, .methodLink RX0 89 yX2_end, .methodLink RX0 9 Lib.Math.min.name, .methodLink RX0 93 yX1_put, .methodLink RX1 22 yX1_put, .methodLink RX1 3 objectInit, .methodLink RX2 25 yX2_indexOf, .methodLink RX2 29 yX2_freeBlocks, .methodLink RX2 3 objectInit, .methodLink RX2 33 Lib.Math.max.name, .methodLink RX2 39 yX2_isFree, .methodLink RX2 43 yX2_split, .methodLink RX2 47 yX2_join, .methodLink RX2 51 yX2_release]
def wA_11 : List Cond := [.methodLink RX2 54 yX2_shift, .methodLink RX2 57 arraycopyName, .methodLink RX3 3 objectInit, .methodLink RX3 34 yX3_depthOfSpine, .methodLink RX3 38 Lib.Math.max.name, .methodLink RX4 1 objectInit, .methodLink RX4 100 yX2_freeWords, .methodLink RX4 103 yX2_liveBlocks, .methodLink RX4 113 yX3_depth, .methodLink RX4 116 yX2_freeAddress, .methodLink RX4 119 yX2_freeIndex, .methodLink RX4 129 yX3_topToTheLeft, .methodLink RX4 132 yX3_topToTheRight, .methodLink RX4 140 yX0_search, .methodLink RX4 15 Lib.Math.max.name, .methodLink RX4 163 yX1_takeOver, .methodLink RX4 167 yX4_copyBlock, .methodLink RX4 170 yX4_leaveBlock, .methodLink RX4 173 yX1_placeOf, .methodLink RX4 182 yX4_nextMultiple, .methodLink RX4 185 yX2_end, .methodLink RX4 188 yX2_carve, .methodLink RX4 191 yJ7_fill_fda19, .methodLink RX4 201 arraycopyName, .methodLink RX4 24 yX2_init, .methodLink RX4 33 yX3_init, .methodLink RX4 42 yX0_init, .methodLink RX4 49 yX1_init, .methodLink RX4 54 yX4_giveAtMultiple, .methodLink RX4 57 yX2_liveIndex, .methodLink RX4 61 yX2_release, .methodLink RX4 64 yX0_drop]
def wA_12 : List Cond := [.methodLink RX4 70 yX4_sizeFor, .methodLink RX4 73 yX2_freeBehind, .methodLink RX4 76 yX2_extend, .methodLink RX4 80 yX4_clearPayload, .methodLink RX4 84 yX2_shorten, .methodLink RX4 9 Lib.Math.min.name, .methodLink RX4 90 yX4_payloadWord, .methodLink RX4 93 yX2_largestFree, .methodLink RX4 97 yX2_freeBlocks, .methodLink RX5 1 objectInit, .methodLink RX5 100 yX5_windowEnd, .methodLink RX5 103 yX5_gathers, .methodLink RX5 107 yX5_places, .methodLink RX5 117 yX5_goes, .methodLink RX5 51 yX5_isFree, .methodLink RX5 55 yX5_address, .methodLink RX5 59 yX5_gives, .methodLink RX5 63 yX5_groupsFor, .methodLink RX5 66 yX5_takes, .methodLink RX5 74 yX5_find, .methodLink RX5 77 yX5_joins, .methodLink RX5 80 yX5_get, .methodLink RX5 83 yX5_top, .methodLink RX5 86 yX5_depth, .methodLink RX5 97 yX5_count, .native arraycopyName, .selects RX0 yX0_drop yX0_drop, .selects RX0 yX0_lowestPlace yX0_lowestPlace, .selects RX0 yX0_placeVictims yX0_placeVictims, .selects RX0 yX0_rankMovables yX0_rankMovables, .selects RX0 yX0_search yX0_search, .selects RX1 yX1_placeOf yX1_placeOf]
def wA_13 : List Cond := [.selects RX1 yX1_put yX1_put, .selects RX1 yX1_takeOver yX1_takeOver, .selects RX2 yX2_carve yX2_carve, .selects RX2 yX2_end yX2_end, .selects RX2 yX2_extend yX2_extend, .selects RX2 yX2_freeAddress yX2_freeAddress, .selects RX2 yX2_freeBehind yX2_freeBehind, .selects RX2 yX2_freeBlocks yX2_freeBlocks, .selects RX2 yX2_freeIndex yX2_freeIndex, .selects RX2 yX2_freeWords yX2_freeWords, .selects RX2 yX2_indexOf yX2_indexOf, .selects RX2 yX2_isFree yX2_isFree, .selects RX2 yX2_join yX2_join, .selects RX2 yX2_largestFree yX2_largestFree, .selects RX2 yX2_liveBlocks yX2_liveBlocks, .selects RX2 yX2_liveIndex yX2_liveIndex, .selects RX2 yX2_release yX2_release, .selects RX2 yX2_shift yX2_shift, .selects RX2 yX2_shorten yX2_shorten, .selects RX2 yX2_split yX2_split, .selects RX3 yX3_depth yX3_depth, .selects RX3 yX3_depthOfSpine yX3_depthOfSpine, .selects RX3 yX3_topToTheLeft yX3_topToTheLeft, .selects RX3 yX3_topToTheRight yX3_topToTheRight, .selects RX4 yX4_advise yX4_advise, .selects RX4 yX4_apply yX4_apply, .selects RX4 yX4_branch yX4_branch, .selects RX4 yX4_clearPayload yX4_clearPayload, .selects RX4 yX4_copyBlock yX4_copyBlock, .selects RX4 yX4_count yX4_count, .selects RX4 yX4_free yX4_free, .selects RX4 yX4_freeAt yX4_freeAt]
def wA_14 : List Cond := [.selects RX4 yX4_get yX4_get, .selects RX4 yX4_give yX4_give, .selects RX4 yX4_giveAligned yX4_giveAligned, .selects RX4 yX4_giveAtMultiple yX4_giveAtMultiple, .selects RX4 yX4_grow yX4_grow, .selects RX4 yX4_largest yX4_largest, .selects RX4 yX4_leaveBlock yX4_leaveBlock, .selects RX4 yX4_move yX4_move, .selects RX4 yX4_moved yX4_moved, .selects RX4 yX4_payloadWord yX4_payloadWord, .selects RX4 yX4_pin yX4_pin, .selects RX4 yX4_set yX4_set, .selects RX4 yX4_sizeOf yX4_sizeOf, .selects RX4 yX4_trim yX4_trim, .selects RX4 yX4_window yX4_window, .selects RX5 yX5_advise yX5_advise, .selects RX5 yX5_apply yX5_apply, .selects RX5 yX5_branch yX5_branch, .selects RX5 yX5_count yX5_count, .selects RX5 yX5_depth yX5_depth, .selects RX5 yX5_find yX5_find, .selects RX5 yX5_free yX5_free, .selects RX5 yX5_freeAt yX5_freeAt, .selects RX5 yX5_gathers yX5_gathers, .selects RX5 yX5_get yX5_get, .selects RX5 yX5_give yX5_give, .selects RX5 yX5_giveAligned yX5_giveAligned, .selects RX5 yX5_gives yX5_gives, .selects RX5 yX5_goes yX5_goes, .selects RX5 yX5_groupsFor yX5_groupsFor, .selects RX5 yX5_grow yX5_grow, .selects RX5 yX5_isFree yX5_isFree]
def wA_15 : List Cond := [.selects RX5 yX5_joins yX5_joins, .selects RX5 yX5_largest yX5_largest, .selects RX5 yX5_move yX5_move, .selects RX5 yX5_moved yX5_moved, .selects RX5 yX5_pin yX5_pin, .selects RX5 yX5_places yX5_places, .selects RX5 yX5_set yX5_set, .selects RX5 yX5_sizeOf yX5_sizeOf, .selects RX5 yX5_takes yX5_takes, .selects RX5 yX5_thrown yX5_thrown, .selects RX5 yX5_top yX5_top, .selects RX5 yX5_trim yX5_trim, .selects RX5 yX5_window yX5_window, .selects RX5 yX5_windowEnd yX5_windowEnd, .static Lib.Math.max.name, .static Lib.Math.min.name, .static arraycopyName, .static yJ7_fill_fda19, .static yJ7_rangeCheck_23922, .static yL_branch, .static yL_cell, .static yL_get, .static yL_move, .static yL_set, .static yX4_nextMultiple, .static yX4_sizeFor, .static yX5_address]
def wAll : List Cond := wA_0 ++ (wA_1 ++ (wA_2 ++ (wA_3 ++ (wA_4 ++ (wA_5 ++ (wA_6 ++ (wA_7 ++ (wA_8 ++ (wA_9 ++ (wA_10 ++ (wA_11 ++ (wA_12 ++ (wA_13 ++ (wA_14 ++ (wA_15 ++ (wsX00 ++ (wsX10 ++ (wsX20 ++ (wsX30 ++ (wsX40 ++ wsX50))))))))))))))))))))
theorem inA_wA_0 : ∀ w ∈ wA_0, w ∈ wAll := fun w h => List.mem_append_left _ h
theorem inA_wA_1 : ∀ w ∈ wA_1, w ∈ wAll := fun w h => List.mem_append_right _ (List.mem_append_left _ h)
theorem inA_wA_2 : ∀ w ∈ wA_2, w ∈ wAll := fun w h => List.mem_append_right _ (List.mem_append_right _ (List.mem_append_left _ h))
theorem inA_wA_3 : ∀ w ∈ wA_3, w ∈ wAll := fun w h => List.mem_append_right _ (List.mem_append_right _ (List.mem_append_right _ (List.mem_append_left _ h)))
theorem inA_wA_4 : ∀ w ∈ wA_4, w ∈ wAll := fun w h => List.mem_append_right _ (List.mem_append_right _ (List.mem_append_right _ (List.mem_append_right _ (List.mem_append_left _ h))))
theorem inA_wA_5 : ∀ w ∈ wA_5, w ∈ wAll := fun w h => List.mem_append_right _ (List.mem_append_right _ (List.mem_append_right _ (List.mem_append_right _ (List.mem_append_right _ (List.mem_append_left _ h)))))
theorem inA_wA_6 : ∀ w ∈ wA_6, w ∈ wAll := fun w h => List.mem_append_right _ (List.mem_append_right _ (List.mem_append_right _ (List.mem_append_right _ (List.mem_append_right _ (List.mem_append_right _ (List.mem_append_left _ h))))))
theorem inA_wA_7 : ∀ w ∈ wA_7, w ∈ wAll := fun w h => List.mem_append_right _ (List.mem_append_right _ (List.mem_append_right _ (List.mem_append_right _ (List.mem_append_right _ (List.mem_append_right _ (List.mem_append_right _ (List.mem_append_left _ h)))))))
theorem inA_wA_8 : ∀ w ∈ wA_8, w ∈ wAll := fun w h => List.mem_append_right _ (List.mem_append_right _ (List.mem_append_right _ (List.mem_append_right _ (List.mem_append_right _ (List.mem_append_right _ (List.mem_append_right _ (List.mem_append_right _ (List.mem_append_left _ h))))))))
theorem inA_wA_9 : ∀ w ∈ wA_9, w ∈ wAll := fun w h => List.mem_append_right _ (List.mem_append_right _ (List.mem_append_right _ (List.mem_append_right _ (List.mem_append_right _ (List.mem_append_right _ (List.mem_append_right _ (List.mem_append_right _ (List.mem_append_right _ (List.mem_append_left _ h)))))))))
theorem inA_wA_10 : ∀ w ∈ wA_10, w ∈ wAll := fun w h => List.mem_append_right _ (List.mem_append_right _ (List.mem_append_right _ (List.mem_append_right _ (List.mem_append_right _ (List.mem_append_right _ (List.mem_append_right _ (List.mem_append_right _ (List.mem_append_right _ (List.mem_append_right _ (List.mem_append_left _ h))))))))))
theorem inA_wA_11 : ∀ w ∈ wA_11, w ∈ wAll := fun w h => List.mem_append_right _ (List.mem_append_right _ (List.mem_append_right _ (List.mem_append_right _ (List.mem_append_right _ (List.mem_append_right _ (List.mem_append_right _ (List.mem_append_right _ (List.mem_append_right _ (List.mem_append_right _ (List.mem_append_right _ (List.mem_append_left _ h)))))))))))
theorem inA_wA_12 : ∀ w ∈ wA_12, w ∈ wAll := fun w h => List.mem_append_right _ (List.mem_append_right _ (List.mem_append_right _ (List.mem_append_right _ (List.mem_append_right _ (List.mem_append_right _ (List.mem_append_right _ (List.mem_append_right _ (List.mem_append_right _ (List.mem_append_right _ (List.mem_append_right _ (List.mem_append_right _ (List.mem_append_left _ h))))))))))))
theorem inA_wA_13 : ∀ w ∈ wA_13, w ∈ wAll := fun w h => List.mem_append_right _ (List.mem_append_right _ (List.mem_append_right _ (List.mem_append_right _ (List.mem_append_right _ (List.mem_append_right _ (List.mem_append_right _ (List.mem_append_right _ (List.mem_append_right _ (List.mem_append_right _ (List.mem_append_right _ (List.mem_append_right _ (List.mem_append_right _ (List.mem_append_left _ h)))))))))))))
theorem inA_wA_14 : ∀ w ∈ wA_14, w ∈ wAll := fun w h => List.mem_append_right _ (List.mem_append_right _ (List.mem_append_right _ (List.mem_append_right _ (List.mem_append_right _ (List.mem_append_right _ (List.mem_append_right _ (List.mem_append_right _ (List.mem_append_right _ (List.mem_append_right _ (List.mem_append_right _ (List.mem_append_right _ (List.mem_append_right _ (List.mem_append_right _ (List.mem_append_left _ h))))))))))))))
theorem inA_wA_15 : ∀ w ∈ wA_15, w ∈ wAll := fun w h => List.mem_append_right _ (List.mem_append_right _ (List.mem_append_right _ (List.mem_append_right _ (List.mem_append_right _ (List.mem_append_right _ (List.mem_append_right _ (List.mem_append_right _ (List.mem_append_right _ (List.mem_append_right _ (List.mem_append_right _ (List.mem_append_right _ (List.mem_append_right _ (List.mem_append_right _ (List.mem_append_right _ (List.mem_append_left _ h)))))))))))))))
theorem inA_wsX00 : ∀ w ∈ wsX00, w ∈ wAll := fun w h => List.mem_append_right _ (List.mem_append_right _ (List.mem_append_right _ (List.mem_append_right _ (List.mem_append_right _ (List.mem_append_right _ (List.mem_append_right _ (List.mem_append_right _ (List.mem_append_right _ (List.mem_append_right _ (List.mem_append_right _ (List.mem_append_right _ (List.mem_append_right _ (List.mem_append_right _ (List.mem_append_right _ (List.mem_append_right _ (List.mem_append_left _ h))))))))))))))))
theorem inA_wsX10 : ∀ w ∈ wsX10, w ∈ wAll := fun w h => List.mem_append_right _ (List.mem_append_right _ (List.mem_append_right _ (List.mem_append_right _ (List.mem_append_right _ (List.mem_append_right _ (List.mem_append_right _ (List.mem_append_right _ (List.mem_append_right _ (List.mem_append_right _ (List.mem_append_right _ (List.mem_append_right _ (List.mem_append_right _ (List.mem_append_right _ (List.mem_append_right _ (List.mem_append_right _ (List.mem_append_right _ (List.mem_append_left _ h)))))))))))))))))
theorem inA_wsX20 : ∀ w ∈ wsX20, w ∈ wAll := fun w h => List.mem_append_right _ (List.mem_append_right _ (List.mem_append_right _ (List.mem_append_right _ (List.mem_append_right _ (List.mem_append_right _ (List.mem_append_right _ (List.mem_append_right _ (List.mem_append_right _ (List.mem_append_right _ (List.mem_append_right _ (List.mem_append_right _ (List.mem_append_right _ (List.mem_append_right _ (List.mem_append_right _ (List.mem_append_right _ (List.mem_append_right _ (List.mem_append_right _ (List.mem_append_left _ h))))))))))))))))))
theorem inA_wsX30 : ∀ w ∈ wsX30, w ∈ wAll := fun w h => List.mem_append_right _ (List.mem_append_right _ (List.mem_append_right _ (List.mem_append_right _ (List.mem_append_right _ (List.mem_append_right _ (List.mem_append_right _ (List.mem_append_right _ (List.mem_append_right _ (List.mem_append_right _ (List.mem_append_right _ (List.mem_append_right _ (List.mem_append_right _ (List.mem_append_right _ (List.mem_append_right _ (List.mem_append_right _ (List.mem_append_right _ (List.mem_append_right _ (List.mem_append_right _ (List.mem_append_left _ h)))))))))))))))))))
theorem inA_wsX40 : ∀ w ∈ wsX40, w ∈ wAll := fun w h => List.mem_append_right _ (List.mem_append_right _ (List.mem_append_right _ (List.mem_append_right _ (List.mem_append_right _ (List.mem_append_right _ (List.mem_append_right _ (List.mem_append_right _ (List.mem_append_right _ (List.mem_append_right _ (List.mem_append_right _ (List.mem_append_right _ (List.mem_append_right _ (List.mem_append_right _ (List.mem_append_right _ (List.mem_append_right _ (List.mem_append_right _ (List.mem_append_right _ (List.mem_append_right _ (List.mem_append_right _ (List.mem_append_left _ h))))))))))))))))))))
theorem inA_wsX50 : ∀ w ∈ wsX50, w ∈ wAll := fun w h => List.mem_append_right _ (List.mem_append_right _ (List.mem_append_right _ (List.mem_append_right _ (List.mem_append_right _ (List.mem_append_right _ (List.mem_append_right _ (List.mem_append_right _ (List.mem_append_right _ (List.mem_append_right _ (List.mem_append_right _ (List.mem_append_right _ (List.mem_append_right _ (List.mem_append_right _ (List.mem_append_right _ (List.mem_append_right _ (List.mem_append_right _ (List.mem_append_right _ (List.mem_append_right _ (List.mem_append_right _ (List.mem_append_right _ h))))))))))))))))))))
theorem m0 : Cond.arrayClass .boolean ∈ wAll := inA_wA_0 _ (List.mem_of_getElem? (i := 0) rfl)
theorem m1 : Cond.arrayClass .int ∈ wAll := inA_wA_0 _ (List.mem_of_getElem? (i := 1) rfl)
theorem m2 : Cond.arrayClass .long ∈ wAll := inA_wA_0 _ (List.mem_of_getElem? (i := 2) rfl)
theorem m3 : Cond.classLink RL 13 "java/util/NoSuchElementException" ∈ wAll := inA_wA_0 _ (List.mem_of_getElem? (i := 3) rfl)
theorem m4 : Cond.classLink RL 15 "java/lang/IndexOutOfBoundsException" ∈ wAll := inA_wA_0 _ (List.mem_of_getElem? (i := 4) rfl)
theorem m5 : Cond.classLink RL 24 "java/lang/IllegalArgumentException" ∈ wAll := inA_wA_0 _ (List.mem_of_getElem? (i := 5) rfl)
theorem m6 : Cond.classLink RL 38 RX5 ∈ wAll := inA_wA_0 _ (List.mem_of_getElem? (i := 6) rfl)
theorem m7 : Cond.classLink RL 8 RX4 ∈ wAll := inA_wA_0 _ (List.mem_of_getElem? (i := 7) rfl)
theorem m8 : Cond.classLink RX0 21 RX1 ∈ wAll := inA_wA_0 _ (List.mem_of_getElem? (i := 8) rfl)
theorem m9 : Cond.classLink RX4 122 "java/util/NoSuchElementException" ∈ wAll := inA_wA_0 _ (List.mem_of_getElem? (i := 9) rfl)
theorem m10 : Cond.classLink RX4 135 "java/lang/IllegalArgumentException" ∈ wAll := inA_wA_0 _ (List.mem_of_getElem? (i := 10) rfl)
theorem m11 : Cond.classLink RX4 150 "java/lang/IndexOutOfBoundsException" ∈ wAll := inA_wA_0 _ (List.mem_of_getElem? (i := 11) rfl)
theorem m12 : Cond.classLink RX4 22 RX2 ∈ wAll := inA_wA_0 _ (List.mem_of_getElem? (i := 12) rfl)
theorem m13 : Cond.classLink RX4 31 RX3 ∈ wAll := inA_wA_0 _ (List.mem_of_getElem? (i := 13) rfl)
theorem m14 : Cond.classLink RX4 40 RX0 ∈ wAll := inA_wA_0 _ (List.mem_of_getElem? (i := 14) rfl)
theorem m15 : Cond.classLink RX4 47 RX1 ∈ wAll := inA_wA_0 _ (List.mem_of_getElem? (i := 15) rfl)
theorem m16 : Cond.code Lib.Math.max.name Lib.Math.max.code 2 (some .int) ∈ wAll := inA_wA_0 _ (List.mem_of_getElem? (i := 16) rfl)
theorem m17 : Cond.code Lib.Math.min.name Lib.Math.min.code 2 (some .int) ∈ wAll := inA_wA_0 _ (List.mem_of_getElem? (i := 17) rfl)
theorem m18 : Cond.code objectInit ⟨#[0xb1]⟩ 1 none ∈ wAll := inA_wA_0 _ (List.mem_of_getElem? (i := 18) rfl)
theorem m19 : Cond.code yJ7_fill_fda19 cJ7_fill_fda19 5 none ∈ wAll := inA_wA_0 _ (List.mem_of_getElem? (i := 19) rfl)
theorem m20 : Cond.code yJ7_rangeCheck_23922 cJ7_rangeCheck_23922 3 none ∈ wAll := inA_wA_0 _ (List.mem_of_getElem? (i := 20) rfl)
theorem m21 : Cond.code yL_cell cL_cell 2 (some .int) ∈ wAll := inA_wA_0 _ (List.mem_of_getElem? (i := 21) rfl)
theorem m22 : Cond.code yX0_drop cX0_drop 1 none ∈ wAll := inA_wA_0 _ (List.mem_of_getElem? (i := 22) rfl)
theorem m23 : Cond.code yX0_init cX0_init 4 none ∈ wAll := inA_wA_0 _ (List.mem_of_getElem? (i := 23) rfl)
theorem m24 : Cond.code yX0_lowestPlace cX0_lowestPlace 4 (some .int) ∈ wAll := inA_wA_0 _ (List.mem_of_getElem? (i := 24) rfl)
theorem m25 : Cond.code yX0_placeVictims cX0_placeVictims 7 (some .boolean) ∈ wAll := inA_wA_0 _ (List.mem_of_getElem? (i := 25) rfl)
theorem m26 : Cond.code yX0_rankMovables cX0_rankMovables 3 none ∈ wAll := inA_wA_0 _ (List.mem_of_getElem? (i := 26) rfl)
theorem m27 : Cond.code yX0_search cX0_search 9 none ∈ wAll := inA_wA_0 _ (List.mem_of_getElem? (i := 27) rfl)
theorem m28 : Cond.code yX1_init cX1_init 2 none ∈ wAll := inA_wA_0 _ (List.mem_of_getElem? (i := 28) rfl)
theorem m29 : Cond.code yX1_placeOf cX1_placeOf 3 (some .int) ∈ wAll := inA_wA_0 _ (List.mem_of_getElem? (i := 29) rfl)
theorem m30 : Cond.code yX1_put cX1_put 3 none ∈ wAll := inA_wA_0 _ (List.mem_of_getElem? (i := 30) rfl)
theorem m31 : Cond.code yX1_takeOver cX1_takeOver 3 none ∈ wAll := inA_wA_0 _ (List.mem_of_getElem? (i := 31) rfl)
theorem m32 : Cond.code yX2_carve cX2_carve 6 none ∈ wAll := inA_wA_1 _ (List.mem_of_getElem? (i := 0) rfl)
theorem m33 : Cond.code yX2_end cX2_end 2 (some .int) ∈ wAll := inA_wA_1 _ (List.mem_of_getElem? (i := 1) rfl)
theorem m34 : Cond.code yX2_extend cX2_extend 3 none ∈ wAll := inA_wA_1 _ (List.mem_of_getElem? (i := 2) rfl)
theorem m35 : Cond.code yX2_freeAddress cX2_freeAddress 4 (some .int) ∈ wAll := inA_wA_1 _ (List.mem_of_getElem? (i := 3) rfl)
theorem m36 : Cond.code yX2_freeBehind cX2_freeBehind 2 (some .int) ∈ wAll := inA_wA_1 _ (List.mem_of_getElem? (i := 4) rfl)
theorem m37 : Cond.code yX2_freeBlocks cX2_freeBlocks 3 (some .int) ∈ wAll := inA_wA_1 _ (List.mem_of_getElem? (i := 5) rfl)
theorem m38 : Cond.code yX2_freeIndex cX2_freeIndex 3 (some .int) ∈ wAll := inA_wA_1 _ (List.mem_of_getElem? (i := 6) rfl)
theorem m39 : Cond.code yX2_freeWords cX2_freeWords 3 (some .int) ∈ wAll := inA_wA_1 _ (List.mem_of_getElem? (i := 7) rfl)
theorem m40 : Cond.code yX2_indexOf cX2_indexOf 3 (some .int) ∈ wAll := inA_wA_1 _ (List.mem_of_getElem? (i := 8) rfl)
theorem m41 : Cond.code yX2_init cX2_init 2 none ∈ wAll := inA_wA_1 _ (List.mem_of_getElem? (i := 9) rfl)
theorem m42 : Cond.code yX2_isFree cX2_isFree 2 (some .boolean) ∈ wAll := inA_wA_1 _ (List.mem_of_getElem? (i := 10) rfl)
theorem m43 : Cond.code yX2_join cX2_join 2 none ∈ wAll := inA_wA_1 _ (List.mem_of_getElem? (i := 11) rfl)
theorem m44 : Cond.code yX2_largestFree cX2_largestFree 3 (some .int) ∈ wAll := inA_wA_1 _ (List.mem_of_getElem? (i := 12) rfl)
theorem m45 : Cond.code yX2_liveBlocks cX2_liveBlocks 1 (some .int) ∈ wAll := inA_wA_1 _ (List.mem_of_getElem? (i := 13) rfl)
theorem m46 : Cond.code yX2_liveIndex cX2_liveIndex 3 (some .int) ∈ wAll := inA_wA_1 _ (List.mem_of_getElem? (i := 14) rfl)
theorem m47 : Cond.code yX2_release cX2_release 2 none ∈ wAll := inA_wA_1 _ (List.mem_of_getElem? (i := 15) rfl)
theorem m48 : Cond.code yX2_shift cX2_shift 4 none ∈ wAll := inA_wA_1 _ (List.mem_of_getElem? (i := 16) rfl)
theorem m49 : Cond.code yX2_shorten cX2_shorten 3 none ∈ wAll := inA_wA_1 _ (List.mem_of_getElem? (i := 17) rfl)
theorem m50 : Cond.code yX2_split cX2_split 4 none ∈ wAll := inA_wA_1 _ (List.mem_of_getElem? (i := 18) rfl)
theorem m51 : Cond.code yX3_depth cX3_depth 4 (some .int) ∈ wAll := inA_wA_1 _ (List.mem_of_getElem? (i := 19) rfl)
theorem m52 : Cond.code yX3_depthOfSpine cX3_depthOfSpine 5 (some .int) ∈ wAll := inA_wA_1 _ (List.mem_of_getElem? (i := 20) rfl)
theorem m53 : Cond.code yX3_init cX3_init 3 none ∈ wAll := inA_wA_1 _ (List.mem_of_getElem? (i := 21) rfl)
theorem m54 : Cond.code yX3_topToTheLeft cX3_topToTheLeft 5 (some .int) ∈ wAll := inA_wA_1 _ (List.mem_of_getElem? (i := 22) rfl)
theorem m55 : Cond.code yX3_topToTheRight cX3_topToTheRight 5 (some .int) ∈ wAll := inA_wA_1 _ (List.mem_of_getElem? (i := 23) rfl)
theorem m56 : Cond.code yX4_advise cX4_advise 2 (some .int) ∈ wAll := inA_wA_1 _ (List.mem_of_getElem? (i := 24) rfl)
theorem m57 : Cond.code yX4_apply cX4_apply 2 (some .int) ∈ wAll := inA_wA_1 _ (List.mem_of_getElem? (i := 25) rfl)
theorem m58 : Cond.code yX4_branch cX4_branch 4 (some .int) ∈ wAll := inA_wA_1 _ (List.mem_of_getElem? (i := 26) rfl)
theorem m59 : Cond.code yX4_clearPayload cX4_clearPayload 4 none ∈ wAll := inA_wA_1 _ (List.mem_of_getElem? (i := 27) rfl)
theorem m60 : Cond.code yX4_copyBlock cX4_copyBlock 6 none ∈ wAll := inA_wA_1 _ (List.mem_of_getElem? (i := 28) rfl)
theorem m61 : Cond.code yX4_count cX4_count 2 (some .int) ∈ wAll := inA_wA_1 _ (List.mem_of_getElem? (i := 29) rfl)
theorem m62 : Cond.code yX4_free cX4_free 3 (some .boolean) ∈ wAll := inA_wA_1 _ (List.mem_of_getElem? (i := 30) rfl)
theorem m63 : Cond.code yX4_freeAt cX4_freeAt 2 (some .int) ∈ wAll := inA_wA_1 _ (List.mem_of_getElem? (i := 31) rfl)
theorem m64 : Cond.code yX4_get cX4_get 3 (some .int) ∈ wAll := inA_wA_2 _ (List.mem_of_getElem? (i := 0) rfl)
theorem m65 : Cond.code yX4_give cX4_give 2 (some .int) ∈ wAll := inA_wA_2 _ (List.mem_of_getElem? (i := 1) rfl)
theorem m66 : Cond.code yX4_giveAligned cX4_giveAligned 4 (some .int) ∈ wAll := inA_wA_2 _ (List.mem_of_getElem? (i := 2) rfl)
theorem m67 : Cond.code yX4_giveAtMultiple cX4_giveAtMultiple 6 (some .int) ∈ wAll := inA_wA_2 _ (List.mem_of_getElem? (i := 3) rfl)
theorem m68 : Cond.code yX4_grow cX4_grow 6 (some .boolean) ∈ wAll := inA_wA_2 _ (List.mem_of_getElem? (i := 4) rfl)
theorem m69 : Cond.code yX4_init cX4_init 4 none ∈ wAll := inA_wA_2 _ (List.mem_of_getElem? (i := 5) rfl)
theorem m70 : Cond.code yX4_largest cX4_largest 1 (some .int) ∈ wAll := inA_wA_2 _ (List.mem_of_getElem? (i := 6) rfl)
theorem m71 : Cond.code yX4_leaveBlock cX4_leaveBlock 3 none ∈ wAll := inA_wA_2 _ (List.mem_of_getElem? (i := 7) rfl)
theorem m72 : Cond.code yX4_move cX4_move 4 (some .int) ∈ wAll := inA_wA_2 _ (List.mem_of_getElem? (i := 8) rfl)
theorem m73 : Cond.code yX4_moved cX4_moved 2 (some .int) ∈ wAll := inA_wA_2 _ (List.mem_of_getElem? (i := 9) rfl)
theorem m74 : Cond.code yX4_nextMultiple cX4_nextMultiple 2 (some .int) ∈ wAll := inA_wA_2 _ (List.mem_of_getElem? (i := 10) rfl)
theorem m75 : Cond.code yX4_payloadWord cX4_payloadWord 4 (some .int) ∈ wAll := inA_wA_2 _ (List.mem_of_getElem? (i := 11) rfl)
theorem m76 : Cond.code yX4_pin cX4_pin 4 (some .boolean) ∈ wAll := inA_wA_2 _ (List.mem_of_getElem? (i := 12) rfl)
theorem m77 : Cond.code yX4_set cX4_set 6 (some .int) ∈ wAll := inA_wA_2 _ (List.mem_of_getElem? (i := 13) rfl)
theorem m78 : Cond.code yX4_sizeFor cX4_sizeFor 1 (some .int) ∈ wAll := inA_wA_2 _ (List.mem_of_getElem? (i := 14) rfl)
theorem m79 : Cond.code yX4_sizeOf cX4_sizeOf 3 (some .int) ∈ wAll := inA_wA_2 _ (List.mem_of_getElem? (i := 15) rfl)
theorem m80 : Cond.code yX4_trim cX4_trim 5 (some .boolean) ∈ wAll := inA_wA_2 _ (List.mem_of_getElem? (i := 16) rfl)
theorem m81 : Cond.code yX4_window cX4_window 1 (some .int) ∈ wAll := inA_wA_2 _ (List.mem_of_getElem? (i := 17) rfl)
theorem m82 : Cond.code yX5_address cX5_address 1 (some .int) ∈ wAll := inA_wA_2 _ (List.mem_of_getElem? (i := 18) rfl)
theorem m83 : Cond.code yX5_advise cX5_advise 5 (some .int) ∈ wAll := inA_wA_2 _ (List.mem_of_getElem? (i := 19) rfl)
theorem m84 : Cond.code yX5_apply cX5_apply 2 (some .int) ∈ wAll := inA_wA_2 _ (List.mem_of_getElem? (i := 20) rfl)
theorem m85 : Cond.code yX5_branch cX5_branch 9 (some .int) ∈ wAll := inA_wA_2 _ (List.mem_of_getElem? (i := 21) rfl)
theorem m86 : Cond.code yX5_count cX5_count 8 (some .int) ∈ wAll := inA_wA_2 _ (List.mem_of_getElem? (i := 22) rfl)
theorem m87 : Cond.code yX5_depth cX5_depth 4 (some .int) ∈ wAll := inA_wA_2 _ (List.mem_of_getElem? (i := 23) rfl)
theorem m88 : Cond.code yX5_find cX5_find 3 (some .int) ∈ wAll := inA_wA_2 _ (List.mem_of_getElem? (i := 24) rfl)
theorem m89 : Cond.code yX5_free cX5_free 3 (some .boolean) ∈ wAll := inA_wA_2 _ (List.mem_of_getElem? (i := 25) rfl)
theorem m90 : Cond.code yX5_freeAt cX5_freeAt 4 (some .int) ∈ wAll := inA_wA_2 _ (List.mem_of_getElem? (i := 26) rfl)
theorem m91 : Cond.code yX5_gathers cX5_gathers 5 none ∈ wAll := inA_wA_2 _ (List.mem_of_getElem? (i := 27) rfl)
theorem m92 : Cond.code yX5_get cX5_get 4 (some .int) ∈ wAll := inA_wA_2 _ (List.mem_of_getElem? (i := 28) rfl)
theorem m93 : Cond.code yX5_give cX5_give 2 (some .int) ∈ wAll := inA_wA_2 _ (List.mem_of_getElem? (i := 29) rfl)
theorem m94 : Cond.code yX5_giveAligned cX5_giveAligned 4 (some .int) ∈ wAll := inA_wA_2 _ (List.mem_of_getElem? (i := 30) rfl)
theorem m95 : Cond.code yX5_gives cX5_gives 6 (some .int) ∈ wAll := inA_wA_2 _ (List.mem_of_getElem? (i := 31) rfl)
theorem m96 : Cond.code yX5_goes cX5_goes 6 none ∈ wAll := inA_wA_3 _ (List.mem_of_getElem? (i := 0) rfl)
theorem m97 : Cond.code yX5_groupsFor cX5_groupsFor 2 (some .int) ∈ wAll := inA_wA_3 _ (List.mem_of_getElem? (i := 1) rfl)
theorem m98 : Cond.code yX5_grow cX5_grow 8 (some .boolean) ∈ wAll := inA_wA_3 _ (List.mem_of_getElem? (i := 2) rfl)
theorem m99 : Cond.code yX5_init cX5_init 3 none ∈ wAll := inA_wA_3 _ (List.mem_of_getElem? (i := 3) rfl)
theorem m100 : Cond.code yX5_isFree cX5_isFree 2 (some .boolean) ∈ wAll := inA_wA_3 _ (List.mem_of_getElem? (i := 4) rfl)
theorem m101 : Cond.code yX5_joins cX5_joins 3 none ∈ wAll := inA_wA_3 _ (List.mem_of_getElem? (i := 5) rfl)
theorem m102 : Cond.code yX5_largest cX5_largest 2 (some .int) ∈ wAll := inA_wA_3 _ (List.mem_of_getElem? (i := 6) rfl)
theorem m103 : Cond.code yX5_move cX5_move 3 (some .int) ∈ wAll := inA_wA_3 _ (List.mem_of_getElem? (i := 7) rfl)
theorem m104 : Cond.code yX5_moved cX5_moved 3 (some .int) ∈ wAll := inA_wA_3 _ (List.mem_of_getElem? (i := 8) rfl)
theorem m105 : Cond.code yX5_pin cX5_pin 4 (some .boolean) ∈ wAll := inA_wA_3 _ (List.mem_of_getElem? (i := 9) rfl)
theorem m106 : Cond.code yX5_places cX5_places 6 (some .boolean) ∈ wAll := inA_wA_3 _ (List.mem_of_getElem? (i := 10) rfl)
theorem m107 : Cond.code yX5_set cX5_set 5 (some .int) ∈ wAll := inA_wA_3 _ (List.mem_of_getElem? (i := 11) rfl)
theorem m108 : Cond.code yX5_sizeOf cX5_sizeOf 3 (some .int) ∈ wAll := inA_wA_3 _ (List.mem_of_getElem? (i := 12) rfl)
theorem m109 : Cond.code yX5_takes cX5_takes 7 none ∈ wAll := inA_wA_3 _ (List.mem_of_getElem? (i := 13) rfl)
theorem m110 : Cond.code yX5_thrown cX5_thrown 1 (some .int) ∈ wAll := inA_wA_3 _ (List.mem_of_getElem? (i := 14) rfl)
theorem m111 : Cond.code yX5_top cX5_top 5 (some .int) ∈ wAll := inA_wA_3 _ (List.mem_of_getElem? (i := 15) rfl)
theorem m112 : Cond.code yX5_trim cX5_trim 5 (some .boolean) ∈ wAll := inA_wA_3 _ (List.mem_of_getElem? (i := 16) rfl)
theorem m113 : Cond.code yX5_window cX5_window 1 (some .int) ∈ wAll := inA_wA_3 _ (List.mem_of_getElem? (i := 17) rfl)
theorem m114 : Cond.code yX5_windowEnd cX5_windowEnd 4 (some .int) ∈ wAll := inA_wA_3 _ (List.mem_of_getElem? (i := 18) rfl)
theorem m115 : Cond.constantLong RX5 92 (4) ∈ wAll := inA_wA_3 _ (List.mem_of_getElem? (i := 19) rfl)
theorem m116 : Cond.fieldLink RX0 15 "RunHeap$Adviser" "row" "LRunHeap$Row;" ∈ wAll := inA_wA_3 _ (List.mem_of_getElem? (i := 20) rfl)
theorem m117 : Cond.fieldLink RX0 26 "RunHeap$Adviser" "best" "LRunHeap$Moves;" ∈ wAll := inA_wA_3 _ (List.mem_of_getElem? (i := 21) rfl)
theorem m118 : Cond.fieldLink RX0 30 "RunHeap$Adviser" "trial" "LRunHeap$Moves;" ∈ wAll := inA_wA_3 _ (List.mem_of_getElem? (i := 22) rfl)
theorem m119 : Cond.fieldLink RX0 33 "RunHeap$Adviser" "movable" "[I" ∈ wAll := inA_wA_3 _ (List.mem_of_getElem? (i := 23) rfl)
theorem m120 : Cond.fieldLink RX0 37 "RunHeap$Adviser" "left" "[I" ∈ wAll := inA_wA_3 _ (List.mem_of_getElem? (i := 24) rfl)
theorem m121 : Cond.fieldLink RX0 40 "RunHeap$Adviser" "given" "Z" ∈ wAll := inA_wA_3 _ (List.mem_of_getElem? (i := 25) rfl)
theorem m122 : Cond.fieldLink RX0 44 "RunHeap$Moves" "made" "I" ∈ wAll := inA_wA_3 _ (List.mem_of_getElem? (i := 26) rfl)
theorem m123 : Cond.fieldLink RX0 57 "RunHeap$Row" "blocks" "I" ∈ wAll := inA_wA_3 _ (List.mem_of_getElem? (i := 27) rfl)
theorem m124 : Cond.fieldLink RX0 63 "RunHeap$Row" "kind" "[I" ∈ wAll := inA_wA_3 _ (List.mem_of_getElem? (i := 28) rfl)
theorem m125 : Cond.fieldLink RX0 66 "RunHeap$Row" "size" "[I" ∈ wAll := inA_wA_3 _ (List.mem_of_getElem? (i := 29) rfl)
theorem m126 : Cond.fieldLink RX0 73 "RunHeap$Row" "address" "[I" ∈ wAll := inA_wA_3 _ (List.mem_of_getElem? (i := 30) rfl)
theorem m127 : Cond.fieldLink RX0 76 "RunHeap$Adviser" "lowest" "I" ∈ wAll := inA_wA_3 _ (List.mem_of_getElem? (i := 31) rfl)
theorem m128 : Cond.fieldLink RX0 83 "RunHeap$Adviser" "movables" "I" ∈ wAll := inA_wA_4 _ (List.mem_of_getElem? (i := 0) rfl)
theorem m129 : Cond.fieldLink RX1 15 "RunHeap$Moves" "to" "[I" ∈ wAll := inA_wA_4 _ (List.mem_of_getElem? (i := 1) rfl)
theorem m130 : Cond.fieldLink RX1 18 "RunHeap$Moves" "made" "I" ∈ wAll := inA_wA_4 _ (List.mem_of_getElem? (i := 2) rfl)
theorem m131 : Cond.fieldLink RX1 9 "RunHeap$Moves" "from" "[I" ∈ wAll := inA_wA_4 _ (List.mem_of_getElem? (i := 3) rfl)
theorem m132 : Cond.fieldLink RX2 15 "RunHeap$Row" "size" "[I" ∈ wAll := inA_wA_4 _ (List.mem_of_getElem? (i := 4) rfl)
theorem m133 : Cond.fieldLink RX2 18 "RunHeap$Row" "kind" "[I" ∈ wAll := inA_wA_4 _ (List.mem_of_getElem? (i := 5) rfl)
theorem m134 : Cond.fieldLink RX2 21 "RunHeap$Row" "blocks" "I" ∈ wAll := inA_wA_4 _ (List.mem_of_getElem? (i := 6) rfl)
theorem m135 : Cond.fieldLink RX2 9 "RunHeap$Row" "address" "[I" ∈ wAll := inA_wA_4 _ (List.mem_of_getElem? (i := 7) rfl)
theorem m136 : Cond.fieldLink RX3 15 "RunHeap$Tree" "spineSize" "[I" ∈ wAll := inA_wA_4 _ (List.mem_of_getElem? (i := 8) rfl)
theorem m137 : Cond.fieldLink RX3 19 "RunHeap$Tree" "spineDepth" "[I" ∈ wAll := inA_wA_4 _ (List.mem_of_getElem? (i := 9) rfl)
theorem m138 : Cond.fieldLink RX3 22 "RunHeap$Row" "blocks" "I" ∈ wAll := inA_wA_4 _ (List.mem_of_getElem? (i := 10) rfl)
theorem m139 : Cond.fieldLink RX3 28 "RunHeap$Row" "kind" "[I" ∈ wAll := inA_wA_4 _ (List.mem_of_getElem? (i := 11) rfl)
theorem m140 : Cond.fieldLink RX3 31 "RunHeap$Row" "size" "[I" ∈ wAll := inA_wA_4 _ (List.mem_of_getElem? (i := 12) rfl)
theorem m141 : Cond.fieldLink RX3 43 "RunHeap$Row" "address" "[I" ∈ wAll := inA_wA_4 _ (List.mem_of_getElem? (i := 13) rfl)
theorem m142 : Cond.fieldLink RX3 9 "RunHeap$Tree" "row" "LRunHeap$Row;" ∈ wAll := inA_wA_4 _ (List.mem_of_getElem? (i := 14) rfl)
theorem m143 : Cond.fieldLink RX4 106 "RunHeap$Adviser" "best" "LRunHeap$Moves;" ∈ wAll := inA_wA_4 _ (List.mem_of_getElem? (i := 15) rfl)
theorem m144 : Cond.fieldLink RX4 109 "RunHeap$Moves" "made" "I" ∈ wAll := inA_wA_4 _ (List.mem_of_getElem? (i := 16) rfl)
theorem m145 : Cond.fieldLink RX4 143 "RunHeap$Adviser" "given" "Z" ∈ wAll := inA_wA_4 _ (List.mem_of_getElem? (i := 17) rfl)
theorem m146 : Cond.fieldLink RX4 147 "RunHeap$Adviser" "lowest" "I" ∈ wAll := inA_wA_4 _ (List.mem_of_getElem? (i := 18) rfl)
theorem m147 : Cond.fieldLink RX4 157 "RunHeap$Moves" "from" "[I" ∈ wAll := inA_wA_4 _ (List.mem_of_getElem? (i := 19) rfl)
theorem m148 : Cond.fieldLink RX4 160 "RunHeap$Moves" "to" "[I" ∈ wAll := inA_wA_4 _ (List.mem_of_getElem? (i := 20) rfl)
theorem m149 : Cond.fieldLink RX4 176 "RunHeap$Row" "blocks" "I" ∈ wAll := inA_wA_4 _ (List.mem_of_getElem? (i := 21) rfl)
theorem m150 : Cond.fieldLink RX4 179 "RunHeap$Row" "address" "[I" ∈ wAll := inA_wA_4 _ (List.mem_of_getElem? (i := 22) rfl)
theorem m151 : Cond.fieldLink RX4 18 "RunHeap" "memory" "[I" ∈ wAll := inA_wA_4 _ (List.mem_of_getElem? (i := 23) rfl)
theorem m152 : Cond.fieldLink RX4 27 "RunHeap" "row" "LRunHeap$Row;" ∈ wAll := inA_wA_4 _ (List.mem_of_getElem? (i := 24) rfl)
theorem m153 : Cond.fieldLink RX4 36 "RunHeap" "tree" "LRunHeap$Tree;" ∈ wAll := inA_wA_4 _ (List.mem_of_getElem? (i := 25) rfl)
theorem m154 : Cond.fieldLink RX4 43 "RunHeap" "adviser" "LRunHeap$Adviser;" ∈ wAll := inA_wA_4 _ (List.mem_of_getElem? (i := 26) rfl)
theorem m155 : Cond.fieldLink RX4 50 "RunHeap" "applied" "LRunHeap$Moves;" ∈ wAll := inA_wA_4 _ (List.mem_of_getElem? (i := 27) rfl)
theorem m156 : Cond.fieldLink RX4 67 "RunHeap$Row" "size" "[I" ∈ wAll := inA_wA_4 _ (List.mem_of_getElem? (i := 28) rfl)
theorem m157 : Cond.fieldLink RX4 87 "RunHeap$Row" "kind" "[I" ∈ wAll := inA_wA_4 _ (List.mem_of_getElem? (i := 29) rfl)
theorem m158 : Cond.fieldLink RX5 111 "RunHeapModel" "windowAt" "I" ∈ wAll := inA_wA_4 _ (List.mem_of_getElem? (i := 30) rfl)
theorem m159 : Cond.fieldLink RX5 114 "RunHeapModel" "done" "I" ∈ wAll := inA_wA_4 _ (List.mem_of_getElem? (i := 31) rfl)
theorem m160 : Cond.fieldLink RX5 13 "RunHeapModel" "live" "[Z" ∈ wAll := inA_wA_5 _ (List.mem_of_getElem? (i := 0) rfl)
theorem m161 : Cond.fieldLink RX5 17 "RunHeapModel" "pinned" "[Z" ∈ wAll := inA_wA_5 _ (List.mem_of_getElem? (i := 1) rfl)
theorem m162 : Cond.fieldLink RX5 20 "RunHeapModel" "words" "[I" ∈ wAll := inA_wA_5 _ (List.mem_of_getElem? (i := 2) rfl)
theorem m163 : Cond.fieldLink RX5 23 "RunHeapModel" "movesFrom" "[I" ∈ wAll := inA_wA_5 _ (List.mem_of_getElem? (i := 3) rfl)
theorem m164 : Cond.fieldLink RX5 26 "RunHeapModel" "movesTo" "[I" ∈ wAll := inA_wA_5 _ (List.mem_of_getElem? (i := 4) rfl)
theorem m165 : Cond.fieldLink RX5 29 "RunHeapModel" "doneFrom" "[I" ∈ wAll := inA_wA_5 _ (List.mem_of_getElem? (i := 5) rfl)
theorem m166 : Cond.fieldLink RX5 32 "RunHeapModel" "doneTo" "[I" ∈ wAll := inA_wA_5 _ (List.mem_of_getElem? (i := 6) rfl)
theorem m167 : Cond.fieldLink RX5 35 "RunHeapModel" "victim" "[I" ∈ wAll := inA_wA_5 _ (List.mem_of_getElem? (i := 7) rfl)
theorem m168 : Cond.fieldLink RX5 38 "RunHeapModel" "placed" "[I" ∈ wAll := inA_wA_5 _ (List.mem_of_getElem? (i := 8) rfl)
theorem m169 : Cond.fieldLink RX5 41 "RunHeapModel" "left" "[I" ∈ wAll := inA_wA_5 _ (List.mem_of_getElem? (i := 9) rfl)
theorem m170 : Cond.fieldLink RX5 44 "RunHeapModel" "groups" "I" ∈ wAll := inA_wA_5 _ (List.mem_of_getElem? (i := 10) rfl)
theorem m171 : Cond.fieldLink RX5 48 "RunHeapModel" "thrown" "I" ∈ wAll := inA_wA_5 _ (List.mem_of_getElem? (i := 11) rfl)
theorem m172 : Cond.fieldLink RX5 7 "RunHeapModel" "size" "[I" ∈ wAll := inA_wA_5 _ (List.mem_of_getElem? (i := 12) rfl)
theorem m173 : Cond.fieldLink RX5 70 "RunHeapModel" "advised" "Z" ∈ wAll := inA_wA_5 _ (List.mem_of_getElem? (i := 13) rfl)
theorem m174 : Cond.fieldLink RX5 89 "RunHeapModel" "moves" "I" ∈ wAll := inA_wA_5 _ (List.mem_of_getElem? (i := 14) rfl)
theorem m175 : Cond.fieldLink RX5 94 "RunHeapModel" "victims" "I" ∈ wAll := inA_wA_5 _ (List.mem_of_getElem? (i := 15) rfl)
theorem m176 : Cond.initialized "java/lang/IllegalArgumentException" ∈ wAll := inA_wA_5 _ (List.mem_of_getElem? (i := 16) rfl)
theorem m177 : Cond.initialized "java/lang/IndexOutOfBoundsException" ∈ wAll := inA_wA_5 _ (List.mem_of_getElem? (i := 17) rfl)
theorem m178 : Cond.initialized "java/lang/Math" ∈ wAll := inA_wA_5 _ (List.mem_of_getElem? (i := 18) rfl)
theorem m179 : Cond.initialized "java/lang/System" ∈ wAll := inA_wA_5 _ (List.mem_of_getElem? (i := 19) rfl)
theorem m180 : Cond.initialized "java/util/NoSuchElementException" ∈ wAll := inA_wA_5 _ (List.mem_of_getElem? (i := 20) rfl)
theorem m181 : Cond.initialized RJ7 ∈ wAll := inA_wA_5 _ (List.mem_of_getElem? (i := 21) rfl)
theorem m182 : Cond.initialized RL ∈ wAll := inA_wA_5 _ (List.mem_of_getElem? (i := 22) rfl)
theorem m183 : Cond.initialized RX0 ∈ wAll := inA_wA_5 _ (List.mem_of_getElem? (i := 23) rfl)
theorem m184 : Cond.initialized RX1 ∈ wAll := inA_wA_5 _ (List.mem_of_getElem? (i := 24) rfl)
theorem m185 : Cond.initialized RX2 ∈ wAll := inA_wA_5 _ (List.mem_of_getElem? (i := 25) rfl)
theorem m186 : Cond.initialized RX3 ∈ wAll := inA_wA_5 _ (List.mem_of_getElem? (i := 26) rfl)
theorem m187 : Cond.initialized RX4 ∈ wAll := inA_wA_5 _ (List.mem_of_getElem? (i := 27) rfl)
theorem m188 : Cond.initialized RX5 ∈ wAll := inA_wA_5 _ (List.mem_of_getElem? (i := 28) rfl)
theorem m189 : Cond.instanceMethod objectInit ∈ wAll := inA_wA_5 _ (List.mem_of_getElem? (i := 29) rfl)
theorem m190 : Cond.instanceMethod yX0_drop ∈ wAll := inA_wA_5 _ (List.mem_of_getElem? (i := 30) rfl)
theorem m191 : Cond.instanceMethod yX0_init ∈ wAll := inA_wA_5 _ (List.mem_of_getElem? (i := 31) rfl)
theorem m192 : Cond.instanceMethod yX0_lowestPlace ∈ wAll := inA_wA_6 _ (List.mem_of_getElem? (i := 0) rfl)
theorem m193 : Cond.instanceMethod yX0_placeVictims ∈ wAll := inA_wA_6 _ (List.mem_of_getElem? (i := 1) rfl)
theorem m194 : Cond.instanceMethod yX0_rankMovables ∈ wAll := inA_wA_6 _ (List.mem_of_getElem? (i := 2) rfl)
theorem m195 : Cond.instanceMethod yX0_search ∈ wAll := inA_wA_6 _ (List.mem_of_getElem? (i := 3) rfl)
theorem m196 : Cond.instanceMethod yX1_init ∈ wAll := inA_wA_6 _ (List.mem_of_getElem? (i := 4) rfl)
theorem m197 : Cond.instanceMethod yX1_placeOf ∈ wAll := inA_wA_6 _ (List.mem_of_getElem? (i := 5) rfl)
theorem m198 : Cond.instanceMethod yX1_put ∈ wAll := inA_wA_6 _ (List.mem_of_getElem? (i := 6) rfl)
theorem m199 : Cond.instanceMethod yX1_takeOver ∈ wAll := inA_wA_6 _ (List.mem_of_getElem? (i := 7) rfl)
theorem m200 : Cond.instanceMethod yX2_carve ∈ wAll := inA_wA_6 _ (List.mem_of_getElem? (i := 8) rfl)
theorem m201 : Cond.instanceMethod yX2_end ∈ wAll := inA_wA_6 _ (List.mem_of_getElem? (i := 9) rfl)
theorem m202 : Cond.instanceMethod yX2_extend ∈ wAll := inA_wA_6 _ (List.mem_of_getElem? (i := 10) rfl)
theorem m203 : Cond.instanceMethod yX2_freeAddress ∈ wAll := inA_wA_6 _ (List.mem_of_getElem? (i := 11) rfl)
theorem m204 : Cond.instanceMethod yX2_freeBehind ∈ wAll := inA_wA_6 _ (List.mem_of_getElem? (i := 12) rfl)
theorem m205 : Cond.instanceMethod yX2_freeBlocks ∈ wAll := inA_wA_6 _ (List.mem_of_getElem? (i := 13) rfl)
theorem m206 : Cond.instanceMethod yX2_freeIndex ∈ wAll := inA_wA_6 _ (List.mem_of_getElem? (i := 14) rfl)
theorem m207 : Cond.instanceMethod yX2_freeWords ∈ wAll := inA_wA_6 _ (List.mem_of_getElem? (i := 15) rfl)
theorem m208 : Cond.instanceMethod yX2_indexOf ∈ wAll := inA_wA_6 _ (List.mem_of_getElem? (i := 16) rfl)
theorem m209 : Cond.instanceMethod yX2_init ∈ wAll := inA_wA_6 _ (List.mem_of_getElem? (i := 17) rfl)
theorem m210 : Cond.instanceMethod yX2_isFree ∈ wAll := inA_wA_6 _ (List.mem_of_getElem? (i := 18) rfl)
theorem m211 : Cond.instanceMethod yX2_join ∈ wAll := inA_wA_6 _ (List.mem_of_getElem? (i := 19) rfl)
theorem m212 : Cond.instanceMethod yX2_largestFree ∈ wAll := inA_wA_6 _ (List.mem_of_getElem? (i := 20) rfl)
theorem m213 : Cond.instanceMethod yX2_liveBlocks ∈ wAll := inA_wA_6 _ (List.mem_of_getElem? (i := 21) rfl)
theorem m214 : Cond.instanceMethod yX2_liveIndex ∈ wAll := inA_wA_6 _ (List.mem_of_getElem? (i := 22) rfl)
theorem m215 : Cond.instanceMethod yX2_release ∈ wAll := inA_wA_6 _ (List.mem_of_getElem? (i := 23) rfl)
theorem m216 : Cond.instanceMethod yX2_shift ∈ wAll := inA_wA_6 _ (List.mem_of_getElem? (i := 24) rfl)
theorem m217 : Cond.instanceMethod yX2_shorten ∈ wAll := inA_wA_6 _ (List.mem_of_getElem? (i := 25) rfl)
theorem m218 : Cond.instanceMethod yX2_split ∈ wAll := inA_wA_6 _ (List.mem_of_getElem? (i := 26) rfl)
theorem m219 : Cond.instanceMethod yX3_depth ∈ wAll := inA_wA_6 _ (List.mem_of_getElem? (i := 27) rfl)
theorem m220 : Cond.instanceMethod yX3_depthOfSpine ∈ wAll := inA_wA_6 _ (List.mem_of_getElem? (i := 28) rfl)
theorem m221 : Cond.instanceMethod yX3_init ∈ wAll := inA_wA_6 _ (List.mem_of_getElem? (i := 29) rfl)
theorem m222 : Cond.instanceMethod yX3_topToTheLeft ∈ wAll := inA_wA_6 _ (List.mem_of_getElem? (i := 30) rfl)
theorem m223 : Cond.instanceMethod yX3_topToTheRight ∈ wAll := inA_wA_6 _ (List.mem_of_getElem? (i := 31) rfl)
theorem m224 : Cond.instanceMethod yX4_advise ∈ wAll := inA_wA_7 _ (List.mem_of_getElem? (i := 0) rfl)
theorem m225 : Cond.instanceMethod yX4_apply ∈ wAll := inA_wA_7 _ (List.mem_of_getElem? (i := 1) rfl)
theorem m226 : Cond.instanceMethod yX4_branch ∈ wAll := inA_wA_7 _ (List.mem_of_getElem? (i := 2) rfl)
theorem m227 : Cond.instanceMethod yX4_clearPayload ∈ wAll := inA_wA_7 _ (List.mem_of_getElem? (i := 3) rfl)
theorem m228 : Cond.instanceMethod yX4_copyBlock ∈ wAll := inA_wA_7 _ (List.mem_of_getElem? (i := 4) rfl)
theorem m229 : Cond.instanceMethod yX4_count ∈ wAll := inA_wA_7 _ (List.mem_of_getElem? (i := 5) rfl)
theorem m230 : Cond.instanceMethod yX4_free ∈ wAll := inA_wA_7 _ (List.mem_of_getElem? (i := 6) rfl)
theorem m231 : Cond.instanceMethod yX4_freeAt ∈ wAll := inA_wA_7 _ (List.mem_of_getElem? (i := 7) rfl)
theorem m232 : Cond.instanceMethod yX4_get ∈ wAll := inA_wA_7 _ (List.mem_of_getElem? (i := 8) rfl)
theorem m233 : Cond.instanceMethod yX4_give ∈ wAll := inA_wA_7 _ (List.mem_of_getElem? (i := 9) rfl)
theorem m234 : Cond.instanceMethod yX4_giveAligned ∈ wAll := inA_wA_7 _ (List.mem_of_getElem? (i := 10) rfl)
theorem m235 : Cond.instanceMethod yX4_giveAtMultiple ∈ wAll := inA_wA_7 _ (List.mem_of_getElem? (i := 11) rfl)
theorem m236 : Cond.instanceMethod yX4_grow ∈ wAll := inA_wA_7 _ (List.mem_of_getElem? (i := 12) rfl)
theorem m237 : Cond.instanceMethod yX4_init ∈ wAll := inA_wA_7 _ (List.mem_of_getElem? (i := 13) rfl)
theorem m238 : Cond.instanceMethod yX4_largest ∈ wAll := inA_wA_7 _ (List.mem_of_getElem? (i := 14) rfl)
theorem m239 : Cond.instanceMethod yX4_leaveBlock ∈ wAll := inA_wA_7 _ (List.mem_of_getElem? (i := 15) rfl)
theorem m240 : Cond.instanceMethod yX4_move ∈ wAll := inA_wA_7 _ (List.mem_of_getElem? (i := 16) rfl)
theorem m241 : Cond.instanceMethod yX4_moved ∈ wAll := inA_wA_7 _ (List.mem_of_getElem? (i := 17) rfl)
theorem m242 : Cond.instanceMethod yX4_payloadWord ∈ wAll := inA_wA_7 _ (List.mem_of_getElem? (i := 18) rfl)
theorem m243 : Cond.instanceMethod yX4_pin ∈ wAll := inA_wA_7 _ (List.mem_of_getElem? (i := 19) rfl)
theorem m244 : Cond.instanceMethod yX4_set ∈ wAll := inA_wA_7 _ (List.mem_of_getElem? (i := 20) rfl)
theorem m245 : Cond.instanceMethod yX4_sizeOf ∈ wAll := inA_wA_7 _ (List.mem_of_getElem? (i := 21) rfl)
theorem m246 : Cond.instanceMethod yX4_trim ∈ wAll := inA_wA_7 _ (List.mem_of_getElem? (i := 22) rfl)
theorem m247 : Cond.instanceMethod yX4_window ∈ wAll := inA_wA_7 _ (List.mem_of_getElem? (i := 23) rfl)
theorem m248 : Cond.instanceMethod yX5_advise ∈ wAll := inA_wA_7 _ (List.mem_of_getElem? (i := 24) rfl)
theorem m249 : Cond.instanceMethod yX5_apply ∈ wAll := inA_wA_7 _ (List.mem_of_getElem? (i := 25) rfl)
theorem m250 : Cond.instanceMethod yX5_branch ∈ wAll := inA_wA_7 _ (List.mem_of_getElem? (i := 26) rfl)
theorem m251 : Cond.instanceMethod yX5_count ∈ wAll := inA_wA_7 _ (List.mem_of_getElem? (i := 27) rfl)
theorem m252 : Cond.instanceMethod yX5_depth ∈ wAll := inA_wA_7 _ (List.mem_of_getElem? (i := 28) rfl)
theorem m253 : Cond.instanceMethod yX5_find ∈ wAll := inA_wA_7 _ (List.mem_of_getElem? (i := 29) rfl)
theorem m254 : Cond.instanceMethod yX5_free ∈ wAll := inA_wA_7 _ (List.mem_of_getElem? (i := 30) rfl)
theorem m255 : Cond.instanceMethod yX5_freeAt ∈ wAll := inA_wA_7 _ (List.mem_of_getElem? (i := 31) rfl)
theorem m256 : Cond.instanceMethod yX5_gathers ∈ wAll := inA_wA_8 _ (List.mem_of_getElem? (i := 0) rfl)
theorem m257 : Cond.instanceMethod yX5_get ∈ wAll := inA_wA_8 _ (List.mem_of_getElem? (i := 1) rfl)
theorem m258 : Cond.instanceMethod yX5_give ∈ wAll := inA_wA_8 _ (List.mem_of_getElem? (i := 2) rfl)
theorem m259 : Cond.instanceMethod yX5_giveAligned ∈ wAll := inA_wA_8 _ (List.mem_of_getElem? (i := 3) rfl)
theorem m260 : Cond.instanceMethod yX5_gives ∈ wAll := inA_wA_8 _ (List.mem_of_getElem? (i := 4) rfl)
theorem m261 : Cond.instanceMethod yX5_goes ∈ wAll := inA_wA_8 _ (List.mem_of_getElem? (i := 5) rfl)
theorem m262 : Cond.instanceMethod yX5_groupsFor ∈ wAll := inA_wA_8 _ (List.mem_of_getElem? (i := 6) rfl)
theorem m263 : Cond.instanceMethod yX5_grow ∈ wAll := inA_wA_8 _ (List.mem_of_getElem? (i := 7) rfl)
theorem m264 : Cond.instanceMethod yX5_init ∈ wAll := inA_wA_8 _ (List.mem_of_getElem? (i := 8) rfl)
theorem m265 : Cond.instanceMethod yX5_isFree ∈ wAll := inA_wA_8 _ (List.mem_of_getElem? (i := 9) rfl)
theorem m266 : Cond.instanceMethod yX5_joins ∈ wAll := inA_wA_8 _ (List.mem_of_getElem? (i := 10) rfl)
theorem m267 : Cond.instanceMethod yX5_largest ∈ wAll := inA_wA_8 _ (List.mem_of_getElem? (i := 11) rfl)
theorem m268 : Cond.instanceMethod yX5_move ∈ wAll := inA_wA_8 _ (List.mem_of_getElem? (i := 12) rfl)
theorem m269 : Cond.instanceMethod yX5_moved ∈ wAll := inA_wA_8 _ (List.mem_of_getElem? (i := 13) rfl)
theorem m270 : Cond.instanceMethod yX5_pin ∈ wAll := inA_wA_8 _ (List.mem_of_getElem? (i := 14) rfl)
theorem m271 : Cond.instanceMethod yX5_places ∈ wAll := inA_wA_8 _ (List.mem_of_getElem? (i := 15) rfl)
theorem m272 : Cond.instanceMethod yX5_set ∈ wAll := inA_wA_8 _ (List.mem_of_getElem? (i := 16) rfl)
theorem m273 : Cond.instanceMethod yX5_sizeOf ∈ wAll := inA_wA_8 _ (List.mem_of_getElem? (i := 17) rfl)
theorem m274 : Cond.instanceMethod yX5_takes ∈ wAll := inA_wA_8 _ (List.mem_of_getElem? (i := 18) rfl)
theorem m275 : Cond.instanceMethod yX5_thrown ∈ wAll := inA_wA_8 _ (List.mem_of_getElem? (i := 19) rfl)
theorem m276 : Cond.instanceMethod yX5_top ∈ wAll := inA_wA_8 _ (List.mem_of_getElem? (i := 20) rfl)
theorem m277 : Cond.instanceMethod yX5_trim ∈ wAll := inA_wA_8 _ (List.mem_of_getElem? (i := 21) rfl)
theorem m278 : Cond.instanceMethod yX5_window ∈ wAll := inA_wA_8 _ (List.mem_of_getElem? (i := 22) rfl)
theorem m279 : Cond.instanceMethod yX5_windowEnd ∈ wAll := inA_wA_8 _ (List.mem_of_getElem? (i := 23) rfl)
theorem m280 : Cond.instantiable RX0 8 ∈ wAll := inA_wA_8 _ (List.mem_of_getElem? (i := 24) rfl)
theorem m281 : Cond.instantiable RX1 3 ∈ wAll := inA_wA_8 _ (List.mem_of_getElem? (i := 25) rfl)
theorem m282 : Cond.instantiable RX2 4 ∈ wAll := inA_wA_8 _ (List.mem_of_getElem? (i := 26) rfl)
theorem m283 : Cond.instantiable RX3 3 ∈ wAll := inA_wA_8 _ (List.mem_of_getElem? (i := 27) rfl)
theorem m284 : Cond.instantiable RX4 5 ∈ wAll := inA_wA_8 _ (List.mem_of_getElem? (i := 28) rfl)
theorem m285 : Cond.instantiable RX5 18 ∈ wAll := inA_wA_8 _ (List.mem_of_getElem? (i := 29) rfl)
theorem m286 : Cond.methodLink RJ7 13 yJ7_rangeCheck_23922 ∈ wAll := inA_wA_8 _ (List.mem_of_getElem? (i := 30) rfl)
theorem m287 : Cond.methodLink RL 100 yX4_advise ∈ wAll := inA_wA_8 _ (List.mem_of_getElem? (i := 31) rfl)
theorem m288 : Cond.methodLink RL 103 yX5_advise ∈ wAll := inA_wA_9 _ (List.mem_of_getElem? (i := 0) rfl)
theorem m289 : Cond.methodLink RL 104 yX4_window ∈ wAll := inA_wA_9 _ (List.mem_of_getElem? (i := 1) rfl)
theorem m290 : Cond.methodLink RL 107 yX5_window ∈ wAll := inA_wA_9 _ (List.mem_of_getElem? (i := 2) rfl)
theorem m291 : Cond.methodLink RL 108 yL_move ∈ wAll := inA_wA_9 _ (List.mem_of_getElem? (i := 3) rfl)
theorem m292 : Cond.methodLink RL 110 yX5_move ∈ wAll := inA_wA_9 _ (List.mem_of_getElem? (i := 4) rfl)
theorem m293 : Cond.methodLink RL 111 yX4_apply ∈ wAll := inA_wA_9 _ (List.mem_of_getElem? (i := 5) rfl)
theorem m294 : Cond.methodLink RL 114 yX5_apply ∈ wAll := inA_wA_9 _ (List.mem_of_getElem? (i := 6) rfl)
theorem m295 : Cond.methodLink RL 115 yX4_moved ∈ wAll := inA_wA_9 _ (List.mem_of_getElem? (i := 7) rfl)
theorem m296 : Cond.methodLink RL 118 yX5_moved ∈ wAll := inA_wA_9 _ (List.mem_of_getElem? (i := 8) rfl)
theorem m297 : Cond.methodLink RL 17 yX4_set ∈ wAll := inA_wA_9 _ (List.mem_of_getElem? (i := 9) rfl)
theorem m298 : Cond.methodLink RL 21 yX4_branch ∈ wAll := inA_wA_9 _ (List.mem_of_getElem? (i := 10) rfl)
theorem m299 : Cond.methodLink RL 26 yX4_move ∈ wAll := inA_wA_9 _ (List.mem_of_getElem? (i := 11) rfl)
theorem m300 : Cond.methodLink RL 29 yL_cell ∈ wAll := inA_wA_9 _ (List.mem_of_getElem? (i := 12) rfl)
theorem m301 : Cond.methodLink RL 35 yX4_init ∈ wAll := inA_wA_9 _ (List.mem_of_getElem? (i := 13) rfl)
theorem m302 : Cond.methodLink RL 40 yX5_init ∈ wAll := inA_wA_9 _ (List.mem_of_getElem? (i := 14) rfl)
theorem m303 : Cond.methodLink RL 41 yX4_give ∈ wAll := inA_wA_9 _ (List.mem_of_getElem? (i := 15) rfl)
theorem m304 : Cond.methodLink RL 45 yX5_give ∈ wAll := inA_wA_9 _ (List.mem_of_getElem? (i := 16) rfl)
theorem m305 : Cond.methodLink RL 46 yX4_giveAligned ∈ wAll := inA_wA_9 _ (List.mem_of_getElem? (i := 17) rfl)
theorem m306 : Cond.methodLink RL 49 yX5_giveAligned ∈ wAll := inA_wA_9 _ (List.mem_of_getElem? (i := 18) rfl)
theorem m307 : Cond.methodLink RL 50 yX4_free ∈ wAll := inA_wA_9 _ (List.mem_of_getElem? (i := 19) rfl)
theorem m308 : Cond.methodLink RL 54 yX5_free ∈ wAll := inA_wA_9 _ (List.mem_of_getElem? (i := 20) rfl)
theorem m309 : Cond.methodLink RL 55 yX4_grow ∈ wAll := inA_wA_9 _ (List.mem_of_getElem? (i := 21) rfl)
theorem m310 : Cond.methodLink RL 59 yX5_grow ∈ wAll := inA_wA_9 _ (List.mem_of_getElem? (i := 22) rfl)
theorem m311 : Cond.methodLink RL 60 yX4_trim ∈ wAll := inA_wA_9 _ (List.mem_of_getElem? (i := 23) rfl)
theorem m312 : Cond.methodLink RL 63 yX5_trim ∈ wAll := inA_wA_9 _ (List.mem_of_getElem? (i := 24) rfl)
theorem m313 : Cond.methodLink RL 64 yX4_pin ∈ wAll := inA_wA_9 _ (List.mem_of_getElem? (i := 25) rfl)
theorem m314 : Cond.methodLink RL 68 yX5_pin ∈ wAll := inA_wA_9 _ (List.mem_of_getElem? (i := 26) rfl)
theorem m315 : Cond.methodLink RL 69 yL_get ∈ wAll := inA_wA_9 _ (List.mem_of_getElem? (i := 27) rfl)
theorem m316 : Cond.methodLink RL 7 yX4_get ∈ wAll := inA_wA_9 _ (List.mem_of_getElem? (i := 28) rfl)
theorem m317 : Cond.methodLink RL 72 yX5_get ∈ wAll := inA_wA_9 _ (List.mem_of_getElem? (i := 29) rfl)
theorem m318 : Cond.methodLink RL 73 yX5_thrown ∈ wAll := inA_wA_9 _ (List.mem_of_getElem? (i := 30) rfl)
theorem m319 : Cond.methodLink RL 77 yL_set ∈ wAll := inA_wA_9 _ (List.mem_of_getElem? (i := 31) rfl)
theorem m320 : Cond.methodLink RL 80 yX5_set ∈ wAll := inA_wA_10 _ (List.mem_of_getElem? (i := 0) rfl)
theorem m321 : Cond.methodLink RL 81 yX4_sizeOf ∈ wAll := inA_wA_10 _ (List.mem_of_getElem? (i := 1) rfl)
theorem m322 : Cond.methodLink RL 84 yX5_sizeOf ∈ wAll := inA_wA_10 _ (List.mem_of_getElem? (i := 2) rfl)
theorem m323 : Cond.methodLink RL 85 yX4_largest ∈ wAll := inA_wA_10 _ (List.mem_of_getElem? (i := 3) rfl)
theorem m324 : Cond.methodLink RL 88 yX5_largest ∈ wAll := inA_wA_10 _ (List.mem_of_getElem? (i := 4) rfl)
theorem m325 : Cond.methodLink RL 89 yX4_count ∈ wAll := inA_wA_10 _ (List.mem_of_getElem? (i := 5) rfl)
theorem m326 : Cond.methodLink RL 92 yX5_count ∈ wAll := inA_wA_10 _ (List.mem_of_getElem? (i := 6) rfl)
theorem m327 : Cond.methodLink RL 93 yX4_freeAt ∈ wAll := inA_wA_10 _ (List.mem_of_getElem? (i := 7) rfl)
theorem m328 : Cond.methodLink RL 96 yX5_freeAt ∈ wAll := inA_wA_10 _ (List.mem_of_getElem? (i := 8) rfl)
theorem m329 : Cond.methodLink RL 97 yL_branch ∈ wAll := inA_wA_10 _ (List.mem_of_getElem? (i := 9) rfl)
theorem m330 : Cond.methodLink RL 99 yX5_branch ∈ wAll := inA_wA_10 _ (List.mem_of_getElem? (i := 10) rfl)
theorem m331 : Cond.methodLink RX0 23 yX1_init ∈ wAll := inA_wA_10 _ (List.mem_of_getElem? (i := 11) rfl)
theorem m332 : Cond.methodLink RX0 3 objectInit ∈ wAll := inA_wA_10 _ (List.mem_of_getElem? (i := 12) rfl)
theorem m333 : Cond.methodLink RX0 48 yX0_rankMovables ∈ wAll := inA_wA_10 _ (List.mem_of_getElem? (i := 13) rfl)
theorem m334 : Cond.methodLink RX0 51 yX2_freeWords ∈ wAll := inA_wA_10 _ (List.mem_of_getElem? (i := 14) rfl)
theorem m335 : Cond.methodLink RX0 60 Lib.Math.max.name ∈ wAll := inA_wA_10 _ (List.mem_of_getElem? (i := 15) rfl)
theorem m336 : Cond.methodLink RX0 69 yX0_placeVictims ∈ wAll := inA_wA_10 _ (List.mem_of_getElem? (i := 16) rfl)
theorem m337 : Cond.methodLink RX0 79 yX1_takeOver ∈ wAll := inA_wA_10 _ (List.mem_of_getElem? (i := 17) rfl)
theorem m338 : Cond.methodLink RX0 86 yX0_lowestPlace ∈ wAll := inA_wA_10 _ (List.mem_of_getElem? (i := 18) rfl)
theorem m339 : Cond.methodLink RX0 89 yX2_end ∈ wAll := inA_wA_10 _ (List.mem_of_getElem? (i := 19) rfl)
theorem m340 : Cond.methodLink RX0 9 Lib.Math.min.name ∈ wAll := inA_wA_10 _ (List.mem_of_getElem? (i := 20) rfl)
theorem m341 : Cond.methodLink RX0 93 yX1_put ∈ wAll := inA_wA_10 _ (List.mem_of_getElem? (i := 21) rfl)
theorem m342 : Cond.methodLink RX1 22 yX1_put ∈ wAll := inA_wA_10 _ (List.mem_of_getElem? (i := 22) rfl)
theorem m343 : Cond.methodLink RX1 3 objectInit ∈ wAll := inA_wA_10 _ (List.mem_of_getElem? (i := 23) rfl)
theorem m344 : Cond.methodLink RX2 25 yX2_indexOf ∈ wAll := inA_wA_10 _ (List.mem_of_getElem? (i := 24) rfl)
theorem m345 : Cond.methodLink RX2 29 yX2_freeBlocks ∈ wAll := inA_wA_10 _ (List.mem_of_getElem? (i := 25) rfl)
theorem m346 : Cond.methodLink RX2 3 objectInit ∈ wAll := inA_wA_10 _ (List.mem_of_getElem? (i := 26) rfl)
theorem m347 : Cond.methodLink RX2 33 Lib.Math.max.name ∈ wAll := inA_wA_10 _ (List.mem_of_getElem? (i := 27) rfl)
theorem m348 : Cond.methodLink RX2 39 yX2_isFree ∈ wAll := inA_wA_10 _ (List.mem_of_getElem? (i := 28) rfl)
theorem m349 : Cond.methodLink RX2 43 yX2_split ∈ wAll := inA_wA_10 _ (List.mem_of_getElem? (i := 29) rfl)
theorem m350 : Cond.methodLink RX2 47 yX2_join ∈ wAll := inA_wA_10 _ (List.mem_of_getElem? (i := 30) rfl)
theorem m351 : Cond.methodLink RX2 51 yX2_release ∈ wAll := inA_wA_10 _ (List.mem_of_getElem? (i := 31) rfl)
theorem m352 : Cond.methodLink RX2 54 yX2_shift ∈ wAll := inA_wA_11 _ (List.mem_of_getElem? (i := 0) rfl)
theorem m353 : Cond.methodLink RX2 57 arraycopyName ∈ wAll := inA_wA_11 _ (List.mem_of_getElem? (i := 1) rfl)
theorem m354 : Cond.methodLink RX3 3 objectInit ∈ wAll := inA_wA_11 _ (List.mem_of_getElem? (i := 2) rfl)
theorem m355 : Cond.methodLink RX3 34 yX3_depthOfSpine ∈ wAll := inA_wA_11 _ (List.mem_of_getElem? (i := 3) rfl)
theorem m356 : Cond.methodLink RX3 38 Lib.Math.max.name ∈ wAll := inA_wA_11 _ (List.mem_of_getElem? (i := 4) rfl)
theorem m357 : Cond.methodLink RX4 1 objectInit ∈ wAll := inA_wA_11 _ (List.mem_of_getElem? (i := 5) rfl)
theorem m358 : Cond.methodLink RX4 100 yX2_freeWords ∈ wAll := inA_wA_11 _ (List.mem_of_getElem? (i := 6) rfl)
theorem m359 : Cond.methodLink RX4 103 yX2_liveBlocks ∈ wAll := inA_wA_11 _ (List.mem_of_getElem? (i := 7) rfl)
theorem m360 : Cond.methodLink RX4 113 yX3_depth ∈ wAll := inA_wA_11 _ (List.mem_of_getElem? (i := 8) rfl)
theorem m361 : Cond.methodLink RX4 116 yX2_freeAddress ∈ wAll := inA_wA_11 _ (List.mem_of_getElem? (i := 9) rfl)
theorem m362 : Cond.methodLink RX4 119 yX2_freeIndex ∈ wAll := inA_wA_11 _ (List.mem_of_getElem? (i := 10) rfl)
theorem m363 : Cond.methodLink RX4 129 yX3_topToTheLeft ∈ wAll := inA_wA_11 _ (List.mem_of_getElem? (i := 11) rfl)
theorem m364 : Cond.methodLink RX4 132 yX3_topToTheRight ∈ wAll := inA_wA_11 _ (List.mem_of_getElem? (i := 12) rfl)
theorem m365 : Cond.methodLink RX4 140 yX0_search ∈ wAll := inA_wA_11 _ (List.mem_of_getElem? (i := 13) rfl)
theorem m366 : Cond.methodLink RX4 15 Lib.Math.max.name ∈ wAll := inA_wA_11 _ (List.mem_of_getElem? (i := 14) rfl)
theorem m367 : Cond.methodLink RX4 163 yX1_takeOver ∈ wAll := inA_wA_11 _ (List.mem_of_getElem? (i := 15) rfl)
theorem m368 : Cond.methodLink RX4 167 yX4_copyBlock ∈ wAll := inA_wA_11 _ (List.mem_of_getElem? (i := 16) rfl)
theorem m369 : Cond.methodLink RX4 170 yX4_leaveBlock ∈ wAll := inA_wA_11 _ (List.mem_of_getElem? (i := 17) rfl)
theorem m370 : Cond.methodLink RX4 173 yX1_placeOf ∈ wAll := inA_wA_11 _ (List.mem_of_getElem? (i := 18) rfl)
theorem m371 : Cond.methodLink RX4 182 yX4_nextMultiple ∈ wAll := inA_wA_11 _ (List.mem_of_getElem? (i := 19) rfl)
theorem m372 : Cond.methodLink RX4 185 yX2_end ∈ wAll := inA_wA_11 _ (List.mem_of_getElem? (i := 20) rfl)
theorem m373 : Cond.methodLink RX4 188 yX2_carve ∈ wAll := inA_wA_11 _ (List.mem_of_getElem? (i := 21) rfl)
theorem m374 : Cond.methodLink RX4 191 yJ7_fill_fda19 ∈ wAll := inA_wA_11 _ (List.mem_of_getElem? (i := 22) rfl)
theorem m375 : Cond.methodLink RX4 201 arraycopyName ∈ wAll := inA_wA_11 _ (List.mem_of_getElem? (i := 23) rfl)
theorem m376 : Cond.methodLink RX4 24 yX2_init ∈ wAll := inA_wA_11 _ (List.mem_of_getElem? (i := 24) rfl)
theorem m377 : Cond.methodLink RX4 33 yX3_init ∈ wAll := inA_wA_11 _ (List.mem_of_getElem? (i := 25) rfl)
theorem m378 : Cond.methodLink RX4 42 yX0_init ∈ wAll := inA_wA_11 _ (List.mem_of_getElem? (i := 26) rfl)
theorem m379 : Cond.methodLink RX4 49 yX1_init ∈ wAll := inA_wA_11 _ (List.mem_of_getElem? (i := 27) rfl)
theorem m380 : Cond.methodLink RX4 54 yX4_giveAtMultiple ∈ wAll := inA_wA_11 _ (List.mem_of_getElem? (i := 28) rfl)
theorem m381 : Cond.methodLink RX4 57 yX2_liveIndex ∈ wAll := inA_wA_11 _ (List.mem_of_getElem? (i := 29) rfl)
theorem m382 : Cond.methodLink RX4 61 yX2_release ∈ wAll := inA_wA_11 _ (List.mem_of_getElem? (i := 30) rfl)
theorem m383 : Cond.methodLink RX4 64 yX0_drop ∈ wAll := inA_wA_11 _ (List.mem_of_getElem? (i := 31) rfl)
theorem m384 : Cond.methodLink RX4 70 yX4_sizeFor ∈ wAll := inA_wA_12 _ (List.mem_of_getElem? (i := 0) rfl)
theorem m385 : Cond.methodLink RX4 73 yX2_freeBehind ∈ wAll := inA_wA_12 _ (List.mem_of_getElem? (i := 1) rfl)
theorem m386 : Cond.methodLink RX4 76 yX2_extend ∈ wAll := inA_wA_12 _ (List.mem_of_getElem? (i := 2) rfl)
theorem m387 : Cond.methodLink RX4 80 yX4_clearPayload ∈ wAll := inA_wA_12 _ (List.mem_of_getElem? (i := 3) rfl)
theorem m388 : Cond.methodLink RX4 84 yX2_shorten ∈ wAll := inA_wA_12 _ (List.mem_of_getElem? (i := 4) rfl)
theorem m389 : Cond.methodLink RX4 9 Lib.Math.min.name ∈ wAll := inA_wA_12 _ (List.mem_of_getElem? (i := 5) rfl)
theorem m390 : Cond.methodLink RX4 90 yX4_payloadWord ∈ wAll := inA_wA_12 _ (List.mem_of_getElem? (i := 6) rfl)
theorem m391 : Cond.methodLink RX4 93 yX2_largestFree ∈ wAll := inA_wA_12 _ (List.mem_of_getElem? (i := 7) rfl)
theorem m392 : Cond.methodLink RX4 97 yX2_freeBlocks ∈ wAll := inA_wA_12 _ (List.mem_of_getElem? (i := 8) rfl)
theorem m393 : Cond.methodLink RX5 1 objectInit ∈ wAll := inA_wA_12 _ (List.mem_of_getElem? (i := 9) rfl)
theorem m394 : Cond.methodLink RX5 100 yX5_windowEnd ∈ wAll := inA_wA_12 _ (List.mem_of_getElem? (i := 10) rfl)
theorem m395 : Cond.methodLink RX5 103 yX5_gathers ∈ wAll := inA_wA_12 _ (List.mem_of_getElem? (i := 11) rfl)
theorem m396 : Cond.methodLink RX5 107 yX5_places ∈ wAll := inA_wA_12 _ (List.mem_of_getElem? (i := 12) rfl)
theorem m397 : Cond.methodLink RX5 117 yX5_goes ∈ wAll := inA_wA_12 _ (List.mem_of_getElem? (i := 13) rfl)
theorem m398 : Cond.methodLink RX5 51 yX5_isFree ∈ wAll := inA_wA_12 _ (List.mem_of_getElem? (i := 14) rfl)
theorem m399 : Cond.methodLink RX5 55 yX5_address ∈ wAll := inA_wA_12 _ (List.mem_of_getElem? (i := 15) rfl)
theorem m400 : Cond.methodLink RX5 59 yX5_gives ∈ wAll := inA_wA_12 _ (List.mem_of_getElem? (i := 16) rfl)
theorem m401 : Cond.methodLink RX5 63 yX5_groupsFor ∈ wAll := inA_wA_12 _ (List.mem_of_getElem? (i := 17) rfl)
theorem m402 : Cond.methodLink RX5 66 yX5_takes ∈ wAll := inA_wA_12 _ (List.mem_of_getElem? (i := 18) rfl)
theorem m403 : Cond.methodLink RX5 74 yX5_find ∈ wAll := inA_wA_12 _ (List.mem_of_getElem? (i := 19) rfl)
theorem m404 : Cond.methodLink RX5 77 yX5_joins ∈ wAll := inA_wA_12 _ (List.mem_of_getElem? (i := 20) rfl)
theorem m405 : Cond.methodLink RX5 80 yX5_get ∈ wAll := inA_wA_12 _ (List.mem_of_getElem? (i := 21) rfl)
theorem m406 : Cond.methodLink RX5 83 yX5_top ∈ wAll := inA_wA_12 _ (List.mem_of_getElem? (i := 22) rfl)
theorem m407 : Cond.methodLink RX5 86 yX5_depth ∈ wAll := inA_wA_12 _ (List.mem_of_getElem? (i := 23) rfl)
theorem m408 : Cond.methodLink RX5 97 yX5_count ∈ wAll := inA_wA_12 _ (List.mem_of_getElem? (i := 24) rfl)
theorem m409 : Cond.native arraycopyName ∈ wAll := inA_wA_12 _ (List.mem_of_getElem? (i := 25) rfl)
theorem m410 : Cond.selects RX0 yX0_drop yX0_drop ∈ wAll := inA_wA_12 _ (List.mem_of_getElem? (i := 26) rfl)
theorem m411 : Cond.selects RX0 yX0_lowestPlace yX0_lowestPlace ∈ wAll := inA_wA_12 _ (List.mem_of_getElem? (i := 27) rfl)
theorem m412 : Cond.selects RX0 yX0_placeVictims yX0_placeVictims ∈ wAll := inA_wA_12 _ (List.mem_of_getElem? (i := 28) rfl)
theorem m413 : Cond.selects RX0 yX0_rankMovables yX0_rankMovables ∈ wAll := inA_wA_12 _ (List.mem_of_getElem? (i := 29) rfl)
theorem m414 : Cond.selects RX0 yX0_search yX0_search ∈ wAll := inA_wA_12 _ (List.mem_of_getElem? (i := 30) rfl)
theorem m415 : Cond.selects RX1 yX1_placeOf yX1_placeOf ∈ wAll := inA_wA_12 _ (List.mem_of_getElem? (i := 31) rfl)
theorem m416 : Cond.selects RX1 yX1_put yX1_put ∈ wAll := inA_wA_13 _ (List.mem_of_getElem? (i := 0) rfl)
theorem m417 : Cond.selects RX1 yX1_takeOver yX1_takeOver ∈ wAll := inA_wA_13 _ (List.mem_of_getElem? (i := 1) rfl)
theorem m418 : Cond.selects RX2 yX2_carve yX2_carve ∈ wAll := inA_wA_13 _ (List.mem_of_getElem? (i := 2) rfl)
theorem m419 : Cond.selects RX2 yX2_end yX2_end ∈ wAll := inA_wA_13 _ (List.mem_of_getElem? (i := 3) rfl)
theorem m420 : Cond.selects RX2 yX2_extend yX2_extend ∈ wAll := inA_wA_13 _ (List.mem_of_getElem? (i := 4) rfl)
theorem m421 : Cond.selects RX2 yX2_freeAddress yX2_freeAddress ∈ wAll := inA_wA_13 _ (List.mem_of_getElem? (i := 5) rfl)
theorem m422 : Cond.selects RX2 yX2_freeBehind yX2_freeBehind ∈ wAll := inA_wA_13 _ (List.mem_of_getElem? (i := 6) rfl)
theorem m423 : Cond.selects RX2 yX2_freeBlocks yX2_freeBlocks ∈ wAll := inA_wA_13 _ (List.mem_of_getElem? (i := 7) rfl)
theorem m424 : Cond.selects RX2 yX2_freeIndex yX2_freeIndex ∈ wAll := inA_wA_13 _ (List.mem_of_getElem? (i := 8) rfl)
theorem m425 : Cond.selects RX2 yX2_freeWords yX2_freeWords ∈ wAll := inA_wA_13 _ (List.mem_of_getElem? (i := 9) rfl)
theorem m426 : Cond.selects RX2 yX2_indexOf yX2_indexOf ∈ wAll := inA_wA_13 _ (List.mem_of_getElem? (i := 10) rfl)
theorem m427 : Cond.selects RX2 yX2_isFree yX2_isFree ∈ wAll := inA_wA_13 _ (List.mem_of_getElem? (i := 11) rfl)
theorem m428 : Cond.selects RX2 yX2_join yX2_join ∈ wAll := inA_wA_13 _ (List.mem_of_getElem? (i := 12) rfl)
theorem m429 : Cond.selects RX2 yX2_largestFree yX2_largestFree ∈ wAll := inA_wA_13 _ (List.mem_of_getElem? (i := 13) rfl)
theorem m430 : Cond.selects RX2 yX2_liveBlocks yX2_liveBlocks ∈ wAll := inA_wA_13 _ (List.mem_of_getElem? (i := 14) rfl)
theorem m431 : Cond.selects RX2 yX2_liveIndex yX2_liveIndex ∈ wAll := inA_wA_13 _ (List.mem_of_getElem? (i := 15) rfl)
theorem m432 : Cond.selects RX2 yX2_release yX2_release ∈ wAll := inA_wA_13 _ (List.mem_of_getElem? (i := 16) rfl)
theorem m433 : Cond.selects RX2 yX2_shift yX2_shift ∈ wAll := inA_wA_13 _ (List.mem_of_getElem? (i := 17) rfl)
theorem m434 : Cond.selects RX2 yX2_shorten yX2_shorten ∈ wAll := inA_wA_13 _ (List.mem_of_getElem? (i := 18) rfl)
theorem m435 : Cond.selects RX2 yX2_split yX2_split ∈ wAll := inA_wA_13 _ (List.mem_of_getElem? (i := 19) rfl)
theorem m436 : Cond.selects RX3 yX3_depth yX3_depth ∈ wAll := inA_wA_13 _ (List.mem_of_getElem? (i := 20) rfl)
theorem m437 : Cond.selects RX3 yX3_depthOfSpine yX3_depthOfSpine ∈ wAll := inA_wA_13 _ (List.mem_of_getElem? (i := 21) rfl)
theorem m438 : Cond.selects RX3 yX3_topToTheLeft yX3_topToTheLeft ∈ wAll := inA_wA_13 _ (List.mem_of_getElem? (i := 22) rfl)
theorem m439 : Cond.selects RX3 yX3_topToTheRight yX3_topToTheRight ∈ wAll := inA_wA_13 _ (List.mem_of_getElem? (i := 23) rfl)
theorem m440 : Cond.selects RX4 yX4_advise yX4_advise ∈ wAll := inA_wA_13 _ (List.mem_of_getElem? (i := 24) rfl)
theorem m441 : Cond.selects RX4 yX4_apply yX4_apply ∈ wAll := inA_wA_13 _ (List.mem_of_getElem? (i := 25) rfl)
theorem m442 : Cond.selects RX4 yX4_branch yX4_branch ∈ wAll := inA_wA_13 _ (List.mem_of_getElem? (i := 26) rfl)
theorem m443 : Cond.selects RX4 yX4_clearPayload yX4_clearPayload ∈ wAll := inA_wA_13 _ (List.mem_of_getElem? (i := 27) rfl)
theorem m444 : Cond.selects RX4 yX4_copyBlock yX4_copyBlock ∈ wAll := inA_wA_13 _ (List.mem_of_getElem? (i := 28) rfl)
theorem m445 : Cond.selects RX4 yX4_count yX4_count ∈ wAll := inA_wA_13 _ (List.mem_of_getElem? (i := 29) rfl)
theorem m446 : Cond.selects RX4 yX4_free yX4_free ∈ wAll := inA_wA_13 _ (List.mem_of_getElem? (i := 30) rfl)
theorem m447 : Cond.selects RX4 yX4_freeAt yX4_freeAt ∈ wAll := inA_wA_13 _ (List.mem_of_getElem? (i := 31) rfl)
theorem m448 : Cond.selects RX4 yX4_get yX4_get ∈ wAll := inA_wA_14 _ (List.mem_of_getElem? (i := 0) rfl)
theorem m449 : Cond.selects RX4 yX4_give yX4_give ∈ wAll := inA_wA_14 _ (List.mem_of_getElem? (i := 1) rfl)
theorem m450 : Cond.selects RX4 yX4_giveAligned yX4_giveAligned ∈ wAll := inA_wA_14 _ (List.mem_of_getElem? (i := 2) rfl)
theorem m451 : Cond.selects RX4 yX4_giveAtMultiple yX4_giveAtMultiple ∈ wAll := inA_wA_14 _ (List.mem_of_getElem? (i := 3) rfl)
theorem m452 : Cond.selects RX4 yX4_grow yX4_grow ∈ wAll := inA_wA_14 _ (List.mem_of_getElem? (i := 4) rfl)
theorem m453 : Cond.selects RX4 yX4_largest yX4_largest ∈ wAll := inA_wA_14 _ (List.mem_of_getElem? (i := 5) rfl)
theorem m454 : Cond.selects RX4 yX4_leaveBlock yX4_leaveBlock ∈ wAll := inA_wA_14 _ (List.mem_of_getElem? (i := 6) rfl)
theorem m455 : Cond.selects RX4 yX4_move yX4_move ∈ wAll := inA_wA_14 _ (List.mem_of_getElem? (i := 7) rfl)
theorem m456 : Cond.selects RX4 yX4_moved yX4_moved ∈ wAll := inA_wA_14 _ (List.mem_of_getElem? (i := 8) rfl)
theorem m457 : Cond.selects RX4 yX4_payloadWord yX4_payloadWord ∈ wAll := inA_wA_14 _ (List.mem_of_getElem? (i := 9) rfl)
theorem m458 : Cond.selects RX4 yX4_pin yX4_pin ∈ wAll := inA_wA_14 _ (List.mem_of_getElem? (i := 10) rfl)
theorem m459 : Cond.selects RX4 yX4_set yX4_set ∈ wAll := inA_wA_14 _ (List.mem_of_getElem? (i := 11) rfl)
theorem m460 : Cond.selects RX4 yX4_sizeOf yX4_sizeOf ∈ wAll := inA_wA_14 _ (List.mem_of_getElem? (i := 12) rfl)
theorem m461 : Cond.selects RX4 yX4_trim yX4_trim ∈ wAll := inA_wA_14 _ (List.mem_of_getElem? (i := 13) rfl)
theorem m462 : Cond.selects RX4 yX4_window yX4_window ∈ wAll := inA_wA_14 _ (List.mem_of_getElem? (i := 14) rfl)
theorem m463 : Cond.selects RX5 yX5_advise yX5_advise ∈ wAll := inA_wA_14 _ (List.mem_of_getElem? (i := 15) rfl)
theorem m464 : Cond.selects RX5 yX5_apply yX5_apply ∈ wAll := inA_wA_14 _ (List.mem_of_getElem? (i := 16) rfl)
theorem m465 : Cond.selects RX5 yX5_branch yX5_branch ∈ wAll := inA_wA_14 _ (List.mem_of_getElem? (i := 17) rfl)
theorem m466 : Cond.selects RX5 yX5_count yX5_count ∈ wAll := inA_wA_14 _ (List.mem_of_getElem? (i := 18) rfl)
theorem m467 : Cond.selects RX5 yX5_depth yX5_depth ∈ wAll := inA_wA_14 _ (List.mem_of_getElem? (i := 19) rfl)
theorem m468 : Cond.selects RX5 yX5_find yX5_find ∈ wAll := inA_wA_14 _ (List.mem_of_getElem? (i := 20) rfl)
theorem m469 : Cond.selects RX5 yX5_free yX5_free ∈ wAll := inA_wA_14 _ (List.mem_of_getElem? (i := 21) rfl)
theorem m470 : Cond.selects RX5 yX5_freeAt yX5_freeAt ∈ wAll := inA_wA_14 _ (List.mem_of_getElem? (i := 22) rfl)
theorem m471 : Cond.selects RX5 yX5_gathers yX5_gathers ∈ wAll := inA_wA_14 _ (List.mem_of_getElem? (i := 23) rfl)
theorem m472 : Cond.selects RX5 yX5_get yX5_get ∈ wAll := inA_wA_14 _ (List.mem_of_getElem? (i := 24) rfl)
theorem m473 : Cond.selects RX5 yX5_give yX5_give ∈ wAll := inA_wA_14 _ (List.mem_of_getElem? (i := 25) rfl)
theorem m474 : Cond.selects RX5 yX5_giveAligned yX5_giveAligned ∈ wAll := inA_wA_14 _ (List.mem_of_getElem? (i := 26) rfl)
theorem m475 : Cond.selects RX5 yX5_gives yX5_gives ∈ wAll := inA_wA_14 _ (List.mem_of_getElem? (i := 27) rfl)
theorem m476 : Cond.selects RX5 yX5_goes yX5_goes ∈ wAll := inA_wA_14 _ (List.mem_of_getElem? (i := 28) rfl)
theorem m477 : Cond.selects RX5 yX5_groupsFor yX5_groupsFor ∈ wAll := inA_wA_14 _ (List.mem_of_getElem? (i := 29) rfl)
theorem m478 : Cond.selects RX5 yX5_grow yX5_grow ∈ wAll := inA_wA_14 _ (List.mem_of_getElem? (i := 30) rfl)
theorem m479 : Cond.selects RX5 yX5_isFree yX5_isFree ∈ wAll := inA_wA_14 _ (List.mem_of_getElem? (i := 31) rfl)
theorem m480 : Cond.selects RX5 yX5_joins yX5_joins ∈ wAll := inA_wA_15 _ (List.mem_of_getElem? (i := 0) rfl)
theorem m481 : Cond.selects RX5 yX5_largest yX5_largest ∈ wAll := inA_wA_15 _ (List.mem_of_getElem? (i := 1) rfl)
theorem m482 : Cond.selects RX5 yX5_move yX5_move ∈ wAll := inA_wA_15 _ (List.mem_of_getElem? (i := 2) rfl)
theorem m483 : Cond.selects RX5 yX5_moved yX5_moved ∈ wAll := inA_wA_15 _ (List.mem_of_getElem? (i := 3) rfl)
theorem m484 : Cond.selects RX5 yX5_pin yX5_pin ∈ wAll := inA_wA_15 _ (List.mem_of_getElem? (i := 4) rfl)
theorem m485 : Cond.selects RX5 yX5_places yX5_places ∈ wAll := inA_wA_15 _ (List.mem_of_getElem? (i := 5) rfl)
theorem m486 : Cond.selects RX5 yX5_set yX5_set ∈ wAll := inA_wA_15 _ (List.mem_of_getElem? (i := 6) rfl)
theorem m487 : Cond.selects RX5 yX5_sizeOf yX5_sizeOf ∈ wAll := inA_wA_15 _ (List.mem_of_getElem? (i := 7) rfl)
theorem m488 : Cond.selects RX5 yX5_takes yX5_takes ∈ wAll := inA_wA_15 _ (List.mem_of_getElem? (i := 8) rfl)
theorem m489 : Cond.selects RX5 yX5_thrown yX5_thrown ∈ wAll := inA_wA_15 _ (List.mem_of_getElem? (i := 9) rfl)
theorem m490 : Cond.selects RX5 yX5_top yX5_top ∈ wAll := inA_wA_15 _ (List.mem_of_getElem? (i := 10) rfl)
theorem m491 : Cond.selects RX5 yX5_trim yX5_trim ∈ wAll := inA_wA_15 _ (List.mem_of_getElem? (i := 11) rfl)
theorem m492 : Cond.selects RX5 yX5_window yX5_window ∈ wAll := inA_wA_15 _ (List.mem_of_getElem? (i := 12) rfl)
theorem m493 : Cond.selects RX5 yX5_windowEnd yX5_windowEnd ∈ wAll := inA_wA_15 _ (List.mem_of_getElem? (i := 13) rfl)
theorem m494 : Cond.static Lib.Math.max.name ∈ wAll := inA_wA_15 _ (List.mem_of_getElem? (i := 14) rfl)
theorem m495 : Cond.static Lib.Math.min.name ∈ wAll := inA_wA_15 _ (List.mem_of_getElem? (i := 15) rfl)
theorem m496 : Cond.static arraycopyName ∈ wAll := inA_wA_15 _ (List.mem_of_getElem? (i := 16) rfl)
theorem m497 : Cond.static yJ7_fill_fda19 ∈ wAll := inA_wA_15 _ (List.mem_of_getElem? (i := 17) rfl)
theorem m498 : Cond.static yJ7_rangeCheck_23922 ∈ wAll := inA_wA_15 _ (List.mem_of_getElem? (i := 18) rfl)
theorem m499 : Cond.static yL_branch ∈ wAll := inA_wA_15 _ (List.mem_of_getElem? (i := 19) rfl)
theorem m500 : Cond.static yL_cell ∈ wAll := inA_wA_15 _ (List.mem_of_getElem? (i := 20) rfl)
theorem m501 : Cond.static yL_get ∈ wAll := inA_wA_15 _ (List.mem_of_getElem? (i := 21) rfl)
theorem m502 : Cond.static yL_move ∈ wAll := inA_wA_15 _ (List.mem_of_getElem? (i := 22) rfl)
theorem m503 : Cond.static yL_set ∈ wAll := inA_wA_15 _ (List.mem_of_getElem? (i := 23) rfl)
theorem m504 : Cond.static yX4_nextMultiple ∈ wAll := inA_wA_15 _ (List.mem_of_getElem? (i := 24) rfl)
theorem m505 : Cond.static yX4_sizeFor ∈ wAll := inA_wA_15 _ (List.mem_of_getElem? (i := 25) rfl)
theorem m506 : Cond.static yX5_address ∈ wAll := inA_wA_15 _ (List.mem_of_getElem? (i := 26) rfl)
theorem wAll_good : wAll.all goodWord = true := by decide +kernel
